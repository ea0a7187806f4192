theorem dX0_init_0 : decode cX0_init 0 = .ok (.aload_n 0, 1) := by decide +kernel
theorem dX0_init_1 : decode cX0_init 1 = .ok (.invokespecial 3, 3) := by decide +kernel
theorem dX0_init_4 : decode cX0_init 4 = .ok (.aload_n 0, 1) := by decide +kernel
theorem dX0_init_5 : decode cX0_init 5 = .ok (.bipush 9, 2) := by decide +kernel
theorem dX0_init_7 : decode cX0_init 7 = .ok (.newarray .int, 2) := by decide +kernel
theorem dX0_init_9 : decode cX0_init 9 = .ok (.putfield 9, 3) := by decide +kernel
theorem dX0_init_12 : decode cX0_init 12 = .ok (.aload_n 0, 1) := by decide +kernel
theorem dX0_init_13 : decode cX0_init 13 = .ok (.bipush 9, 2) := by decide +kernel
theorem dX0_init_15 : decode cX0_init 15 = .ok (.newarray .int, 2) := by decide +kernel
theorem dX0_init_17 : decode cX0_init 17 = .ok (.putfield 15, 3) := by decide +kernel
theorem dX0_init_20 : decode cX0_init 20 = .ok (.aload_n 0, 1) := by decide +kernel
theorem dX0_init_21 : decode cX0_init 21 = .ok (.bipush 9, 2) := by decide +kernel
theorem dX0_init_23 : decode cX0_init 23 = .ok (.newarray .int, 2) := by decide +kernel
theorem dX0_init_25 : decode cX0_init 25 = .ok (.putfield 18, 3) := by decide +kernel
theorem dX0_init_28 : decode cX0_init 28 = .ok (.aload_n 0, 1) := by decide +kernel
theorem dX0_init_29 : decode cX0_init 29 = .ok (.bipush 9, 2) := by decide +kernel
theorem dX0_init_31 : decode cX0_init 31 = .ok (.newarray .int, 2) := by decide +kernel
theorem dX0_init_33 : decode cX0_init 33 = .ok (.putfield 21, 3) := by decide +kernel
theorem dX0_init_36 : decode cX0_init 36 = .ok (.aload_n 0, 1) := by decide +kernel
theorem dX0_init_37 : decode cX0_init 37 = .ok (.bipush 72, 2) := by decide +kernel
theorem dX0_init_39 : decode cX0_init 39 = .ok (.newarray .int, 2) := by decide +kernel
theorem dX0_init_41 : decode cX0_init 41 = .ok (.putfield 24, 3) := by decide +kernel
theorem dX0_init_44 : decode cX0_init 44 = .ok (.aload_n 0, 1) := by decide +kernel
theorem dX0_init_45 : decode cX0_init 45 = .ok (.bipush 9, 2) := by decide +kernel
theorem dX0_init_47 : decode cX0_init 47 = .ok (.newarray .int, 2) := by decide +kernel
theorem dX0_init_49 : decode cX0_init 49 = .ok (.putfield 27, 3) := by decide +kernel
theorem dX0_init_52 : decode cX0_init 52 = .ok (.aload_n 0, 1) := by decide +kernel
theorem dX0_init_53 : decode cX0_init 53 = .ok (.aload_n 1, 1) := by decide +kernel
theorem dX0_init_54 : decode cX0_init 54 = .ok (.putfield 30, 3) := by decide +kernel
theorem dX0_init_57 : decode cX0_init 57 = .ok (.aload_n 0, 1) := by decide +kernel
theorem dX0_init_58 : decode cX0_init 58 = .ok (.aload_n 2, 1) := by decide +kernel
theorem dX0_init_59 : decode cX0_init 59 = .ok (.putfield 34, 3) := by decide +kernel
theorem dX0_init_62 : decode cX0_init 62 = .ok (.return_, 1) := by decide +kernel
theorem dX0_has_0 : decode cX0_has 0 = .ok (.iload_n 1, 1) := by decide +kernel
theorem dX0_has_1 : decode cX0_has 1 = .ok (.aload_n 0, 1) := by decide +kernel
theorem dX0_has_2 : decode cX0_has 2 = .ok (.getfield 38, 3) := by decide +kernel
theorem dX0_has_5 : decode cX0_has 5 = .ok (.invokestatic 42, 3) := by decide +kernel
theorem dX0_has_8 : decode cX0_has 8 = .ok (.ireturn, 1) := by decide +kernel
theorem dX0_come_0 : decode cX0_come 0 = .ok (.iload_n 1, 1) := by decide +kernel
theorem dX0_come_1 : decode cX0_come 1 = .ok (.sipush 400, 3) := by decide +kernel
theorem dX0_come_4 : decode cX0_come 4 = .ok (.invokestatic 42, 3) := by decide +kernel
theorem dX0_come_7 : decode cX0_come 7 = .ok (.ifCond .eq 13, 3) := by decide +kernel
theorem dX0_come_10 : decode cX0_come 10 = .ok (.iload_n 2, 1) := by decide +kernel
theorem dX0_come_11 : decode cX0_come 11 = .ok (.sipush 256, 3) := by decide +kernel
theorem dX0_come_14 : decode cX0_come 14 = .ok (.invokestatic 42, 3) := by decide +kernel
theorem dX0_come_17 : decode cX0_come 17 = .ok (.ifCond .ne 6, 3) := by decide +kernel
theorem dX0_come_20 : decode cX0_come 20 = .ok (.bipush (-2), 2) := by decide +kernel
theorem dX0_come_22 : decode cX0_come 22 = .ok (.ireturn, 1) := by decide +kernel
theorem dX0_come_23 : decode cX0_come 23 = .ok (.aload_n 0, 1) := by decide +kernel
theorem dX0_come_24 : decode cX0_come 24 = .ok (.getfield 38, 3) := by decide +kernel
theorem dX0_come_27 : decode cX0_come 27 = .ok (.bipush 8, 2) := by decide +kernel
theorem dX0_come_29 : decode cX0_come 29 = .ok (.if_icmp .lt 6, 3) := by decide +kernel
theorem dX0_come_32 : decode cX0_come 32 = .ok (.bipush (-4), 2) := by decide +kernel
theorem dX0_come_34 : decode cX0_come 34 = .ok (.ireturn, 1) := by decide +kernel
theorem dX0_come_35 : decode cX0_come 35 = .ok (.aload_n 0, 1) := by decide +kernel
theorem dX0_come_36 : decode cX0_come 36 = .ok (.iload_n 1, 1) := by decide +kernel
theorem dX0_come_37 : decode cX0_come 37 = .ok (.bipush 100, 2) := by decide +kernel
theorem dX0_come_39 : decode cX0_come 39 = .ok (.idiv, 1) := by decide +kernel
theorem dX0_come_40 : decode cX0_come 40 = .ok (.iload_n 1, 1) := by decide +kernel
theorem dX0_come_41 : decode cX0_come 41 = .ok (.bipush 100, 2) := by decide +kernel
theorem dX0_come_43 : decode cX0_come 43 = .ok (.irem, 1) := by decide +kernel
theorem dX0_come_44 : decode cX0_come 44 = .ok (.iload_n 2, 1) := by decide +kernel
theorem dX0_come_45 : decode cX0_come 45 = .ok (.invokevirtual 46, 3) := by decide +kernel
theorem dX0_come_48 : decode cX0_come 48 = .ok (.aload_n 0, 1) := by decide +kernel
theorem dX0_come_49 : decode cX0_come 49 = .ok (.getfield 38, 3) := by decide +kernel
theorem dX0_come_52 : decode cX0_come 52 = .ok (.iconst 1, 1) := by decide +kernel
theorem dX0_come_53 : decode cX0_come 53 = .ok (.isub, 1) := by decide +kernel
theorem dX0_come_54 : decode cX0_come 54 = .ok (.ireturn, 1) := by decide +kernel
theorem dX0_sit_0 : decode cX0_sit 0 = .ok (.aload_n 0, 1) := by decide +kernel
theorem dX0_sit_1 : decode cX0_sit 1 = .ok (.getfield 38, 3) := by decide +kernel
theorem dX0_sit_4 : decode cX0_sit 4 = .ok (.bipush 9, 2) := by decide +kernel
theorem dX0_sit_6 : decode cX0_sit 6 = .ok (.if_icmp .lt 4, 3) := by decide +kernel
theorem dX0_sit_9 : decode cX0_sit 9 = .ok (.return_, 1) := by decide +kernel
theorem dX0_sit_10 : decode cX0_sit 10 = .ok (.aload_n 0, 1) := by decide +kernel
theorem dX0_sit_11 : decode cX0_sit 11 = .ok (.getfield 9, 3) := by decide +kernel
theorem dX0_sit_14 : decode cX0_sit 14 = .ok (.aload_n 0, 1) := by decide +kernel
theorem dX0_sit_15 : decode cX0_sit 15 = .ok (.getfield 38, 3) := by decide +kernel
theorem dX0_sit_18 : decode cX0_sit 18 = .ok (.iload_n 1, 1) := by decide +kernel
theorem dX0_sit_19 : decode cX0_sit 19 = .ok (.iastore, 1) := by decide +kernel
theorem dX0_sit_20 : decode cX0_sit 20 = .ok (.aload_n 0, 1) := by decide +kernel
theorem dX0_sit_21 : decode cX0_sit 21 = .ok (.getfield 15, 3) := by decide +kernel
theorem dX0_sit_24 : decode cX0_sit 24 = .ok (.aload_n 0, 1) := by decide +kernel
theorem dX0_sit_25 : decode cX0_sit 25 = .ok (.getfield 38, 3) := by decide +kernel
theorem dX0_sit_28 : decode cX0_sit 28 = .ok (.iload_n 2, 1) := by decide +kernel
theorem dX0_sit_29 : decode cX0_sit 29 = .ok (.iastore, 1) := by decide +kernel
theorem dX0_sit_30 : decode cX0_sit 30 = .ok (.aload_n 0, 1) := by decide +kernel
theorem dX0_sit_31 : decode cX0_sit 31 = .ok (.getfield 18, 3) := by decide +kernel
theorem dX0_sit_34 : decode cX0_sit 34 = .ok (.aload_n 0, 1) := by decide +kernel
theorem dX0_sit_35 : decode cX0_sit 35 = .ok (.getfield 38, 3) := by decide +kernel
theorem dX0_sit_38 : decode cX0_sit 38 = .ok (.iload_n 3, 1) := by decide +kernel
theorem dX0_sit_39 : decode cX0_sit 39 = .ok (.iastore, 1) := by decide +kernel
theorem dX0_sit_40 : decode cX0_sit 40 = .ok (.aload_n 0, 1) := by decide +kernel
theorem dX0_sit_41 : decode cX0_sit 41 = .ok (.getfield 21, 3) := by decide +kernel
theorem dX0_sit_44 : decode cX0_sit 44 = .ok (.aload_n 0, 1) := by decide +kernel
theorem dX0_sit_45 : decode cX0_sit 45 = .ok (.getfield 38, 3) := by decide +kernel
theorem dX0_sit_48 : decode cX0_sit 48 = .ok (.iconst 0, 1) := by decide +kernel
theorem dX0_sit_49 : decode cX0_sit 49 = .ok (.iastore, 1) := by decide +kernel
theorem dX0_sit_50 : decode cX0_sit 50 = .ok (.aload_n 0, 1) := by decide +kernel
theorem dX0_sit_51 : decode cX0_sit 51 = .ok (.dup, 1) := by decide +kernel
theorem dX0_sit_52 : decode cX0_sit 52 = .ok (.getfield 38, 3) := by decide +kernel
theorem dX0_sit_55 : decode cX0_sit 55 = .ok (.iconst 1, 1) := by decide +kernel
theorem dX0_sit_56 : decode cX0_sit 56 = .ok (.iadd, 1) := by decide +kernel
theorem dX0_sit_57 : decode cX0_sit 57 = .ok (.putfield 38, 3) := by decide +kernel
theorem dX0_sit_60 : decode cX0_sit 60 = .ok (.return_, 1) := by decide +kernel
theorem dX0_takeAll_0 : decode cX0_takeAll 0 = .ok (.aload_n 0, 1) := by decide +kernel
theorem dX0_takeAll_1 : decode cX0_takeAll 1 = .ok (.aload_n 1, 1) := by decide +kernel
theorem dX0_takeAll_2 : decode cX0_takeAll 2 = .ok (.getfield 38, 3) := by decide +kernel
theorem dX0_takeAll_5 : decode cX0_takeAll 5 = .ok (.putfield 38, 3) := by decide +kernel
theorem dX0_takeAll_8 : decode cX0_takeAll 8 = .ok (.aload_n 1, 1) := by decide +kernel
theorem dX0_takeAll_9 : decode cX0_takeAll 9 = .ok (.getfield 15, 3) := by decide +kernel
theorem dX0_takeAll_12 : decode cX0_takeAll 12 = .ok (.iconst 0, 1) := by decide +kernel
theorem dX0_takeAll_13 : decode cX0_takeAll 13 = .ok (.aload_n 0, 1) := by decide +kernel
theorem dX0_takeAll_14 : decode cX0_takeAll 14 = .ok (.getfield 15, 3) := by decide +kernel
theorem dX0_takeAll_17 : decode cX0_takeAll 17 = .ok (.iconst 0, 1) := by decide +kernel
theorem dX0_takeAll_18 : decode cX0_takeAll 18 = .ok (.aload_n 0, 1) := by decide +kernel
theorem dX0_takeAll_19 : decode cX0_takeAll 19 = .ok (.getfield 38, 3) := by decide +kernel
theorem dX0_takeAll_22 : decode cX0_takeAll 22 = .ok (.invokestatic 50, 3) := by decide +kernel
theorem dX0_takeAll_25 : decode cX0_takeAll 25 = .ok (.aload_n 1, 1) := by decide +kernel
theorem dX0_takeAll_26 : decode cX0_takeAll 26 = .ok (.getfield 18, 3) := by decide +kernel
theorem dX0_takeAll_29 : decode cX0_takeAll 29 = .ok (.iconst 0, 1) := by decide +kernel
theorem dX0_takeAll_30 : decode cX0_takeAll 30 = .ok (.aload_n 0, 1) := by decide +kernel
theorem dX0_takeAll_31 : decode cX0_takeAll 31 = .ok (.getfield 18, 3) := by decide +kernel
theorem dX0_takeAll_34 : decode cX0_takeAll 34 = .ok (.iconst 0, 1) := by decide +kernel
theorem dX0_takeAll_35 : decode cX0_takeAll 35 = .ok (.aload_n 0, 1) := by decide +kernel
theorem dX0_takeAll_36 : decode cX0_takeAll 36 = .ok (.getfield 38, 3) := by decide +kernel
theorem dX0_takeAll_39 : decode cX0_takeAll 39 = .ok (.invokestatic 50, 3) := by decide +kernel
theorem dX0_takeAll_42 : decode cX0_takeAll 42 = .ok (.aload_n 0, 1) := by decide +kernel
theorem dX0_takeAll_43 : decode cX0_takeAll 43 = .ok (.aload_n 1, 1) := by decide +kernel
theorem dX0_takeAll_44 : decode cX0_takeAll 44 = .ok (.invokevirtual 56, 3) := by decide +kernel
theorem dX0_takeAll_47 : decode cX0_takeAll 47 = .ok (.return_, 1) := by decide +kernel
theorem dX0_goBackTo_0 : decode cX0_goBackTo 0 = .ok (.aload_n 1, 1) := by decide +kernel
theorem dX0_goBackTo_1 : decode cX0_goBackTo 1 = .ok (.getfield 9, 3) := by decide +kernel
theorem dX0_goBackTo_4 : decode cX0_goBackTo 4 = .ok (.iconst 0, 1) := by decide +kernel
theorem dX0_goBackTo_5 : decode cX0_goBackTo 5 = .ok (.aload_n 0, 1) := by decide +kernel
theorem dX0_goBackTo_6 : decode cX0_goBackTo 6 = .ok (.getfield 9, 3) := by decide +kernel
theorem dX0_goBackTo_9 : decode cX0_goBackTo 9 = .ok (.iconst 0, 1) := by decide +kernel
theorem dX0_goBackTo_10 : decode cX0_goBackTo 10 = .ok (.aload_n 1, 1) := by decide +kernel
theorem dX0_goBackTo_11 : decode cX0_goBackTo 11 = .ok (.getfield 38, 3) := by decide +kernel
theorem dX0_goBackTo_14 : decode cX0_goBackTo 14 = .ok (.invokestatic 50, 3) := by decide +kernel
theorem dX0_goBackTo_17 : decode cX0_goBackTo 17 = .ok (.aload_n 1, 1) := by decide +kernel
theorem dX0_goBackTo_18 : decode cX0_goBackTo 18 = .ok (.getfield 21, 3) := by decide +kernel
theorem dX0_goBackTo_21 : decode cX0_goBackTo 21 = .ok (.iconst 0, 1) := by decide +kernel
theorem dX0_goBackTo_22 : decode cX0_goBackTo 22 = .ok (.aload_n 0, 1) := by decide +kernel
theorem dX0_goBackTo_23 : decode cX0_goBackTo 23 = .ok (.getfield 21, 3) := by decide +kernel
theorem dX0_goBackTo_26 : decode cX0_goBackTo 26 = .ok (.iconst 0, 1) := by decide +kernel
theorem dX0_goBackTo_27 : decode cX0_goBackTo 27 = .ok (.aload_n 1, 1) := by decide +kernel
theorem dX0_goBackTo_28 : decode cX0_goBackTo 28 = .ok (.getfield 38, 3) := by decide +kernel
theorem dX0_goBackTo_31 : decode cX0_goBackTo 31 = .ok (.invokestatic 50, 3) := by decide +kernel
theorem dX0_goBackTo_34 : decode cX0_goBackTo 34 = .ok (.aload_n 1, 1) := by decide +kernel
theorem dX0_goBackTo_35 : decode cX0_goBackTo 35 = .ok (.getfield 24, 3) := by decide +kernel
theorem dX0_goBackTo_38 : decode cX0_goBackTo 38 = .ok (.iconst 0, 1) := by decide +kernel
theorem dX0_goBackTo_39 : decode cX0_goBackTo 39 = .ok (.aload_n 0, 1) := by decide +kernel
theorem dX0_goBackTo_40 : decode cX0_goBackTo 40 = .ok (.getfield 24, 3) := by decide +kernel
theorem dX0_goBackTo_43 : decode cX0_goBackTo 43 = .ok (.iconst 0, 1) := by decide +kernel
theorem dX0_goBackTo_44 : decode cX0_goBackTo 44 = .ok (.aload_n 1, 1) := by decide +kernel
theorem dX0_goBackTo_45 : decode cX0_goBackTo 45 = .ok (.getfield 38, 3) := by decide +kernel
theorem dX0_goBackTo_48 : decode cX0_goBackTo 48 = .ok (.bipush 8, 2) := by decide +kernel
theorem dX0_goBackTo_50 : decode cX0_goBackTo 50 = .ok (.imul, 1) := by decide +kernel
theorem dX0_goBackTo_51 : decode cX0_goBackTo 51 = .ok (.invokestatic 50, 3) := by decide +kernel
theorem dX0_goBackTo_54 : decode cX0_goBackTo 54 = .ok (.aload_n 0, 1) := by decide +kernel
theorem dX0_goBackTo_55 : decode cX0_goBackTo 55 = .ok (.aload_n 1, 1) := by decide +kernel
theorem dX0_goBackTo_56 : decode cX0_goBackTo 56 = .ok (.getfield 60, 3) := by decide +kernel
theorem dX0_goBackTo_59 : decode cX0_goBackTo 59 = .ok (.putfield 60, 3) := by decide +kernel
theorem dX0_goBackTo_62 : decode cX0_goBackTo 62 = .ok (.aload_n 0, 1) := by decide +kernel
theorem dX0_goBackTo_63 : decode cX0_goBackTo 63 = .ok (.aload_n 1, 1) := by decide +kernel
theorem dX0_goBackTo_64 : decode cX0_goBackTo 64 = .ok (.getfield 63, 3) := by decide +kernel
theorem dX0_goBackTo_67 : decode cX0_goBackTo 67 = .ok (.putfield 63, 3) := by decide +kernel
theorem dX0_goBackTo_70 : decode cX0_goBackTo 70 = .ok (.return_, 1) := by decide +kernel
theorem dX0_hear_0 : decode cX0_hear 0 = .ok (.aload_n 0, 1) := by decide +kernel
theorem dX0_hear_1 : decode cX0_hear 1 = .ok (.getfield 21, 3) := by decide +kernel
theorem dX0_hear_4 : decode cX0_hear 4 = .ok (.iload_n 1, 1) := by decide +kernel
theorem dX0_hear_5 : decode cX0_hear 5 = .ok (.dup2, 1) := by decide +kernel
theorem dX0_hear_6 : decode cX0_hear 6 = .ok (.iaload, 1) := by decide +kernel
theorem dX0_hear_7 : decode cX0_hear 7 = .ok (.iconst 1, 1) := by decide +kernel
theorem dX0_hear_8 : decode cX0_hear 8 = .ok (.iload_n 2, 1) := by decide +kernel
theorem dX0_hear_9 : decode cX0_hear 9 = .ok (.ishl, 1) := by decide +kernel
theorem dX0_hear_10 : decode cX0_hear 10 = .ok (.ior, 1) := by decide +kernel
theorem dX0_hear_11 : decode cX0_hear 11 = .ok (.iastore, 1) := by decide +kernel
theorem dX0_hear_12 : decode cX0_hear 12 = .ok (.aload_n 0, 1) := by decide +kernel
theorem dX0_hear_13 : decode cX0_hear 13 = .ok (.getfield 24, 3) := by decide +kernel
theorem dX0_hear_16 : decode cX0_hear 16 = .ok (.iload_n 1, 1) := by decide +kernel
theorem dX0_hear_17 : decode cX0_hear 17 = .ok (.bipush 8, 2) := by decide +kernel
theorem dX0_hear_19 : decode cX0_hear 19 = .ok (.imul, 1) := by decide +kernel
theorem dX0_hear_20 : decode cX0_hear 20 = .ok (.iload_n 2, 1) := by decide +kernel
theorem dX0_hear_21 : decode cX0_hear 21 = .ok (.iadd, 1) := by decide +kernel
theorem dX0_hear_22 : decode cX0_hear 22 = .ok (.aload_n 0, 1) := by decide +kernel
theorem dX0_hear_23 : decode cX0_hear 23 = .ok (.getfield 60, 3) := by decide +kernel
theorem dX0_hear_26 : decode cX0_hear 26 = .ok (.iastore, 1) := by decide +kernel
theorem dX0_hear_27 : decode cX0_hear 27 = .ok (.return_, 1) := by decide +kernel
theorem dX0_forget_0 : decode cX0_forget 0 = .ok (.aload_n 0, 1) := by decide +kernel
theorem dX0_forget_1 : decode cX0_forget 1 = .ok (.getfield 21, 3) := by decide +kernel
theorem dX0_forget_4 : decode cX0_forget 4 = .ok (.iload_n 1, 1) := by decide +kernel
theorem dX0_forget_5 : decode cX0_forget 5 = .ok (.dup2, 1) := by decide +kernel
theorem dX0_forget_6 : decode cX0_forget 6 = .ok (.iaload, 1) := by decide +kernel
theorem dX0_forget_7 : decode cX0_forget 7 = .ok (.iconst 1, 1) := by decide +kernel
theorem dX0_forget_8 : decode cX0_forget 8 = .ok (.iload_n 2, 1) := by decide +kernel
theorem dX0_forget_9 : decode cX0_forget 9 = .ok (.ishl, 1) := by decide +kernel
theorem dX0_forget_10 : decode cX0_forget 10 = .ok (.iconst (-1), 1) := by decide +kernel
theorem dX0_forget_11 : decode cX0_forget 11 = .ok (.ixor, 1) := by decide +kernel
theorem dX0_forget_12 : decode cX0_forget 12 = .ok (.iand, 1) := by decide +kernel
theorem dX0_forget_13 : decode cX0_forget 13 = .ok (.iastore, 1) := by decide +kernel
theorem dX0_forget_14 : decode cX0_forget 14 = .ok (.return_, 1) := by decide +kernel
theorem dX0_knows_0 : decode cX0_knows 0 = .ok (.aload_n 0, 1) := by decide +kernel
theorem dX0_knows_1 : decode cX0_knows 1 = .ok (.getfield 30, 3) := by decide +kernel
theorem dX0_knows_4 : decode cX0_knows 4 = .ok (.aload_n 0, 1) := by decide +kernel
theorem dX0_knows_5 : decode cX0_knows 5 = .ok (.getfield 21, 3) := by decide +kernel
theorem dX0_knows_8 : decode cX0_knows 8 = .ok (.iload_n 1, 1) := by decide +kernel
theorem dX0_knows_9 : decode cX0_knows 9 = .ok (.iaload, 1) := by decide +kernel
theorem dX0_knows_10 : decode cX0_knows 10 = .ok (.invokevirtual 66, 3) := by decide +kernel
theorem dX0_knows_13 : decode cX0_knows 13 = .ok (.ireturn, 1) := by decide +kernel
theorem dX0_lookInto_0 : decode cX0_lookInto 0 = .ok (.aload_n 0, 1) := by decide +kernel
theorem dX0_lookInto_1 : decode cX0_lookInto 1 = .ok (.iconst 0, 1) := by decide +kernel
theorem dX0_lookInto_2 : decode cX0_lookInto 2 = .ok (.putfield 72, 3) := by decide +kernel
theorem dX0_lookInto_5 : decode cX0_lookInto 5 = .ok (.aload_n 0, 1) := by decide +kernel
theorem dX0_lookInto_6 : decode cX0_lookInto 6 = .ok (.iconst 0, 1) := by decide +kernel
theorem dX0_lookInto_7 : decode cX0_lookInto 7 = .ok (.putfield 75, 3) := by decide +kernel
theorem dX0_lookInto_10 : decode cX0_lookInto 10 = .ok (.aload_n 0, 1) := by decide +kernel
theorem dX0_lookInto_11 : decode cX0_lookInto 11 = .ok (.iconst 0, 1) := by decide +kernel
theorem dX0_lookInto_12 : decode cX0_lookInto 12 = .ok (.putfield 78, 3) := by decide +kernel
theorem dX0_lookInto_15 : decode cX0_lookInto 15 = .ok (.iconst 0, 1) := by decide +kernel
theorem dX0_lookInto_16 : decode cX0_lookInto 16 = .ok (.istore_n 2, 1) := by decide +kernel
theorem dX0_lookInto_17 : decode cX0_lookInto 17 = .ok (.iload_n 2, 1) := by decide +kernel
theorem dX0_lookInto_18 : decode cX0_lookInto 18 = .ok (.aload_n 0, 1) := by decide +kernel
theorem dX0_lookInto_19 : decode cX0_lookInto 19 = .ok (.getfield 38, 3) := by decide +kernel
theorem dX0_lookInto_22 : decode cX0_lookInto 22 = .ok (.if_icmp .ge 75, 3) := by decide +kernel
theorem dX0_lookInto_25 : decode cX0_lookInto 25 = .ok (.aload_n 0, 1) := by decide +kernel
theorem dX0_lookInto_26 : decode cX0_lookInto 26 = .ok (.getfield 9, 3) := by decide +kernel
theorem dX0_lookInto_29 : decode cX0_lookInto 29 = .ok (.iload_n 2, 1) := by decide +kernel
theorem dX0_lookInto_30 : decode cX0_lookInto 30 = .ok (.iaload, 1) := by decide +kernel
theorem dX0_lookInto_31 : decode cX0_lookInto 31 = .ok (.iload_n 1, 1) := by decide +kernel
theorem dX0_lookInto_32 : decode cX0_lookInto 32 = .ok (.if_icmp .ne 59, 3) := by decide +kernel
theorem dX0_lookInto_35 : decode cX0_lookInto 35 = .ok (.aload_n 0, 1) := by decide +kernel
theorem dX0_lookInto_36 : decode cX0_lookInto 36 = .ok (.dup, 1) := by decide +kernel
theorem dX0_lookInto_37 : decode cX0_lookInto 37 = .ok (.getfield 72, 3) := by decide +kernel
theorem dX0_lookInto_40 : decode cX0_lookInto 40 = .ok (.iconst 1, 1) := by decide +kernel
theorem dX0_lookInto_41 : decode cX0_lookInto 41 = .ok (.iadd, 1) := by decide +kernel
theorem dX0_lookInto_42 : decode cX0_lookInto 42 = .ok (.putfield 72, 3) := by decide +kernel
theorem dX0_lookInto_45 : decode cX0_lookInto 45 = .ok (.aload_n 0, 1) := by decide +kernel
theorem dX0_lookInto_46 : decode cX0_lookInto 46 = .ok (.getfield 27, 3) := by decide +kernel
theorem dX0_lookInto_49 : decode cX0_lookInto 49 = .ok (.iload_n 2, 1) := by decide +kernel
theorem dX0_lookInto_50 : decode cX0_lookInto 50 = .ok (.aload_n 0, 1) := by decide +kernel
theorem dX0_lookInto_51 : decode cX0_lookInto 51 = .ok (.iload_n 2, 1) := by decide +kernel
theorem dX0_lookInto_52 : decode cX0_lookInto 52 = .ok (.invokevirtual 81, 3) := by decide +kernel
theorem dX0_lookInto_55 : decode cX0_lookInto 55 = .ok (.iastore, 1) := by decide +kernel
theorem dX0_lookInto_56 : decode cX0_lookInto 56 = .ok (.aload_n 0, 1) := by decide +kernel
theorem dX0_lookInto_57 : decode cX0_lookInto 57 = .ok (.dup, 1) := by decide +kernel
theorem dX0_lookInto_58 : decode cX0_lookInto 58 = .ok (.getfield 78, 3) := by decide +kernel
theorem dX0_lookInto_61 : decode cX0_lookInto 61 = .ok (.aload_n 0, 1) := by decide +kernel
theorem dX0_lookInto_62 : decode cX0_lookInto 62 = .ok (.getfield 75, 3) := by decide +kernel
theorem dX0_lookInto_65 : decode cX0_lookInto 65 = .ok (.aload_n 0, 1) := by decide +kernel
theorem dX0_lookInto_66 : decode cX0_lookInto 66 = .ok (.getfield 27, 3) := by decide +kernel
theorem dX0_lookInto_69 : decode cX0_lookInto 69 = .ok (.iload_n 2, 1) := by decide +kernel
theorem dX0_lookInto_70 : decode cX0_lookInto 70 = .ok (.iaload, 1) := by decide +kernel
theorem dX0_lookInto_71 : decode cX0_lookInto 71 = .ok (.iand, 1) := by decide +kernel
theorem dX0_lookInto_72 : decode cX0_lookInto 72 = .ok (.ior, 1) := by decide +kernel
theorem dX0_lookInto_73 : decode cX0_lookInto 73 = .ok (.putfield 78, 3) := by decide +kernel
theorem dX0_lookInto_76 : decode cX0_lookInto 76 = .ok (.aload_n 0, 1) := by decide +kernel
theorem dX0_lookInto_77 : decode cX0_lookInto 77 = .ok (.dup, 1) := by decide +kernel
theorem dX0_lookInto_78 : decode cX0_lookInto 78 = .ok (.getfield 75, 3) := by decide +kernel
theorem dX0_lookInto_81 : decode cX0_lookInto 81 = .ok (.aload_n 0, 1) := by decide +kernel
theorem dX0_lookInto_82 : decode cX0_lookInto 82 = .ok (.getfield 27, 3) := by decide +kernel
theorem dX0_lookInto_85 : decode cX0_lookInto 85 = .ok (.iload_n 2, 1) := by decide +kernel
theorem dX0_lookInto_86 : decode cX0_lookInto 86 = .ok (.iaload, 1) := by decide +kernel
theorem dX0_lookInto_87 : decode cX0_lookInto 87 = .ok (.ior, 1) := by decide +kernel
theorem dX0_lookInto_88 : decode cX0_lookInto 88 = .ok (.putfield 75, 3) := by decide +kernel
theorem dX0_lookInto_91 : decode cX0_lookInto 91 = .ok (.iinc 2 1, 3) := by decide +kernel
theorem dX0_lookInto_94 : decode cX0_lookInto 94 = .ok (.goto (-77), 3) := by decide +kernel
theorem dX0_lookInto_97 : decode cX0_lookInto 97 = .ok (.return_, 1) := by decide +kernel
theorem dX0_newToOthers_0 : decode cX0_newToOthers 0 = .ok (.aload_n 0, 1) := by decide +kernel
theorem dX0_newToOthers_1 : decode cX0_newToOthers 1 = .ok (.getfield 30, 3) := by decide +kernel
theorem dX0_newToOthers_4 : decode cX0_newToOthers 4 = .ok (.invokevirtual 84, 3) := by decide +kernel
theorem dX0_newToOthers_7 : decode cX0_newToOthers 7 = .ok (.aload_n 0, 1) := by decide +kernel
theorem dX0_newToOthers_8 : decode cX0_newToOthers 8 = .ok (.getfield 78, 3) := by decide +kernel
theorem dX0_newToOthers_11 : decode cX0_newToOthers 11 = .ok (.iconst (-1), 1) := by decide +kernel
theorem dX0_newToOthers_12 : decode cX0_newToOthers 12 = .ok (.ixor, 1) := by decide +kernel
theorem dX0_newToOthers_13 : decode cX0_newToOthers 13 = .ok (.iand, 1) := by decide +kernel
theorem dX0_newToOthers_14 : decode cX0_newToOthers 14 = .ok (.aload_n 0, 1) := by decide +kernel
theorem dX0_newToOthers_15 : decode cX0_newToOthers 15 = .ok (.getfield 75, 3) := by decide +kernel
theorem dX0_newToOthers_18 : decode cX0_newToOthers 18 = .ok (.aload_n 0, 1) := by decide +kernel
theorem dX0_newToOthers_19 : decode cX0_newToOthers 19 = .ok (.getfield 27, 3) := by decide +kernel
theorem dX0_newToOthers_22 : decode cX0_newToOthers 22 = .ok (.iload_n 1, 1) := by decide +kernel
theorem dX0_newToOthers_23 : decode cX0_newToOthers 23 = .ok (.iaload, 1) := by decide +kernel
theorem dX0_newToOthers_24 : decode cX0_newToOthers 24 = .ok (.iconst (-1), 1) := by decide +kernel
theorem dX0_newToOthers_25 : decode cX0_newToOthers 25 = .ok (.ixor, 1) := by decide +kernel
theorem dX0_newToOthers_26 : decode cX0_newToOthers 26 = .ok (.iand, 1) := by decide +kernel
theorem dX0_newToOthers_27 : decode cX0_newToOthers 27 = .ok (.iconst (-1), 1) := by decide +kernel
theorem dX0_newToOthers_28 : decode cX0_newToOthers 28 = .ok (.ixor, 1) := by decide +kernel
theorem dX0_newToOthers_29 : decode cX0_newToOthers 29 = .ok (.iand, 1) := by decide +kernel
theorem dX0_newToOthers_30 : decode cX0_newToOthers 30 = .ok (.ireturn, 1) := by decide +kernel
theorem dX0_tellableOf_0 : decode cX0_tellableOf 0 = .ok (.aload_n 0, 1) := by decide +kernel
theorem dX0_tellableOf_1 : decode cX0_tellableOf 1 = .ok (.getfield 72, 3) := by decide +kernel
theorem dX0_tellableOf_4 : decode cX0_tellableOf 4 = .ok (.iconst 2, 1) := by decide +kernel
theorem dX0_tellableOf_5 : decode cX0_tellableOf 5 = .ok (.if_icmp .ge 5, 3) := by decide +kernel
theorem dX0_tellableOf_8 : decode cX0_tellableOf 8 = .ok (.iconst 0, 1) := by decide +kernel
theorem dX0_tellableOf_9 : decode cX0_tellableOf 9 = .ok (.ireturn, 1) := by decide +kernel
theorem dX0_tellableOf_10 : decode cX0_tellableOf 10 = .ok (.iload_n 2, 1) := by decide +kernel
theorem dX0_tellableOf_11 : decode cX0_tellableOf 11 = .ok (.aload_n 0, 1) := by decide +kernel
theorem dX0_tellableOf_12 : decode cX0_tellableOf 12 = .ok (.getfield 18, 3) := by decide +kernel
theorem dX0_tellableOf_15 : decode cX0_tellableOf 15 = .ok (.iload_n 1, 1) := by decide +kernel
theorem dX0_tellableOf_16 : decode cX0_tellableOf 16 = .ok (.iaload, 1) := by decide +kernel
theorem dX0_tellableOf_17 : decode cX0_tellableOf 17 = .ok (.iand, 1) := by decide +kernel
theorem dX0_tellableOf_18 : decode cX0_tellableOf 18 = .ok (.aload_n 0, 1) := by decide +kernel
theorem dX0_tellableOf_19 : decode cX0_tellableOf 19 = .ok (.iload_n 1, 1) := by decide +kernel
theorem dX0_tellableOf_20 : decode cX0_tellableOf 20 = .ok (.invokevirtual 88, 3) := by decide +kernel
theorem dX0_tellableOf_23 : decode cX0_tellableOf 23 = .ok (.iand, 1) := by decide +kernel
theorem dX0_tellableOf_24 : decode cX0_tellableOf 24 = .ok (.istore_n 3, 1) := by decide +kernel
theorem dX0_tellableOf_25 : decode cX0_tellableOf 25 = .ok (.iconst 0, 1) := by decide +kernel
theorem dX0_tellableOf_26 : decode cX0_tellableOf 26 = .ok (.istore 4, 2) := by decide +kernel
theorem dX0_tellableOf_28 : decode cX0_tellableOf 28 = .ok (.iload 4, 2) := by decide +kernel
theorem dX0_tellableOf_30 : decode cX0_tellableOf 30 = .ok (.aload_n 0, 1) := by decide +kernel
theorem dX0_tellableOf_31 : decode cX0_tellableOf 31 = .ok (.getfield 30, 3) := by decide +kernel
theorem dX0_tellableOf_34 : decode cX0_tellableOf 34 = .ok (.getfield 91, 3) := by decide +kernel
theorem dX0_tellableOf_37 : decode cX0_tellableOf 37 = .ok (.if_icmp .ge 43, 3) := by decide +kernel
theorem dX0_tellableOf_40 : decode cX0_tellableOf 40 = .ok (.iload_n 3, 1) := by decide +kernel
theorem dX0_tellableOf_41 : decode cX0_tellableOf 41 = .ok (.iload 4, 2) := by decide +kernel
theorem dX0_tellableOf_43 : decode cX0_tellableOf 43 = .ok (.ishr, 1) := by decide +kernel
theorem dX0_tellableOf_44 : decode cX0_tellableOf 44 = .ok (.iconst 1, 1) := by decide +kernel
theorem dX0_tellableOf_45 : decode cX0_tellableOf 45 = .ok (.iand, 1) := by decide +kernel
theorem dX0_tellableOf_46 : decode cX0_tellableOf 46 = .ok (.iconst 1, 1) := by decide +kernel
theorem dX0_tellableOf_47 : decode cX0_tellableOf 47 = .ok (.if_icmp .ne 27, 3) := by decide +kernel
theorem dX0_tellableOf_50 : decode cX0_tellableOf 50 = .ok (.aload_n 0, 1) := by decide +kernel
theorem dX0_tellableOf_51 : decode cX0_tellableOf 51 = .ok (.iconst 2, 1) := by decide +kernel
theorem dX0_tellableOf_52 : decode cX0_tellableOf 52 = .ok (.iload_n 1, 1) := by decide +kernel
theorem dX0_tellableOf_53 : decode cX0_tellableOf 53 = .ok (.iload 4, 2) := by decide +kernel
theorem dX0_tellableOf_55 : decode cX0_tellableOf 55 = .ok (.aload_n 0, 1) := by decide +kernel
theorem dX0_tellableOf_56 : decode cX0_tellableOf 56 = .ok (.getfield 72, 3) := by decide +kernel
theorem dX0_tellableOf_59 : decode cX0_tellableOf 59 = .ok (.invokevirtual 92, 3) := by decide +kernel
theorem dX0_tellableOf_62 : decode cX0_tellableOf 62 = .ok (.ifCond .eq 12, 3) := by decide +kernel
theorem dX0_tellableOf_65 : decode cX0_tellableOf 65 = .ok (.iload_n 3, 1) := by decide +kernel
theorem dX0_tellableOf_66 : decode cX0_tellableOf 66 = .ok (.iconst 1, 1) := by decide +kernel
theorem dX0_tellableOf_67 : decode cX0_tellableOf 67 = .ok (.iload 4, 2) := by decide +kernel
theorem dX0_tellableOf_69 : decode cX0_tellableOf 69 = .ok (.ishl, 1) := by decide +kernel
theorem dX0_tellableOf_70 : decode cX0_tellableOf 70 = .ok (.iconst (-1), 1) := by decide +kernel
theorem dX0_tellableOf_71 : decode cX0_tellableOf 71 = .ok (.ixor, 1) := by decide +kernel
theorem dX0_tellableOf_72 : decode cX0_tellableOf 72 = .ok (.iand, 1) := by decide +kernel
theorem dX0_tellableOf_73 : decode cX0_tellableOf 73 = .ok (.istore_n 3, 1) := by decide +kernel
theorem dX0_tellableOf_74 : decode cX0_tellableOf 74 = .ok (.iinc 4 1, 3) := by decide +kernel
theorem dX0_tellableOf_77 : decode cX0_tellableOf 77 = .ok (.goto (-49), 3) := by decide +kernel
theorem dX0_tellableOf_80 : decode cX0_tellableOf 80 = .ok (.iload_n 3, 1) := by decide +kernel
theorem dX0_tellableOf_81 : decode cX0_tellableOf 81 = .ok (.ireturn, 1) := by decide +kernel
theorem dX0_tellableBy_0 : decode cX0_tellableBy 0 = .ok (.aload_n 0, 1) := by decide +kernel
theorem dX0_tellableBy_1 : decode cX0_tellableBy 1 = .ok (.aload_n 0, 1) := by decide +kernel
theorem dX0_tellableBy_2 : decode cX0_tellableBy 2 = .ok (.getfield 9, 3) := by decide +kernel
theorem dX0_tellableBy_5 : decode cX0_tellableBy 5 = .ok (.iload_n 1, 1) := by decide +kernel
theorem dX0_tellableBy_6 : decode cX0_tellableBy 6 = .ok (.iaload, 1) := by decide +kernel
theorem dX0_tellableBy_7 : decode cX0_tellableBy 7 = .ok (.invokevirtual 96, 3) := by decide +kernel
theorem dX0_tellableBy_10 : decode cX0_tellableBy 10 = .ok (.aload_n 0, 1) := by decide +kernel
theorem dX0_tellableBy_11 : decode cX0_tellableBy 11 = .ok (.iload_n 1, 1) := by decide +kernel
theorem dX0_tellableBy_12 : decode cX0_tellableBy 12 = .ok (.aload_n 0, 1) := by decide +kernel
theorem dX0_tellableBy_13 : decode cX0_tellableBy 13 = .ok (.getfield 30, 3) := by decide +kernel
theorem dX0_tellableBy_16 : decode cX0_tellableBy 16 = .ok (.invokevirtual 84, 3) := by decide +kernel
theorem dX0_tellableBy_19 : decode cX0_tellableBy 19 = .ok (.invokevirtual 100, 3) := by decide +kernel
theorem dX0_tellableBy_22 : decode cX0_tellableBy 22 = .ok (.ireturn, 1) := by decide +kernel
theorem dX0_tellableIn_0 : decode cX0_tellableIn 0 = .ok (.aload_n 0, 1) := by decide +kernel
theorem dX0_tellableIn_1 : decode cX0_tellableIn 1 = .ok (.iload_n 1, 1) := by decide +kernel
theorem dX0_tellableIn_2 : decode cX0_tellableIn 2 = .ok (.invokevirtual 96, 3) := by decide +kernel
theorem dX0_tellableIn_5 : decode cX0_tellableIn 5 = .ok (.iconst 0, 1) := by decide +kernel
theorem dX0_tellableIn_6 : decode cX0_tellableIn 6 = .ok (.istore_n 2, 1) := by decide +kernel
theorem dX0_tellableIn_7 : decode cX0_tellableIn 7 = .ok (.iconst 0, 1) := by decide +kernel
theorem dX0_tellableIn_8 : decode cX0_tellableIn 8 = .ok (.istore_n 3, 1) := by decide +kernel
theorem dX0_tellableIn_9 : decode cX0_tellableIn 9 = .ok (.iload_n 3, 1) := by decide +kernel
theorem dX0_tellableIn_10 : decode cX0_tellableIn 10 = .ok (.aload_n 0, 1) := by decide +kernel
theorem dX0_tellableIn_11 : decode cX0_tellableIn 11 = .ok (.getfield 38, 3) := by decide +kernel
theorem dX0_tellableIn_14 : decode cX0_tellableIn 14 = .ok (.if_icmp .ge 30, 3) := by decide +kernel
theorem dX0_tellableIn_17 : decode cX0_tellableIn 17 = .ok (.aload_n 0, 1) := by decide +kernel
theorem dX0_tellableIn_18 : decode cX0_tellableIn 18 = .ok (.getfield 9, 3) := by decide +kernel
theorem dX0_tellableIn_21 : decode cX0_tellableIn 21 = .ok (.iload_n 3, 1) := by decide +kernel
theorem dX0_tellableIn_22 : decode cX0_tellableIn 22 = .ok (.iaload, 1) := by decide +kernel
theorem dX0_tellableIn_23 : decode cX0_tellableIn 23 = .ok (.iload_n 1, 1) := by decide +kernel
theorem dX0_tellableIn_24 : decode cX0_tellableIn 24 = .ok (.if_icmp .ne 14, 3) := by decide +kernel
theorem dX0_tellableIn_27 : decode cX0_tellableIn 27 = .ok (.iload_n 2, 1) := by decide +kernel
theorem dX0_tellableIn_28 : decode cX0_tellableIn 28 = .ok (.aload_n 0, 1) := by decide +kernel
theorem dX0_tellableIn_29 : decode cX0_tellableIn 29 = .ok (.iload_n 3, 1) := by decide +kernel
theorem dX0_tellableIn_30 : decode cX0_tellableIn 30 = .ok (.iload_n 2, 1) := by decide +kernel
theorem dX0_tellableIn_31 : decode cX0_tellableIn 31 = .ok (.iconst (-1), 1) := by decide +kernel
theorem dX0_tellableIn_32 : decode cX0_tellableIn 32 = .ok (.ixor, 1) := by decide +kernel
theorem dX0_tellableIn_33 : decode cX0_tellableIn 33 = .ok (.invokevirtual 100, 3) := by decide +kernel
theorem dX0_tellableIn_36 : decode cX0_tellableIn 36 = .ok (.ior, 1) := by decide +kernel
theorem dX0_tellableIn_37 : decode cX0_tellableIn 37 = .ok (.istore_n 2, 1) := by decide +kernel
theorem dX0_tellableIn_38 : decode cX0_tellableIn 38 = .ok (.iinc 3 1, 3) := by decide +kernel
theorem dX0_tellableIn_41 : decode cX0_tellableIn 41 = .ok (.goto (-32), 3) := by decide +kernel
theorem dX0_tellableIn_44 : decode cX0_tellableIn 44 = .ok (.iload_n 2, 1) := by decide +kernel
theorem dX0_tellableIn_45 : decode cX0_tellableIn 45 = .ok (.ireturn, 1) := by decide +kernel
theorem dX0_unheardIn_0 : decode cX0_unheardIn 0 = .ok (.aload_n 0, 1) := by decide +kernel
theorem dX0_unheardIn_1 : decode cX0_unheardIn 1 = .ok (.iload_n 1, 1) := by decide +kernel
theorem dX0_unheardIn_2 : decode cX0_unheardIn 2 = .ok (.invokevirtual 96, 3) := by decide +kernel
theorem dX0_unheardIn_5 : decode cX0_unheardIn 5 = .ok (.iconst 0, 1) := by decide +kernel
theorem dX0_unheardIn_6 : decode cX0_unheardIn 6 = .ok (.istore_n 2, 1) := by decide +kernel
theorem dX0_unheardIn_7 : decode cX0_unheardIn 7 = .ok (.iconst 0, 1) := by decide +kernel
theorem dX0_unheardIn_8 : decode cX0_unheardIn 8 = .ok (.istore_n 3, 1) := by decide +kernel
theorem dX0_unheardIn_9 : decode cX0_unheardIn 9 = .ok (.iload_n 3, 1) := by decide +kernel
theorem dX0_unheardIn_10 : decode cX0_unheardIn 10 = .ok (.aload_n 0, 1) := by decide +kernel
theorem dX0_unheardIn_11 : decode cX0_unheardIn 11 = .ok (.getfield 38, 3) := by decide +kernel
theorem dX0_unheardIn_14 : decode cX0_unheardIn 14 = .ok (.if_icmp .ge 34, 3) := by decide +kernel
theorem dX0_unheardIn_17 : decode cX0_unheardIn 17 = .ok (.aload_n 0, 1) := by decide +kernel
theorem dX0_unheardIn_18 : decode cX0_unheardIn 18 = .ok (.getfield 9, 3) := by decide +kernel
theorem dX0_unheardIn_21 : decode cX0_unheardIn 21 = .ok (.iload_n 3, 1) := by decide +kernel
theorem dX0_unheardIn_22 : decode cX0_unheardIn 22 = .ok (.iaload, 1) := by decide +kernel
theorem dX0_unheardIn_23 : decode cX0_unheardIn 23 = .ok (.iload_n 1, 1) := by decide +kernel
theorem dX0_unheardIn_24 : decode cX0_unheardIn 24 = .ok (.if_icmp .ne 18, 3) := by decide +kernel
theorem dX0_unheardIn_27 : decode cX0_unheardIn 27 = .ok (.iload_n 2, 1) := by decide +kernel
theorem dX0_unheardIn_28 : decode cX0_unheardIn 28 = .ok (.aload_n 0, 1) := by decide +kernel
theorem dX0_unheardIn_29 : decode cX0_unheardIn 29 = .ok (.getfield 18, 3) := by decide +kernel
theorem dX0_unheardIn_32 : decode cX0_unheardIn 32 = .ok (.iload_n 3, 1) := by decide +kernel
theorem dX0_unheardIn_33 : decode cX0_unheardIn 33 = .ok (.iaload, 1) := by decide +kernel
theorem dX0_unheardIn_34 : decode cX0_unheardIn 34 = .ok (.aload_n 0, 1) := by decide +kernel
theorem dX0_unheardIn_35 : decode cX0_unheardIn 35 = .ok (.iload_n 3, 1) := by decide +kernel
theorem dX0_unheardIn_36 : decode cX0_unheardIn 36 = .ok (.invokevirtual 88, 3) := by decide +kernel
theorem dX0_unheardIn_39 : decode cX0_unheardIn 39 = .ok (.iand, 1) := by decide +kernel
theorem dX0_unheardIn_40 : decode cX0_unheardIn 40 = .ok (.ior, 1) := by decide +kernel
theorem dX0_unheardIn_41 : decode cX0_unheardIn 41 = .ok (.istore_n 2, 1) := by decide +kernel
theorem dX0_unheardIn_42 : decode cX0_unheardIn 42 = .ok (.iinc 3 1, 3) := by decide +kernel
theorem dX0_unheardIn_45 : decode cX0_unheardIn 45 = .ok (.goto (-36), 3) := by decide +kernel
theorem dX0_unheardIn_48 : decode cX0_unheardIn 48 = .ok (.iload_n 2, 1) := by decide +kernel
theorem dX0_unheardIn_49 : decode cX0_unheardIn 49 = .ok (.ireturn, 1) := by decide +kernel
theorem dX0_byWhom_0 : decode cX0_byWhom 0 = .ok (.aload_n 0, 1) := by decide +kernel
theorem dX0_byWhom_1 : decode cX0_byWhom 1 = .ok (.iload_n 1, 1) := by decide +kernel
theorem dX0_byWhom_2 : decode cX0_byWhom 2 = .ok (.invokevirtual 96, 3) := by decide +kernel
theorem dX0_byWhom_5 : decode cX0_byWhom 5 = .ok (.aload_n 0, 1) := by decide +kernel
theorem dX0_byWhom_6 : decode cX0_byWhom 6 = .ok (.iload_n 1, 1) := by decide +kernel
theorem dX0_byWhom_7 : decode cX0_byWhom 7 = .ok (.iload_n 2, 1) := by decide +kernel
theorem dX0_byWhom_8 : decode cX0_byWhom 8 = .ok (.invokevirtual 104, 3) := by decide +kernel
theorem dX0_byWhom_11 : decode cX0_byWhom 11 = .ok (.ireturn, 1) := by decide +kernel
theorem dX0_firstTeller_0 : decode cX0_firstTeller 0 = .ok (.iconst 0, 1) := by decide +kernel
theorem dX0_firstTeller_1 : decode cX0_firstTeller 1 = .ok (.istore_n 3, 1) := by decide +kernel
theorem dX0_firstTeller_2 : decode cX0_firstTeller 2 = .ok (.iload_n 3, 1) := by decide +kernel
theorem dX0_firstTeller_3 : decode cX0_firstTeller 3 = .ok (.aload_n 0, 1) := by decide +kernel
theorem dX0_firstTeller_4 : decode cX0_firstTeller 4 = .ok (.getfield 38, 3) := by decide +kernel
theorem dX0_firstTeller_7 : decode cX0_firstTeller 7 = .ok (.if_icmp .ge 32, 3) := by decide +kernel
theorem dX0_firstTeller_10 : decode cX0_firstTeller 10 = .ok (.aload_n 0, 1) := by decide +kernel
theorem dX0_firstTeller_11 : decode cX0_firstTeller 11 = .ok (.getfield 9, 3) := by decide +kernel
theorem dX0_firstTeller_14 : decode cX0_firstTeller 14 = .ok (.iload_n 3, 1) := by decide +kernel
theorem dX0_firstTeller_15 : decode cX0_firstTeller 15 = .ok (.iaload, 1) := by decide +kernel
theorem dX0_firstTeller_16 : decode cX0_firstTeller 16 = .ok (.iload_n 1, 1) := by decide +kernel
theorem dX0_firstTeller_17 : decode cX0_firstTeller 17 = .ok (.if_icmp .ne 16, 3) := by decide +kernel
theorem dX0_firstTeller_20 : decode cX0_firstTeller 20 = .ok (.aload_n 0, 1) := by decide +kernel
theorem dX0_firstTeller_21 : decode cX0_firstTeller 21 = .ok (.iload_n 3, 1) := by decide +kernel
theorem dX0_firstTeller_22 : decode cX0_firstTeller 22 = .ok (.iconst 1, 1) := by decide +kernel
theorem dX0_firstTeller_23 : decode cX0_firstTeller 23 = .ok (.iload_n 2, 1) := by decide +kernel
theorem dX0_firstTeller_24 : decode cX0_firstTeller 24 = .ok (.ishl, 1) := by decide +kernel
theorem dX0_firstTeller_25 : decode cX0_firstTeller 25 = .ok (.invokevirtual 100, 3) := by decide +kernel
theorem dX0_firstTeller_28 : decode cX0_firstTeller 28 = .ok (.ifCond .eq 5, 3) := by decide +kernel
theorem dX0_firstTeller_31 : decode cX0_firstTeller 31 = .ok (.iload_n 3, 1) := by decide +kernel
theorem dX0_firstTeller_32 : decode cX0_firstTeller 32 = .ok (.ireturn, 1) := by decide +kernel
theorem dX0_firstTeller_33 : decode cX0_firstTeller 33 = .ok (.iinc 3 1, 3) := by decide +kernel
theorem dX0_firstTeller_36 : decode cX0_firstTeller 36 = .ok (.goto (-34), 3) := by decide +kernel
theorem dX0_firstTeller_39 : decode cX0_firstTeller 39 = .ok (.iconst (-1), 1) := by decide +kernel
theorem dX0_firstTeller_40 : decode cX0_firstTeller 40 = .ok (.ireturn, 1) := by decide +kernel
theorem dX0_worthOf_0 : decode cX0_worthOf 0 = .ok (.aload_n 0, 1) := by decide +kernel
theorem dX0_worthOf_1 : decode cX0_worthOf 1 = .ok (.iload_n 1, 1) := by decide +kernel
theorem dX0_worthOf_2 : decode cX0_worthOf 2 = .ok (.invokevirtual 96, 3) := by decide +kernel
theorem dX0_worthOf_5 : decode cX0_worthOf 5 = .ok (.aload_n 0, 1) := by decide +kernel
theorem dX0_worthOf_6 : decode cX0_worthOf 6 = .ok (.iload_n 1, 1) := by decide +kernel
theorem dX0_worthOf_7 : decode cX0_worthOf 7 = .ok (.iload_n 2, 1) := by decide +kernel
theorem dX0_worthOf_8 : decode cX0_worthOf 8 = .ok (.invokevirtual 104, 3) := by decide +kernel
theorem dX0_worthOf_11 : decode cX0_worthOf 11 = .ok (.istore_n 3, 1) := by decide +kernel
theorem dX0_worthOf_12 : decode cX0_worthOf 12 = .ok (.iload_n 3, 1) := by decide +kernel
theorem dX0_worthOf_13 : decode cX0_worthOf 13 = .ok (.iconst (-1), 1) := by decide +kernel
theorem dX0_worthOf_14 : decode cX0_worthOf 14 = .ok (.if_icmp .ne 9, 3) := by decide +kernel
theorem dX0_worthOf_17 : decode cX0_worthOf 17 = .ok (.ldc2_w 107, 3) := by decide +kernel
theorem dX0_worthOf_20 : decode cX0_worthOf 20 = .ok (.goto 9, 3) := by decide +kernel
theorem dX0_worthOf_23 : decode cX0_worthOf 23 = .ok (.aload_n 0, 1) := by decide +kernel
theorem dX0_worthOf_24 : decode cX0_worthOf 24 = .ok (.iload_n 3, 1) := by decide +kernel
theorem dX0_worthOf_25 : decode cX0_worthOf 25 = .ok (.iload_n 2, 1) := by decide +kernel
theorem dX0_worthOf_26 : decode cX0_worthOf 26 = .ok (.invokevirtual 109, 3) := by decide +kernel
theorem dX0_worthOf_29 : decode cX0_worthOf 29 = .ok (.lreturn, 1) := by decide +kernel
theorem dX0_worthBy_0 : decode cX0_worthBy 0 = .ok (.aload_n 0, 1) := by decide +kernel
theorem dX0_worthBy_1 : decode cX0_worthBy 1 = .ok (.iconst 1, 1) := by decide +kernel
theorem dX0_worthBy_2 : decode cX0_worthBy 2 = .ok (.iload_n 1, 1) := by decide +kernel
theorem dX0_worthBy_3 : decode cX0_worthBy 3 = .ok (.iload_n 2, 1) := by decide +kernel
theorem dX0_worthBy_4 : decode cX0_worthBy 4 = .ok (.aload_n 0, 1) := by decide +kernel
theorem dX0_worthBy_5 : decode cX0_worthBy 5 = .ok (.getfield 72, 3) := by decide +kernel
theorem dX0_worthBy_8 : decode cX0_worthBy 8 = .ok (.invokevirtual 92, 3) := by decide +kernel
theorem dX0_worthBy_11 : decode cX0_worthBy 11 = .ok (.bipush (-99), 2) := by decide +kernel
theorem dX0_worthBy_13 : decode cX0_worthBy 13 = .ok (.invokestatic 113, 3) := by decide +kernel
theorem dX0_worthBy_16 : decode cX0_worthBy 16 = .ok (.istore_n 3, 1) := by decide +kernel
theorem dX0_worthBy_17 : decode cX0_worthBy 17 = .ok (.iconst 0, 1) := by decide +kernel
theorem dX0_worthBy_18 : decode cX0_worthBy 18 = .ok (.istore 4, 2) := by decide +kernel
theorem dX0_worthBy_20 : decode cX0_worthBy 20 = .ok (.iload 4, 2) := by decide +kernel
theorem dX0_worthBy_22 : decode cX0_worthBy 22 = .ok (.aload_n 0, 1) := by decide +kernel
theorem dX0_worthBy_23 : decode cX0_worthBy 23 = .ok (.getfield 38, 3) := by decide +kernel
theorem dX0_worthBy_26 : decode cX0_worthBy 26 = .ok (.if_icmp .ge 50, 3) := by decide +kernel
theorem dX0_worthBy_29 : decode cX0_worthBy 29 = .ok (.iload 4, 2) := by decide +kernel
theorem dX0_worthBy_31 : decode cX0_worthBy 31 = .ok (.iload_n 1, 1) := by decide +kernel
theorem dX0_worthBy_32 : decode cX0_worthBy 32 = .ok (.if_icmp .eq 38, 3) := by decide +kernel
theorem dX0_worthBy_35 : decode cX0_worthBy 35 = .ok (.aload_n 0, 1) := by decide +kernel
theorem dX0_worthBy_36 : decode cX0_worthBy 36 = .ok (.getfield 9, 3) := by decide +kernel
theorem dX0_worthBy_39 : decode cX0_worthBy 39 = .ok (.iload 4, 2) := by decide +kernel
theorem dX0_worthBy_41 : decode cX0_worthBy 41 = .ok (.iaload, 1) := by decide +kernel
theorem dX0_worthBy_42 : decode cX0_worthBy 42 = .ok (.aload_n 0, 1) := by decide +kernel
theorem dX0_worthBy_43 : decode cX0_worthBy 43 = .ok (.getfield 9, 3) := by decide +kernel
theorem dX0_worthBy_46 : decode cX0_worthBy 46 = .ok (.iload_n 1, 1) := by decide +kernel
theorem dX0_worthBy_47 : decode cX0_worthBy 47 = .ok (.iaload, 1) := by decide +kernel
theorem dX0_worthBy_48 : decode cX0_worthBy 48 = .ok (.if_icmp .ne 22, 3) := by decide +kernel
theorem dX0_worthBy_51 : decode cX0_worthBy 51 = .ok (.iload_n 3, 1) := by decide +kernel
theorem dX0_worthBy_52 : decode cX0_worthBy 52 = .ok (.aload_n 0, 1) := by decide +kernel
theorem dX0_worthBy_53 : decode cX0_worthBy 53 = .ok (.iconst 0, 1) := by decide +kernel
theorem dX0_worthBy_54 : decode cX0_worthBy 54 = .ok (.iload 4, 2) := by decide +kernel
theorem dX0_worthBy_56 : decode cX0_worthBy 56 = .ok (.iload_n 2, 1) := by decide +kernel
theorem dX0_worthBy_57 : decode cX0_worthBy 57 = .ok (.aload_n 0, 1) := by decide +kernel
theorem dX0_worthBy_58 : decode cX0_worthBy 58 = .ok (.getfield 72, 3) := by decide +kernel
theorem dX0_worthBy_61 : decode cX0_worthBy 61 = .ok (.invokevirtual 92, 3) := by decide +kernel
theorem dX0_worthBy_64 : decode cX0_worthBy 64 = .ok (.iconst 0, 1) := by decide +kernel
theorem dX0_worthBy_65 : decode cX0_worthBy 65 = .ok (.invokestatic 113, 3) := by decide +kernel
theorem dX0_worthBy_68 : decode cX0_worthBy 68 = .ok (.iadd, 1) := by decide +kernel
theorem dX0_worthBy_69 : decode cX0_worthBy 69 = .ok (.istore_n 3, 1) := by decide +kernel
theorem dX0_worthBy_70 : decode cX0_worthBy 70 = .ok (.iinc 4 1, 3) := by decide +kernel
theorem dX0_worthBy_73 : decode cX0_worthBy 73 = .ok (.goto (-53), 3) := by decide +kernel
theorem dX0_worthBy_76 : decode cX0_worthBy 76 = .ok (.iload_n 3, 1) := by decide +kernel
theorem dX0_worthBy_77 : decode cX0_worthBy 77 = .ok (.i2l, 1) := by decide +kernel
theorem dX0_worthBy_78 : decode cX0_worthBy 78 = .ok (.lreturn, 1) := by decide +kernel
theorem dX0_bestOf_0 : decode cX0_bestOf 0 = .ok (.aload_n 0, 1) := by decide +kernel
theorem dX0_bestOf_1 : decode cX0_bestOf 1 = .ok (.iload_n 1, 1) := by decide +kernel
theorem dX0_bestOf_2 : decode cX0_bestOf 2 = .ok (.invokevirtual 96, 3) := by decide +kernel
theorem dX0_bestOf_5 : decode cX0_bestOf 5 = .ok (.iconst (-1), 1) := by decide +kernel
theorem dX0_bestOf_6 : decode cX0_bestOf 6 = .ok (.istore_n 2, 1) := by decide +kernel
theorem dX0_bestOf_7 : decode cX0_bestOf 7 = .ok (.ldc2_w 107, 3) := by decide +kernel
theorem dX0_bestOf_10 : decode cX0_bestOf 10 = .ok (.lstore_n 3, 1) := by decide +kernel
theorem dX0_bestOf_11 : decode cX0_bestOf 11 = .ok (.iconst 0, 1) := by decide +kernel
theorem dX0_bestOf_12 : decode cX0_bestOf 12 = .ok (.istore 5, 2) := by decide +kernel
theorem dX0_bestOf_14 : decode cX0_bestOf 14 = .ok (.iload 5, 2) := by decide +kernel
theorem dX0_bestOf_16 : decode cX0_bestOf 16 = .ok (.aload_n 0, 1) := by decide +kernel
theorem dX0_bestOf_17 : decode cX0_bestOf 17 = .ok (.getfield 30, 3) := by decide +kernel
theorem dX0_bestOf_20 : decode cX0_bestOf 20 = .ok (.getfield 91, 3) := by decide +kernel
theorem dX0_bestOf_23 : decode cX0_bestOf 23 = .ok (.if_icmp .ge 53, 3) := by decide +kernel
theorem dX0_bestOf_26 : decode cX0_bestOf 26 = .ok (.aload_n 0, 1) := by decide +kernel
theorem dX0_bestOf_27 : decode cX0_bestOf 27 = .ok (.iload_n 1, 1) := by decide +kernel
theorem dX0_bestOf_28 : decode cX0_bestOf 28 = .ok (.iload 5, 2) := by decide +kernel
theorem dX0_bestOf_30 : decode cX0_bestOf 30 = .ok (.invokevirtual 104, 3) := by decide +kernel
theorem dX0_bestOf_33 : decode cX0_bestOf 33 = .ok (.istore 6, 2) := by decide +kernel
theorem dX0_bestOf_35 : decode cX0_bestOf 35 = .ok (.iload 6, 2) := by decide +kernel
theorem dX0_bestOf_37 : decode cX0_bestOf 37 = .ok (.iconst (-1), 1) := by decide +kernel
theorem dX0_bestOf_38 : decode cX0_bestOf 38 = .ok (.if_icmp .ne 9, 3) := by decide +kernel
theorem dX0_bestOf_41 : decode cX0_bestOf 41 = .ok (.ldc2_w 107, 3) := by decide +kernel
theorem dX0_bestOf_44 : decode cX0_bestOf 44 = .ok (.goto 11, 3) := by decide +kernel
theorem dX0_bestOf_47 : decode cX0_bestOf 47 = .ok (.aload_n 0, 1) := by decide +kernel
theorem dX0_bestOf_48 : decode cX0_bestOf 48 = .ok (.iload 6, 2) := by decide +kernel
theorem dX0_bestOf_50 : decode cX0_bestOf 50 = .ok (.iload 5, 2) := by decide +kernel
theorem dX0_bestOf_52 : decode cX0_bestOf 52 = .ok (.invokevirtual 109, 3) := by decide +kernel
theorem dX0_bestOf_55 : decode cX0_bestOf 55 = .ok (.lstore 7, 2) := by decide +kernel
theorem dX0_bestOf_57 : decode cX0_bestOf 57 = .ok (.lload 7, 2) := by decide +kernel
theorem dX0_bestOf_59 : decode cX0_bestOf 59 = .ok (.lload_n 3, 1) := by decide +kernel
theorem dX0_bestOf_60 : decode cX0_bestOf 60 = .ok (.lcmp, 1) := by decide +kernel
theorem dX0_bestOf_61 : decode cX0_bestOf 61 = .ok (.ifCond .le 9, 3) := by decide +kernel
theorem dX0_bestOf_64 : decode cX0_bestOf 64 = .ok (.lload 7, 2) := by decide +kernel
theorem dX0_bestOf_66 : decode cX0_bestOf 66 = .ok (.lstore_n 3, 1) := by decide +kernel
theorem dX0_bestOf_67 : decode cX0_bestOf 67 = .ok (.iload 5, 2) := by decide +kernel
theorem dX0_bestOf_69 : decode cX0_bestOf 69 = .ok (.istore_n 2, 1) := by decide +kernel
theorem dX0_bestOf_70 : decode cX0_bestOf 70 = .ok (.iinc 5 1, 3) := by decide +kernel
theorem dX0_bestOf_73 : decode cX0_bestOf 73 = .ok (.goto (-59), 3) := by decide +kernel
theorem dX0_bestOf_76 : decode cX0_bestOf 76 = .ok (.iload_n 2, 1) := by decide +kernel
theorem dX0_bestOf_77 : decode cX0_bestOf 77 = .ok (.ireturn, 1) := by decide +kernel
theorem dX0_spend_0 : decode cX0_spend 0 = .ok (.aload_n 0, 1) := by decide +kernel
theorem dX0_spend_1 : decode cX0_spend 1 = .ok (.iload_n 1, 1) := by decide +kernel
theorem dX0_spend_2 : decode cX0_spend 2 = .ok (.invokevirtual 96, 3) := by decide +kernel
theorem dX0_spend_5 : decode cX0_spend 5 = .ok (.aload_n 0, 1) := by decide +kernel
theorem dX0_spend_6 : decode cX0_spend 6 = .ok (.iload_n 1, 1) := by decide +kernel
theorem dX0_spend_7 : decode cX0_spend 7 = .ok (.iload_n 2, 1) := by decide +kernel
theorem dX0_spend_8 : decode cX0_spend 8 = .ok (.invokevirtual 104, 3) := by decide +kernel
theorem dX0_spend_11 : decode cX0_spend 11 = .ok (.istore_n 3, 1) := by decide +kernel
theorem dX0_spend_12 : decode cX0_spend 12 = .ok (.iload_n 3, 1) := by decide +kernel
theorem dX0_spend_13 : decode cX0_spend 13 = .ok (.iconst (-1), 1) := by decide +kernel
theorem dX0_spend_14 : decode cX0_spend 14 = .ok (.if_icmp .ne 6, 3) := by decide +kernel
theorem dX0_spend_17 : decode cX0_spend 17 = .ok (.bipush (-3), 2) := by decide +kernel
theorem dX0_spend_19 : decode cX0_spend 19 = .ok (.ireturn, 1) := by decide +kernel
theorem dX0_spend_20 : decode cX0_spend 20 = .ok (.iconst 0, 1) := by decide +kernel
theorem dX0_spend_21 : decode cX0_spend 21 = .ok (.istore 4, 2) := by decide +kernel
theorem dX0_spend_23 : decode cX0_spend 23 = .ok (.iload 4, 2) := by decide +kernel
theorem dX0_spend_25 : decode cX0_spend 25 = .ok (.aload_n 0, 1) := by decide +kernel
theorem dX0_spend_26 : decode cX0_spend 26 = .ok (.getfield 38, 3) := by decide +kernel
theorem dX0_spend_29 : decode cX0_spend 29 = .ok (.if_icmp .ge 33, 3) := by decide +kernel
theorem dX0_spend_32 : decode cX0_spend 32 = .ok (.iload 4, 2) := by decide +kernel
theorem dX0_spend_34 : decode cX0_spend 34 = .ok (.iload_n 3, 1) := by decide +kernel
theorem dX0_spend_35 : decode cX0_spend 35 = .ok (.if_icmp .eq 21, 3) := by decide +kernel
theorem dX0_spend_38 : decode cX0_spend 38 = .ok (.aload_n 0, 1) := by decide +kernel
theorem dX0_spend_39 : decode cX0_spend 39 = .ok (.getfield 9, 3) := by decide +kernel
theorem dX0_spend_42 : decode cX0_spend 42 = .ok (.iload 4, 2) := by decide +kernel
theorem dX0_spend_44 : decode cX0_spend 44 = .ok (.iaload, 1) := by decide +kernel
theorem dX0_spend_45 : decode cX0_spend 45 = .ok (.iload_n 1, 1) := by decide +kernel
theorem dX0_spend_46 : decode cX0_spend 46 = .ok (.if_icmp .ne 10, 3) := by decide +kernel
theorem dX0_spend_49 : decode cX0_spend 49 = .ok (.aload_n 0, 1) := by decide +kernel
theorem dX0_spend_50 : decode cX0_spend 50 = .ok (.iload 4, 2) := by decide +kernel
theorem dX0_spend_52 : decode cX0_spend 52 = .ok (.iload_n 2, 1) := by decide +kernel
theorem dX0_spend_53 : decode cX0_spend 53 = .ok (.invokevirtual 116, 3) := by decide +kernel
theorem dX0_spend_56 : decode cX0_spend 56 = .ok (.iinc 4 1, 3) := by decide +kernel
theorem dX0_spend_59 : decode cX0_spend 59 = .ok (.goto (-36), 3) := by decide +kernel
theorem dX0_spend_62 : decode cX0_spend 62 = .ok (.aload_n 0, 1) := by decide +kernel
theorem dX0_spend_63 : decode cX0_spend 63 = .ok (.getfield 72, 3) := by decide +kernel
theorem dX0_spend_66 : decode cX0_spend 66 = .ok (.iconst 1, 1) := by decide +kernel
theorem dX0_spend_67 : decode cX0_spend 67 = .ok (.isub, 1) := by decide +kernel
theorem dX0_spend_68 : decode cX0_spend 68 = .ok (.ireturn, 1) := by decide +kernel
theorem dX0_sleep_0 : decode cX0_sleep 0 = .ok (.aload_n 0, 1) := by decide +kernel
theorem dX0_sleep_1 : decode cX0_sleep 1 = .ok (.sipush 999, 3) := by decide +kernel
theorem dX0_sleep_4 : decode cX0_sleep 4 = .ok (.aload_n 0, 1) := by decide +kernel
theorem dX0_sleep_5 : decode cX0_sleep 5 = .ok (.getfield 60, 3) := by decide +kernel
theorem dX0_sleep_8 : decode cX0_sleep 8 = .ok (.iconst 1, 1) := by decide +kernel
theorem dX0_sleep_9 : decode cX0_sleep 9 = .ok (.iadd, 1) := by decide +kernel
theorem dX0_sleep_10 : decode cX0_sleep 10 = .ok (.invokestatic 120, 3) := by decide +kernel
theorem dX0_sleep_13 : decode cX0_sleep 13 = .ok (.putfield 60, 3) := by decide +kernel
theorem dX0_sleep_16 : decode cX0_sleep 16 = .ok (.iconst 0, 1) := by decide +kernel
theorem dX0_sleep_17 : decode cX0_sleep 17 = .ok (.istore_n 1, 1) := by decide +kernel
theorem dX0_sleep_18 : decode cX0_sleep 18 = .ok (.iload_n 1, 1) := by decide +kernel
theorem dX0_sleep_19 : decode cX0_sleep 19 = .ok (.aload_n 0, 1) := by decide +kernel
theorem dX0_sleep_20 : decode cX0_sleep 20 = .ok (.getfield 30, 3) := by decide +kernel
theorem dX0_sleep_23 : decode cX0_sleep 23 = .ok (.getfield 91, 3) := by decide +kernel
theorem dX0_sleep_26 : decode cX0_sleep 26 = .ok (.if_icmp .ge 60, 3) := by decide +kernel
theorem dX0_sleep_29 : decode cX0_sleep 29 = .ok (.aload_n 0, 1) := by decide +kernel
theorem dX0_sleep_30 : decode cX0_sleep 30 = .ok (.getfield 60, 3) := by decide +kernel
theorem dX0_sleep_33 : decode cX0_sleep 33 = .ok (.aload_n 0, 1) := by decide +kernel
theorem dX0_sleep_34 : decode cX0_sleep 34 = .ok (.getfield 30, 3) := by decide +kernel
theorem dX0_sleep_37 : decode cX0_sleep 37 = .ok (.iload_n 1, 1) := by decide +kernel
theorem dX0_sleep_38 : decode cX0_sleep 38 = .ok (.invokevirtual 125, 3) := by decide +kernel
theorem dX0_sleep_41 : decode cX0_sleep 41 = .ok (.isub, 1) := by decide +kernel
theorem dX0_sleep_42 : decode cX0_sleep 42 = .ok (.istore_n 2, 1) := by decide +kernel
theorem dX0_sleep_43 : decode cX0_sleep 43 = .ok (.iconst 0, 1) := by decide +kernel
theorem dX0_sleep_44 : decode cX0_sleep 44 = .ok (.istore_n 3, 1) := by decide +kernel
theorem dX0_sleep_45 : decode cX0_sleep 45 = .ok (.iload_n 3, 1) := by decide +kernel
theorem dX0_sleep_46 : decode cX0_sleep 46 = .ok (.aload_n 0, 1) := by decide +kernel
theorem dX0_sleep_47 : decode cX0_sleep 47 = .ok (.getfield 38, 3) := by decide +kernel
theorem dX0_sleep_50 : decode cX0_sleep 50 = .ok (.if_icmp .ge 30, 3) := by decide +kernel
theorem dX0_sleep_53 : decode cX0_sleep 53 = .ok (.aload_n 0, 1) := by decide +kernel
theorem dX0_sleep_54 : decode cX0_sleep 54 = .ok (.getfield 24, 3) := by decide +kernel
theorem dX0_sleep_57 : decode cX0_sleep 57 = .ok (.iload_n 3, 1) := by decide +kernel
theorem dX0_sleep_58 : decode cX0_sleep 58 = .ok (.bipush 8, 2) := by decide +kernel
theorem dX0_sleep_60 : decode cX0_sleep 60 = .ok (.imul, 1) := by decide +kernel
theorem dX0_sleep_61 : decode cX0_sleep 61 = .ok (.iload_n 1, 1) := by decide +kernel
theorem dX0_sleep_62 : decode cX0_sleep 62 = .ok (.iadd, 1) := by decide +kernel
theorem dX0_sleep_63 : decode cX0_sleep 63 = .ok (.iaload, 1) := by decide +kernel
theorem dX0_sleep_64 : decode cX0_sleep 64 = .ok (.iload_n 2, 1) := by decide +kernel
theorem dX0_sleep_65 : decode cX0_sleep 65 = .ok (.if_icmp .gt 9, 3) := by decide +kernel
theorem dX0_sleep_68 : decode cX0_sleep 68 = .ok (.aload_n 0, 1) := by decide +kernel
theorem dX0_sleep_69 : decode cX0_sleep 69 = .ok (.iload_n 3, 1) := by decide +kernel
theorem dX0_sleep_70 : decode cX0_sleep 70 = .ok (.iload_n 1, 1) := by decide +kernel
theorem dX0_sleep_71 : decode cX0_sleep 71 = .ok (.invokevirtual 128, 3) := by decide +kernel
theorem dX0_sleep_74 : decode cX0_sleep 74 = .ok (.iinc 3 1, 3) := by decide +kernel
theorem dX0_sleep_77 : decode cX0_sleep 77 = .ok (.goto (-32), 3) := by decide +kernel
theorem dX0_sleep_80 : decode cX0_sleep 80 = .ok (.iinc 1 1, 3) := by decide +kernel
theorem dX0_sleep_83 : decode cX0_sleep 83 = .ok (.goto (-65), 3) := by decide +kernel
theorem dX0_sleep_86 : decode cX0_sleep 86 = .ok (.return_, 1) := by decide +kernel
theorem dX0_value_0 : decode cX0_value 0 = .ok (.aload_n 0, 1) := by decide +kernel
theorem dX0_value_1 : decode cX0_value 1 = .ok (.getfield 34, 3) := by decide +kernel
theorem dX0_value_4 : decode cX0_value 4 = .ok (.aload_n 0, 1) := by decide +kernel
theorem dX0_value_5 : decode cX0_value 5 = .ok (.getfield 63, 3) := by decide +kernel
theorem dX0_value_8 : decode cX0_value 8 = .ok (.invokevirtual 131, 3) := by decide +kernel
theorem dX0_value_11 : decode cX0_value 11 = .ok (.astore 5, 2) := by decide +kernel
theorem dX0_value_13 : decode cX0_value 13 = .ok (.aload 5, 2) := by decide +kernel
theorem dX0_value_15 : decode cX0_value 15 = .ok (.ifnonnull 5, 3) := by decide +kernel
theorem dX0_value_18 : decode cX0_value 18 = .ok (.iconst 0, 1) := by decide +kernel
theorem dX0_value_19 : decode cX0_value 19 = .ok (.ireturn, 1) := by decide +kernel
theorem dX0_value_20 : decode cX0_value 20 = .ok (.aload_n 0, 1) := by decide +kernel
theorem dX0_value_21 : decode cX0_value 21 = .ok (.getfield 34, 3) := by decide +kernel
theorem dX0_value_24 : decode cX0_value 24 = .ok (.getfield 137, 3) := by decide +kernel
theorem dX0_value_27 : decode cX0_value 27 = .ok (.astore 6, 2) := by decide +kernel
theorem dX0_value_29 : decode cX0_value 29 = .ok (.aload 6, 2) := by decide +kernel
theorem dX0_value_31 : decode cX0_value 31 = .ok (.iconst 0, 1) := by decide +kernel
theorem dX0_value_32 : decode cX0_value 32 = .ok (.aload_n 0, 1) := by decide +kernel
theorem dX0_value_33 : decode cX0_value 33 = .ok (.getfield 15, 3) := by decide +kernel
theorem dX0_value_36 : decode cX0_value 36 = .ok (.iload_n 2, 1) := by decide +kernel
theorem dX0_value_37 : decode cX0_value 37 = .ok (.iaload, 1) := by decide +kernel
theorem dX0_value_38 : decode cX0_value 38 = .ok (.iastore, 1) := by decide +kernel
theorem dX0_value_39 : decode cX0_value 39 = .ok (.aload 6, 2) := by decide +kernel
theorem dX0_value_41 : decode cX0_value 41 = .ok (.iconst 1, 1) := by decide +kernel
theorem dX0_value_42 : decode cX0_value 42 = .ok (.aload_n 0, 1) := by decide +kernel
theorem dX0_value_43 : decode cX0_value 43 = .ok (.getfield 30, 3) := by decide +kernel
theorem dX0_value_46 : decode cX0_value 46 = .ok (.iload_n 3, 1) := by decide +kernel
theorem dX0_value_47 : decode cX0_value 47 = .ok (.aload_n 0, 1) := by decide +kernel
theorem dX0_value_48 : decode cX0_value 48 = .ok (.getfield 15, 3) := by decide +kernel
theorem dX0_value_51 : decode cX0_value 51 = .ok (.iload_n 2, 1) := by decide +kernel
theorem dX0_value_52 : decode cX0_value 52 = .ok (.iaload, 1) := by decide +kernel
theorem dX0_value_53 : decode cX0_value 53 = .ok (.invokevirtual 140, 3) := by decide +kernel
theorem dX0_value_56 : decode cX0_value 56 = .ok (.iastore, 1) := by decide +kernel
theorem dX0_value_57 : decode cX0_value 57 = .ok (.aload 6, 2) := by decide +kernel
theorem dX0_value_59 : decode cX0_value 59 = .ok (.iconst 2, 1) := by decide +kernel
theorem dX0_value_60 : decode cX0_value 60 = .ok (.aload_n 0, 1) := by decide +kernel
theorem dX0_value_61 : decode cX0_value 61 = .ok (.getfield 21, 3) := by decide +kernel
theorem dX0_value_64 : decode cX0_value 64 = .ok (.iload_n 2, 1) := by decide +kernel
theorem dX0_value_65 : decode cX0_value 65 = .ok (.iaload, 1) := by decide +kernel
theorem dX0_value_66 : decode cX0_value 66 = .ok (.invokestatic 143, 3) := by decide +kernel
theorem dX0_value_69 : decode cX0_value 69 = .ok (.iastore, 1) := by decide +kernel
theorem dX0_value_70 : decode cX0_value 70 = .ok (.aload 6, 2) := by decide +kernel
theorem dX0_value_72 : decode cX0_value 72 = .ok (.iconst 3, 1) := by decide +kernel
theorem dX0_value_73 : decode cX0_value 73 = .ok (.iload 4, 2) := by decide +kernel
theorem dX0_value_75 : decode cX0_value 75 = .ok (.iastore, 1) := by decide +kernel
theorem dX0_value_76 : decode cX0_value 76 = .ok (.aload 6, 2) := by decide +kernel
theorem dX0_value_78 : decode cX0_value 78 = .ok (.iconst 4, 1) := by decide +kernel
theorem dX0_value_79 : decode cX0_value 79 = .ok (.aload_n 0, 1) := by decide +kernel
theorem dX0_value_80 : decode cX0_value 80 = .ok (.getfield 60, 3) := by decide +kernel
theorem dX0_value_83 : decode cX0_value 83 = .ok (.iastore, 1) := by decide +kernel
theorem dX0_value_84 : decode cX0_value 84 = .ok (.aload 6, 2) := by decide +kernel
theorem dX0_value_86 : decode cX0_value 86 = .ok (.iconst 5, 1) := by decide +kernel
theorem dX0_value_87 : decode cX0_value 87 = .ok (.aload_n 0, 1) := by decide +kernel
theorem dX0_value_88 : decode cX0_value 88 = .ok (.getfield 18, 3) := by decide +kernel
theorem dX0_value_91 : decode cX0_value 91 = .ok (.iload_n 2, 1) := by decide +kernel
theorem dX0_value_92 : decode cX0_value 92 = .ok (.iaload, 1) := by decide +kernel
theorem dX0_value_93 : decode cX0_value 93 = .ok (.invokestatic 143, 3) := by decide +kernel
theorem dX0_value_96 : decode cX0_value 96 = .ok (.iastore, 1) := by decide +kernel
theorem dX0_value_97 : decode cX0_value 97 = .ok (.aload 5, 2) := by decide +kernel
theorem dX0_value_99 : decode cX0_value 99 = .ok (.iload_n 1, 1) := by decide +kernel
theorem dX0_value_100 : decode cX0_value 100 = .ok (.aload 6, 2) := by decide +kernel
theorem dX0_value_102 : decode cX0_value 102 = .ok (.aload_n 0, 1) := by decide +kernel
theorem dX0_value_103 : decode cX0_value 103 = .ok (.getfield 34, 3) := by decide +kernel
theorem dX0_value_106 : decode cX0_value 106 = .ok (.getfield 148, 3) := by decide +kernel
theorem dX0_value_109 : decode cX0_value 109 = .ok (.invokevirtual 151, 3) := by decide +kernel
theorem dX0_value_112 : decode cX0_value 112 = .ok (.ireturn, 1) := by decide +kernel
theorem dX0_bounded_0 : decode cX0_bounded 0 = .ok (.iload_n 1, 1) := by decide +kernel
theorem dX0_bounded_1 : decode cX0_bounded 1 = .ok (.bipush 99, 2) := by decide +kernel
theorem dX0_bounded_3 : decode cX0_bounded 3 = .ok (.iload_n 0, 1) := by decide +kernel
theorem dX0_bounded_4 : decode cX0_bounded 4 = .ok (.invokestatic 120, 3) := by decide +kernel
theorem dX0_bounded_7 : decode cX0_bounded 7 = .ok (.invokestatic 156, 3) := by decide +kernel
theorem dX0_bounded_10 : decode cX0_bounded 10 = .ok (.ireturn, 1) := by decide +kernel
theorem dX2_init_0 : decode cX2_init 0 = .ok (.aload_n 0, 1) := by decide +kernel
theorem dX2_init_1 : decode cX2_init 1 = .ok (.invokespecial 3, 3) := by decide +kernel
theorem dX2_init_4 : decode cX2_init 4 = .ok (.aload_n 0, 1) := by decide +kernel
theorem dX2_init_5 : decode cX2_init 5 = .ok (.iload_n 2, 1) := by decide +kernel
theorem dX2_init_6 : decode cX2_init 6 = .ok (.newarray .int, 2) := by decide +kernel
theorem dX2_init_8 : decode cX2_init 8 = .ok (.putfield 9, 3) := by decide +kernel
theorem dX2_init_11 : decode cX2_init 11 = .ok (.aload_n 1, 1) := by decide +kernel
theorem dX2_init_12 : decode cX2_init 12 = .ok (.iconst 0, 1) := by decide +kernel
theorem dX2_init_13 : decode cX2_init 13 = .ok (.aload_n 0, 1) := by decide +kernel
theorem dX2_init_14 : decode cX2_init 14 = .ok (.getfield 9, 3) := by decide +kernel
theorem dX2_init_17 : decode cX2_init 17 = .ok (.iconst 0, 1) := by decide +kernel
theorem dX2_init_18 : decode cX2_init 18 = .ok (.iload_n 2, 1) := by decide +kernel
theorem dX2_init_19 : decode cX2_init 19 = .ok (.invokestatic 15, 3) := by decide +kernel
theorem dX2_init_22 : decode cX2_init 22 = .ok (.aload_n 0, 1) := by decide +kernel
theorem dX2_init_23 : decode cX2_init 23 = .ok (.iload_n 3, 1) := by decide +kernel
theorem dX2_init_24 : decode cX2_init 24 = .ok (.putfield 21, 3) := by decide +kernel
theorem dX2_init_27 : decode cX2_init 27 = .ok (.aload_n 0, 1) := by decide +kernel
theorem dX2_init_28 : decode cX2_init 28 = .ok (.iload 4, 2) := by decide +kernel
theorem dX2_init_30 : decode cX2_init 30 = .ok (.putfield 25, 3) := by decide +kernel
theorem dX2_init_33 : decode cX2_init 33 = .ok (.return_, 1) := by decide +kernel
theorem dX2_value_0 : decode cX2_value 0 = .ok (.iload_n 1, 1) := by decide +kernel
theorem dX2_value_1 : decode cX2_value 1 = .ok (.ifCond .ne 7, 3) := by decide +kernel
theorem dX2_value_4 : decode cX2_value 4 = .ok (.iconst 0, 1) := by decide +kernel
theorem dX2_value_5 : decode cX2_value 5 = .ok (.goto 19, 3) := by decide +kernel
theorem dX2_value_8 : decode cX2_value 8 = .ok (.iload_n 1, 1) := by decide +kernel
theorem dX2_value_9 : decode cX2_value 9 = .ok (.iconst 1, 1) := by decide +kernel
theorem dX2_value_10 : decode cX2_value 10 = .ok (.if_icmp .ne 10, 3) := by decide +kernel
theorem dX2_value_13 : decode cX2_value 13 = .ok (.aload_n 0, 1) := by decide +kernel
theorem dX2_value_14 : decode cX2_value 14 = .ok (.getfield 21, 3) := by decide +kernel
theorem dX2_value_17 : decode cX2_value 17 = .ok (.goto 7, 3) := by decide +kernel
theorem dX2_value_20 : decode cX2_value 20 = .ok (.aload_n 0, 1) := by decide +kernel
theorem dX2_value_21 : decode cX2_value 21 = .ok (.getfield 25, 3) := by decide +kernel
theorem dX2_value_24 : decode cX2_value 24 = .ok (.istore 4, 2) := by decide +kernel
theorem dX2_value_26 : decode cX2_value 26 = .ok (.iload_n 1, 1) := by decide +kernel
theorem dX2_value_27 : decode cX2_value 27 = .ok (.ifCond .ne 10, 3) := by decide +kernel
theorem dX2_value_30 : decode cX2_value 30 = .ok (.aload_n 0, 1) := by decide +kernel
theorem dX2_value_31 : decode cX2_value 31 = .ok (.getfield 21, 3) := by decide +kernel
theorem dX2_value_34 : decode cX2_value 34 = .ok (.goto 20, 3) := by decide +kernel
theorem dX2_value_37 : decode cX2_value 37 = .ok (.iload_n 1, 1) := by decide +kernel
theorem dX2_value_38 : decode cX2_value 38 = .ok (.iconst 1, 1) := by decide +kernel
theorem dX2_value_39 : decode cX2_value 39 = .ok (.if_icmp .ne 10, 3) := by decide +kernel
theorem dX2_value_42 : decode cX2_value 42 = .ok (.aload_n 0, 1) := by decide +kernel
theorem dX2_value_43 : decode cX2_value 43 = .ok (.getfield 25, 3) := by decide +kernel
theorem dX2_value_46 : decode cX2_value 46 = .ok (.goto 8, 3) := by decide +kernel
theorem dX2_value_49 : decode cX2_value 49 = .ok (.aload_n 0, 1) := by decide +kernel
theorem dX2_value_50 : decode cX2_value 50 = .ok (.getfield 9, 3) := by decide +kernel
theorem dX2_value_53 : decode cX2_value 53 = .ok (.arraylength, 1) := by decide +kernel
theorem dX2_value_54 : decode cX2_value 54 = .ok (.istore 5, 2) := by decide +kernel
theorem dX2_value_56 : decode cX2_value 56 = .ok (.iconst 0, 1) := by decide +kernel
theorem dX2_value_57 : decode cX2_value 57 = .ok (.istore 6, 2) := by decide +kernel
theorem dX2_value_59 : decode cX2_value 59 = .ok (.iload 4, 2) := by decide +kernel
theorem dX2_value_61 : decode cX2_value 61 = .ok (.istore 7, 2) := by decide +kernel
theorem dX2_value_63 : decode cX2_value 63 = .ok (.iload 7, 2) := by decide +kernel
theorem dX2_value_65 : decode cX2_value 65 = .ok (.iload 5, 2) := by decide +kernel
theorem dX2_value_67 : decode cX2_value 67 = .ok (.if_icmp .ge 158, 3) := by decide +kernel
theorem dX2_value_70 : decode cX2_value 70 = .ok (.aload_n 0, 1) := by decide +kernel
theorem dX2_value_71 : decode cX2_value 71 = .ok (.getfield 9, 3) := by decide +kernel
theorem dX2_value_74 : decode cX2_value 74 = .ok (.iload 7, 2) := by decide +kernel
theorem dX2_value_76 : decode cX2_value 76 = .ok (.iaload, 1) := by decide +kernel
theorem dX2_value_77 : decode cX2_value 77 = .ok (.istore 8, 2) := by decide +kernel
theorem dX2_value_79 : decode cX2_value 79 = .ok (.iload 8, 2) := by decide +kernel
theorem dX2_value_81 : decode cX2_value 81 = .ok (.bipush 6, 2) := by decide +kernel
theorem dX2_value_83 : decode cX2_value 83 = .ok (.if_icmp .lt 10, 3) := by decide +kernel
theorem dX2_value_86 : decode cX2_value 86 = .ok (.iload 8, 2) := by decide +kernel
theorem dX2_value_88 : decode cX2_value 88 = .ok (.bipush 32, 2) := by decide +kernel
theorem dX2_value_90 : decode cX2_value 90 = .ok (.if_icmp .lt 39, 3) := by decide +kernel
theorem dX2_value_93 : decode cX2_value 93 = .ok (.iload 6, 2) := by decide +kernel
theorem dX2_value_95 : decode cX2_value 95 = .ok (.aload_n 3, 1) := by decide +kernel
theorem dX2_value_96 : decode cX2_value 96 = .ok (.arraylength, 1) := by decide +kernel
theorem dX2_value_97 : decode cX2_value 97 = .ok (.if_icmp .ge 122, 3) := by decide +kernel
theorem dX2_value_100 : decode cX2_value 100 = .ok (.aload_n 3, 1) := by decide +kernel
theorem dX2_value_101 : decode cX2_value 101 = .ok (.iload 6, 2) := by decide +kernel
theorem dX2_value_103 : decode cX2_value 103 = .ok (.iload 8, 2) := by decide +kernel
theorem dX2_value_105 : decode cX2_value 105 = .ok (.bipush 6, 2) := by decide +kernel
theorem dX2_value_107 : decode cX2_value 107 = .ok (.if_icmp .ge 10, 3) := by decide +kernel
theorem dX2_value_110 : decode cX2_value 110 = .ok (.aload_n 2, 1) := by decide +kernel
theorem dX2_value_111 : decode cX2_value 111 = .ok (.iload 8, 2) := by decide +kernel
theorem dX2_value_113 : decode cX2_value 113 = .ok (.iaload, 1) := by decide +kernel
theorem dX2_value_114 : decode cX2_value 114 = .ok (.goto 8, 3) := by decide +kernel
theorem dX2_value_117 : decode cX2_value 117 = .ok (.iload 8, 2) := by decide +kernel
theorem dX2_value_119 : decode cX2_value 119 = .ok (.bipush 32, 2) := by decide +kernel
theorem dX2_value_121 : decode cX2_value 121 = .ok (.isub, 1) := by decide +kernel
theorem dX2_value_122 : decode cX2_value 122 = .ok (.iastore, 1) := by decide +kernel
theorem dX2_value_123 : decode cX2_value 123 = .ok (.iinc 6 1, 3) := by decide +kernel
theorem dX2_value_126 : decode cX2_value 126 = .ok (.goto 93, 3) := by decide +kernel
theorem dX2_value_129 : decode cX2_value 129 = .ok (.iload 8, 2) := by decide +kernel
theorem dX2_value_131 : decode cX2_value 131 = .ok (.bipush 8, 2) := by decide +kernel
theorem dX2_value_133 : decode cX2_value 133 = .ok (.if_icmp .eq 10, 3) := by decide +kernel
theorem dX2_value_136 : decode cX2_value 136 = .ok (.iload 8, 2) := by decide +kernel
theorem dX2_value_138 : decode cX2_value 138 = .ok (.bipush 20, 2) := by decide +kernel
theorem dX2_value_140 : decode cX2_value 140 = .ok (.if_icmp .ne 49, 3) := by decide +kernel
theorem dX2_value_143 : decode cX2_value 143 = .ok (.iload 6, 2) := by decide +kernel
theorem dX2_value_145 : decode cX2_value 145 = .ok (.iconst 1, 1) := by decide +kernel
theorem dX2_value_146 : decode cX2_value 146 = .ok (.if_icmp .lt 73, 3) := by decide +kernel
theorem dX2_value_149 : decode cX2_value 149 = .ok (.aload_n 3, 1) := by decide +kernel
theorem dX2_value_150 : decode cX2_value 150 = .ok (.iload 6, 2) := by decide +kernel
theorem dX2_value_152 : decode cX2_value 152 = .ok (.iconst 1, 1) := by decide +kernel
theorem dX2_value_153 : decode cX2_value 153 = .ok (.isub, 1) := by decide +kernel
theorem dX2_value_154 : decode cX2_value 154 = .ok (.iaload, 1) := by decide +kernel
theorem dX2_value_155 : decode cX2_value 155 = .ok (.istore 9, 2) := by decide +kernel
theorem dX2_value_157 : decode cX2_value 157 = .ok (.aload_n 3, 1) := by decide +kernel
theorem dX2_value_158 : decode cX2_value 158 = .ok (.iload 6, 2) := by decide +kernel
theorem dX2_value_160 : decode cX2_value 160 = .ok (.iconst 1, 1) := by decide +kernel
theorem dX2_value_161 : decode cX2_value 161 = .ok (.isub, 1) := by decide +kernel
theorem dX2_value_162 : decode cX2_value 162 = .ok (.iload 8, 2) := by decide +kernel
theorem dX2_value_164 : decode cX2_value 164 = .ok (.bipush 20, 2) := by decide +kernel
theorem dX2_value_166 : decode cX2_value 166 = .ok (.if_icmp .ne 9, 3) := by decide +kernel
theorem dX2_value_169 : decode cX2_value 169 = .ok (.iload 9, 2) := by decide +kernel
theorem dX2_value_171 : decode cX2_value 171 = .ok (.ineg, 1) := by decide +kernel
theorem dX2_value_172 : decode cX2_value 172 = .ok (.goto 13, 3) := by decide +kernel
theorem dX2_value_175 : decode cX2_value 175 = .ok (.iload 9, 2) := by decide +kernel
theorem dX2_value_177 : decode cX2_value 177 = .ok (.ifCond .ne 7, 3) := by decide +kernel
theorem dX2_value_180 : decode cX2_value 180 = .ok (.iconst 1, 1) := by decide +kernel
theorem dX2_value_181 : decode cX2_value 181 = .ok (.goto 4, 3) := by decide +kernel
theorem dX2_value_184 : decode cX2_value 184 = .ok (.iconst 0, 1) := by decide +kernel
theorem dX2_value_185 : decode cX2_value 185 = .ok (.iastore, 1) := by decide +kernel
theorem dX2_value_186 : decode cX2_value 186 = .ok (.goto 33, 3) := by decide +kernel
theorem dX2_value_189 : decode cX2_value 189 = .ok (.iload 6, 2) := by decide +kernel
theorem dX2_value_191 : decode cX2_value 191 = .ok (.iconst 2, 1) := by decide +kernel
theorem dX2_value_192 : decode cX2_value 192 = .ok (.if_icmp .lt 27, 3) := by decide +kernel
theorem dX2_value_195 : decode cX2_value 195 = .ok (.iinc 6 (-1), 3) := by decide +kernel
theorem dX2_value_198 : decode cX2_value 198 = .ok (.aload_n 3, 1) := by decide +kernel
theorem dX2_value_199 : decode cX2_value 199 = .ok (.iload 6, 2) := by decide +kernel
theorem dX2_value_201 : decode cX2_value 201 = .ok (.iconst 1, 1) := by decide +kernel
theorem dX2_value_202 : decode cX2_value 202 = .ok (.isub, 1) := by decide +kernel
theorem dX2_value_203 : decode cX2_value 203 = .ok (.iload 8, 2) := by decide +kernel
theorem dX2_value_205 : decode cX2_value 205 = .ok (.aload_n 3, 1) := by decide +kernel
theorem dX2_value_206 : decode cX2_value 206 = .ok (.iload 6, 2) := by decide +kernel
theorem dX2_value_208 : decode cX2_value 208 = .ok (.iconst 1, 1) := by decide +kernel
theorem dX2_value_209 : decode cX2_value 209 = .ok (.isub, 1) := by decide +kernel
theorem dX2_value_210 : decode cX2_value 210 = .ok (.iaload, 1) := by decide +kernel
theorem dX2_value_211 : decode cX2_value 211 = .ok (.aload_n 3, 1) := by decide +kernel
theorem dX2_value_212 : decode cX2_value 212 = .ok (.iload 6, 2) := by decide +kernel
theorem dX2_value_214 : decode cX2_value 214 = .ok (.iaload, 1) := by decide +kernel
theorem dX2_value_215 : decode cX2_value 215 = .ok (.invokestatic 30, 3) := by decide +kernel
theorem dX2_value_218 : decode cX2_value 218 = .ok (.iastore, 1) := by decide +kernel
theorem dX2_value_219 : decode cX2_value 219 = .ok (.iinc 7 1, 3) := by decide +kernel
theorem dX2_value_222 : decode cX2_value 222 = .ok (.goto (-159), 3) := by decide +kernel
theorem dX2_value_225 : decode cX2_value 225 = .ok (.iload 6, 2) := by decide +kernel
theorem dX2_value_227 : decode cX2_value 227 = .ok (.iconst 1, 1) := by decide +kernel
theorem dX2_value_228 : decode cX2_value 228 = .ok (.if_icmp .lt 9, 3) := by decide +kernel
theorem dX2_value_231 : decode cX2_value 231 = .ok (.aload_n 3, 1) := by decide +kernel
theorem dX2_value_232 : decode cX2_value 232 = .ok (.iconst 0, 1) := by decide +kernel
theorem dX2_value_233 : decode cX2_value 233 = .ok (.iaload, 1) := by decide +kernel
theorem dX2_value_234 : decode cX2_value 234 = .ok (.goto 4, 3) := by decide +kernel
theorem dX2_value_237 : decode cX2_value 237 = .ok (.iconst 0, 1) := by decide +kernel
theorem dX2_value_238 : decode cX2_value 238 = .ok (.ireturn, 1) := by decide +kernel
theorem dX2_joined_0 : decode cX2_joined 0 = .ok (.iload_n 0, 1) := by decide +kernel
theorem dX2_joined_1 : decode cX2_joined 1 = .ok (.tableswitch 129 6 19 #[71, 85, 129, 129, 129, 129, 129, 129, 129, 121, 125, 129, 99, 110], 71) := by decide +kernel
theorem dX2_joined_72 : decode cX2_joined 72 = .ok (.iload_n 1, 1) := by decide +kernel
theorem dX2_joined_73 : decode cX2_joined 73 = .ok (.ifCond .ne 7, 3) := by decide +kernel
theorem dX2_joined_76 : decode cX2_joined 76 = .ok (.iload_n 2, 1) := by decide +kernel
theorem dX2_joined_77 : decode cX2_joined 77 = .ok (.ifCond .eq 7, 3) := by decide +kernel
theorem dX2_joined_80 : decode cX2_joined 80 = .ok (.iconst 1, 1) := by decide +kernel
theorem dX2_joined_81 : decode cX2_joined 81 = .ok (.goto 4, 3) := by decide +kernel
theorem dX2_joined_84 : decode cX2_joined 84 = .ok (.iconst 0, 1) := by decide +kernel
theorem dX2_joined_85 : decode cX2_joined 85 = .ok (.ireturn, 1) := by decide +kernel
theorem dX2_joined_86 : decode cX2_joined 86 = .ok (.iload_n 1, 1) := by decide +kernel
theorem dX2_joined_87 : decode cX2_joined 87 = .ok (.ifCond .eq 11, 3) := by decide +kernel
theorem dX2_joined_90 : decode cX2_joined 90 = .ok (.iload_n 2, 1) := by decide +kernel
theorem dX2_joined_91 : decode cX2_joined 91 = .ok (.ifCond .eq 7, 3) := by decide +kernel
theorem dX2_joined_94 : decode cX2_joined 94 = .ok (.iconst 1, 1) := by decide +kernel
theorem dX2_joined_95 : decode cX2_joined 95 = .ok (.goto 4, 3) := by decide +kernel
theorem dX2_joined_98 : decode cX2_joined 98 = .ok (.iconst 0, 1) := by decide +kernel
theorem dX2_joined_99 : decode cX2_joined 99 = .ok (.ireturn, 1) := by decide +kernel
theorem dX2_joined_100 : decode cX2_joined 100 = .ok (.iload_n 1, 1) := by decide +kernel
theorem dX2_joined_101 : decode cX2_joined 101 = .ok (.iload_n 2, 1) := by decide +kernel
theorem dX2_joined_102 : decode cX2_joined 102 = .ok (.if_icmp .ge 7, 3) := by decide +kernel
theorem dX2_joined_105 : decode cX2_joined 105 = .ok (.iconst 1, 1) := by decide +kernel
theorem dX2_joined_106 : decode cX2_joined 106 = .ok (.goto 4, 3) := by decide +kernel
theorem dX2_joined_109 : decode cX2_joined 109 = .ok (.iconst 0, 1) := by decide +kernel
theorem dX2_joined_110 : decode cX2_joined 110 = .ok (.ireturn, 1) := by decide +kernel
theorem dX2_joined_111 : decode cX2_joined 111 = .ok (.iload_n 1, 1) := by decide +kernel
theorem dX2_joined_112 : decode cX2_joined 112 = .ok (.iload_n 2, 1) := by decide +kernel
theorem dX2_joined_113 : decode cX2_joined 113 = .ok (.if_icmp .ne 7, 3) := by decide +kernel
theorem dX2_joined_116 : decode cX2_joined 116 = .ok (.iconst 1, 1) := by decide +kernel
theorem dX2_joined_117 : decode cX2_joined 117 = .ok (.goto 4, 3) := by decide +kernel
theorem dX2_joined_120 : decode cX2_joined 120 = .ok (.iconst 0, 1) := by decide +kernel
theorem dX2_joined_121 : decode cX2_joined 121 = .ok (.ireturn, 1) := by decide +kernel
theorem dX2_joined_122 : decode cX2_joined 122 = .ok (.iload_n 1, 1) := by decide +kernel
theorem dX2_joined_123 : decode cX2_joined 123 = .ok (.iload_n 2, 1) := by decide +kernel
theorem dX2_joined_124 : decode cX2_joined 124 = .ok (.iadd, 1) := by decide +kernel
theorem dX2_joined_125 : decode cX2_joined 125 = .ok (.ireturn, 1) := by decide +kernel
theorem dX2_joined_126 : decode cX2_joined 126 = .ok (.iload_n 1, 1) := by decide +kernel
theorem dX2_joined_127 : decode cX2_joined 127 = .ok (.iload_n 2, 1) := by decide +kernel
theorem dX2_joined_128 : decode cX2_joined 128 = .ok (.isub, 1) := by decide +kernel
theorem dX2_joined_129 : decode cX2_joined 129 = .ok (.ireturn, 1) := by decide +kernel
theorem dX2_joined_130 : decode cX2_joined 130 = .ok (.iload_n 1, 1) := by decide +kernel
theorem dX2_joined_131 : decode cX2_joined 131 = .ok (.iload_n 2, 1) := by decide +kernel
theorem dX2_joined_132 : decode cX2_joined 132 = .ok (.imul, 1) := by decide +kernel
theorem dX2_joined_133 : decode cX2_joined 133 = .ok (.ireturn, 1) := by decide +kernel
theorem dX3_init_0 : decode cX3_init 0 = .ok (.aload_n 0, 1) := by decide +kernel
theorem dX3_init_1 : decode cX3_init 1 = .ok (.invokespecial 3, 3) := by decide +kernel
theorem dX3_init_4 : decode cX3_init 4 = .ok (.aload_n 0, 1) := by decide +kernel
theorem dX3_init_5 : decode cX3_init 5 = .ok (.bipush 8, 2) := by decide +kernel
theorem dX3_init_7 : decode cX3_init 7 = .ok (.newarray .int, 2) := by decide +kernel
theorem dX3_init_9 : decode cX3_init 9 = .ok (.putfield 9, 3) := by decide +kernel
theorem dX3_init_12 : decode cX3_init 12 = .ok (.aload_n 0, 1) := by decide +kernel
theorem dX3_init_13 : decode cX3_init 13 = .ok (.bipush 8, 2) := by decide +kernel
theorem dX3_init_15 : decode cX3_init 15 = .ok (.newarray .int, 2) := by decide +kernel
theorem dX3_init_17 : decode cX3_init 17 = .ok (.putfield 15, 3) := by decide +kernel
theorem dX3_init_20 : decode cX3_init 20 = .ok (.aload_n 0, 1) := by decide +kernel
theorem dX3_init_21 : decode cX3_init 21 = .ok (.bipush 8, 2) := by decide +kernel
theorem dX3_init_23 : decode cX3_init 23 = .ok (.newarray .int, 2) := by decide +kernel
theorem dX3_init_25 : decode cX3_init 25 = .ok (.putfield 18, 3) := by decide +kernel
theorem dX3_init_28 : decode cX3_init 28 = .ok (.aload_n 0, 1) := by decide +kernel
theorem dX3_init_29 : decode cX3_init 29 = .ok (.bipush 72, 2) := by decide +kernel
theorem dX3_init_31 : decode cX3_init 31 = .ok (.newarray .int, 2) := by decide +kernel
theorem dX3_init_33 : decode cX3_init 33 = .ok (.putfield 21, 3) := by decide +kernel
theorem dX3_init_36 : decode cX3_init 36 = .ok (.aload_n 0, 1) := by decide +kernel
theorem dX3_init_37 : decode cX3_init 37 = .ok (.iconst 4, 1) := by decide +kernel
theorem dX3_init_38 : decode cX3_init 38 = .ok (.newarray .int, 2) := by decide +kernel
theorem dX3_init_40 : decode cX3_init 40 = .ok (.putfield 24, 3) := by decide +kernel
theorem dX3_init_43 : decode cX3_init 43 = .ok (.aload_n 0, 1) := by decide +kernel
theorem dX3_init_44 : decode cX3_init 44 = .ok (.iconst 4, 1) := by decide +kernel
theorem dX3_init_45 : decode cX3_init 45 = .ok (.newarray .int, 2) := by decide +kernel
theorem dX3_init_47 : decode cX3_init 47 = .ok (.putfield 27, 3) := by decide +kernel
theorem dX3_init_50 : decode cX3_init 50 = .ok (.aload_n 0, 1) := by decide +kernel
theorem dX3_init_51 : decode cX3_init 51 = .ok (.iconst 4, 1) := by decide +kernel
theorem dX3_init_52 : decode cX3_init 52 = .ok (.newarray .int, 2) := by decide +kernel
theorem dX3_init_54 : decode cX3_init 54 = .ok (.putfield 30, 3) := by decide +kernel
theorem dX3_init_57 : decode cX3_init 57 = .ok (.aload_n 0, 1) := by decide +kernel
theorem dX3_init_58 : decode cX3_init 58 = .ok (.aload_n 1, 1) := by decide +kernel
theorem dX3_init_59 : decode cX3_init 59 = .ok (.putfield 33, 3) := by decide +kernel
theorem dX3_init_62 : decode cX3_init 62 = .ok (.return_, 1) := by decide +kernel
theorem dX3_waysOver_0 : decode cX3_waysOver 0 = .ok (.iconst 1, 1) := by decide +kernel
theorem dX3_waysOver_1 : decode cX3_waysOver 1 = .ok (.istore_n 2, 1) := by decide +kernel
theorem dX3_waysOver_2 : decode cX3_waysOver 2 = .ok (.iconst 0, 1) := by decide +kernel
theorem dX3_waysOver_3 : decode cX3_waysOver 3 = .ok (.istore_n 3, 1) := by decide +kernel
theorem dX3_waysOver_4 : decode cX3_waysOver 4 = .ok (.iload_n 3, 1) := by decide +kernel
theorem dX3_waysOver_5 : decode cX3_waysOver 5 = .ok (.aload_n 0, 1) := by decide +kernel
theorem dX3_waysOver_6 : decode cX3_waysOver 6 = .ok (.getfield 33, 3) := by decide +kernel
theorem dX3_waysOver_9 : decode cX3_waysOver 9 = .ok (.getfield 37, 3) := by decide +kernel
theorem dX3_waysOver_12 : decode cX3_waysOver 12 = .ok (.if_icmp .ge 13, 3) := by decide +kernel
theorem dX3_waysOver_15 : decode cX3_waysOver 15 = .ok (.iload_n 2, 1) := by decide +kernel
theorem dX3_waysOver_16 : decode cX3_waysOver 16 = .ok (.iload_n 1, 1) := by decide +kernel
theorem dX3_waysOver_17 : decode cX3_waysOver 17 = .ok (.imul, 1) := by decide +kernel
theorem dX3_waysOver_18 : decode cX3_waysOver 18 = .ok (.istore_n 2, 1) := by decide +kernel
theorem dX3_waysOver_19 : decode cX3_waysOver 19 = .ok (.iinc 3 1, 3) := by decide +kernel
theorem dX3_waysOver_22 : decode cX3_waysOver 22 = .ok (.goto (-18), 3) := by decide +kernel
theorem dX3_waysOver_25 : decode cX3_waysOver 25 = .ok (.iload_n 2, 1) := by decide +kernel
theorem dX3_waysOver_26 : decode cX3_waysOver 26 = .ok (.ireturn, 1) := by decide +kernel
theorem dX3_search_0 : decode cX3_search 0 = .ok (.aload_n 0, 1) := by decide +kernel
theorem dX3_search_1 : decode cX3_search 1 = .ok (.invokevirtual 43, 3) := by decide +kernel
theorem dX3_search_4 : decode cX3_search 4 = .ok (.aload_n 0, 1) := by decide +kernel
theorem dX3_search_5 : decode cX3_search 5 = .ok (.iconst (-1), 1) := by decide +kernel
theorem dX3_search_6 : decode cX3_search 6 = .ok (.putfield 46, 3) := by decide +kernel
theorem dX3_search_9 : decode cX3_search 9 = .ok (.aload_n 0, 1) := by decide +kernel
theorem dX3_search_10 : decode cX3_search 10 = .ok (.iload_n 1, 1) := by decide +kernel
theorem dX3_search_11 : decode cX3_search 11 = .ok (.invokevirtual 49, 3) := by decide +kernel
theorem dX3_search_14 : decode cX3_search 14 = .ok (.istore_n 2, 1) := by decide +kernel
theorem dX3_search_15 : decode cX3_search 15 = .ok (.iload_n 1, 1) := by decide +kernel
theorem dX3_search_16 : decode cX3_search 16 = .ok (.aload_n 0, 1) := by decide +kernel
theorem dX3_search_17 : decode cX3_search 17 = .ok (.getfield 33, 3) := by decide +kernel
theorem dX3_search_20 : decode cX3_search 20 = .ok (.getfield 37, 3) := by decide +kernel
theorem dX3_search_23 : decode cX3_search 23 = .ok (.iconst 2, 1) := by decide +kernel
theorem dX3_search_24 : decode cX3_search 24 = .ok (.idiv, 1) := by decide +kernel
theorem dX3_search_25 : decode cX3_search 25 = .ok (.invokestatic 53, 3) := by decide +kernel
theorem dX3_search_28 : decode cX3_search 28 = .ok (.istore_n 3, 1) := by decide +kernel
theorem dX3_search_29 : decode cX3_search 29 = .ok (.iconst 0, 1) := by decide +kernel
theorem dX3_search_30 : decode cX3_search 30 = .ok (.istore 4, 2) := by decide +kernel
theorem dX3_search_32 : decode cX3_search 32 = .ok (.iload 4, 2) := by decide +kernel
theorem dX3_search_34 : decode cX3_search 34 = .ok (.iload_n 2, 1) := by decide +kernel
theorem dX3_search_35 : decode cX3_search 35 = .ok (.if_icmp .ge 59, 3) := by decide +kernel
theorem dX3_search_38 : decode cX3_search 38 = .ok (.aload_n 0, 1) := by decide +kernel
theorem dX3_search_39 : decode cX3_search 39 = .ok (.getfield 46, 3) := by decide +kernel
theorem dX3_search_42 : decode cX3_search 42 = .ok (.iload_n 3, 1) := by decide +kernel
theorem dX3_search_43 : decode cX3_search 43 = .ok (.if_icmp .ge 51, 3) := by decide +kernel
theorem dX3_search_46 : decode cX3_search 46 = .ok (.aload_n 0, 1) := by decide +kernel
theorem dX3_search_47 : decode cX3_search 47 = .ok (.iload_n 1, 1) := by decide +kernel
theorem dX3_search_48 : decode cX3_search 48 = .ok (.invokevirtual 59, 3) := by decide +kernel
theorem dX3_search_51 : decode cX3_search 51 = .ok (.istore 5, 2) := by decide +kernel
theorem dX3_search_53 : decode cX3_search 53 = .ok (.iload 5, 2) := by decide +kernel
theorem dX3_search_55 : decode cX3_search 55 = .ok (.aload_n 0, 1) := by decide +kernel
theorem dX3_search_56 : decode cX3_search 56 = .ok (.getfield 46, 3) := by decide +kernel
theorem dX3_search_59 : decode cX3_search 59 = .ok (.if_icmp .le 24, 3) := by decide +kernel
theorem dX3_search_62 : decode cX3_search 62 = .ok (.aload_n 0, 1) := by decide +kernel
theorem dX3_search_63 : decode cX3_search 63 = .ok (.iload 5, 2) := by decide +kernel
theorem dX3_search_65 : decode cX3_search 65 = .ok (.putfield 46, 3) := by decide +kernel
theorem dX3_search_68 : decode cX3_search 68 = .ok (.aload_n 0, 1) := by decide +kernel
theorem dX3_search_69 : decode cX3_search 69 = .ok (.getfield 9, 3) := by decide +kernel
theorem dX3_search_72 : decode cX3_search 72 = .ok (.iconst 0, 1) := by decide +kernel
theorem dX3_search_73 : decode cX3_search 73 = .ok (.aload_n 0, 1) := by decide +kernel
theorem dX3_search_74 : decode cX3_search 74 = .ok (.getfield 15, 3) := by decide +kernel
theorem dX3_search_77 : decode cX3_search 77 = .ok (.iconst 0, 1) := by decide +kernel
theorem dX3_search_78 : decode cX3_search 78 = .ok (.bipush 8, 2) := by decide +kernel
theorem dX3_search_80 : decode cX3_search 80 = .ok (.invokestatic 62, 3) := by decide +kernel
theorem dX3_search_83 : decode cX3_search 83 = .ok (.aload_n 0, 1) := by decide +kernel
theorem dX3_search_84 : decode cX3_search 84 = .ok (.iload_n 1, 1) := by decide +kernel
theorem dX3_search_85 : decode cX3_search 85 = .ok (.invokevirtual 68, 3) := by decide +kernel
theorem dX3_search_88 : decode cX3_search 88 = .ok (.iinc 4 1, 3) := by decide +kernel
theorem dX3_search_91 : decode cX3_search 91 = .ok (.goto (-59), 3) := by decide +kernel
theorem dX3_search_94 : decode cX3_search 94 = .ok (.return_, 1) := by decide +kernel
theorem dX3_prepare_0 : decode cX3_prepare 0 = .ok (.iconst 0, 1) := by decide +kernel
theorem dX3_prepare_1 : decode cX3_prepare 1 = .ok (.istore_n 1, 1) := by decide +kernel
theorem dX3_prepare_2 : decode cX3_prepare 2 = .ok (.iload_n 1, 1) := by decide +kernel
theorem dX3_prepare_3 : decode cX3_prepare 3 = .ok (.aload_n 0, 1) := by decide +kernel
theorem dX3_prepare_4 : decode cX3_prepare 4 = .ok (.getfield 33, 3) := by decide +kernel
theorem dX3_prepare_7 : decode cX3_prepare 7 = .ok (.getfield 37, 3) := by decide +kernel
theorem dX3_prepare_10 : decode cX3_prepare 10 = .ok (.if_icmp .ge 66, 3) := by decide +kernel
theorem dX3_prepare_13 : decode cX3_prepare 13 = .ok (.aload_n 0, 1) := by decide +kernel
theorem dX3_prepare_14 : decode cX3_prepare 14 = .ok (.getfield 9, 3) := by decide +kernel
theorem dX3_prepare_17 : decode cX3_prepare 17 = .ok (.iload_n 1, 1) := by decide +kernel
theorem dX3_prepare_18 : decode cX3_prepare 18 = .ok (.iconst 0, 1) := by decide +kernel
theorem dX3_prepare_19 : decode cX3_prepare 19 = .ok (.iastore, 1) := by decide +kernel
theorem dX3_prepare_20 : decode cX3_prepare 20 = .ok (.aload_n 0, 1) := by decide +kernel
theorem dX3_prepare_21 : decode cX3_prepare 21 = .ok (.getfield 18, 3) := by decide +kernel
theorem dX3_prepare_24 : decode cX3_prepare 24 = .ok (.iload_n 1, 1) := by decide +kernel
theorem dX3_prepare_25 : decode cX3_prepare 25 = .ok (.aload_n 0, 1) := by decide +kernel
theorem dX3_prepare_26 : decode cX3_prepare 26 = .ok (.getfield 33, 3) := by decide +kernel
theorem dX3_prepare_29 : decode cX3_prepare 29 = .ok (.iload_n 1, 1) := by decide +kernel
theorem dX3_prepare_30 : decode cX3_prepare 30 = .ok (.invokevirtual 72, 3) := by decide +kernel
theorem dX3_prepare_33 : decode cX3_prepare 33 = .ok (.iastore, 1) := by decide +kernel
theorem dX3_prepare_34 : decode cX3_prepare 34 = .ok (.iconst 2, 1) := by decide +kernel
theorem dX3_prepare_35 : decode cX3_prepare 35 = .ok (.istore_n 2, 1) := by decide +kernel
theorem dX3_prepare_36 : decode cX3_prepare 36 = .ok (.iload_n 2, 1) := by decide +kernel
theorem dX3_prepare_37 : decode cX3_prepare 37 = .ok (.aload_n 0, 1) := by decide +kernel
theorem dX3_prepare_38 : decode cX3_prepare 38 = .ok (.getfield 33, 3) := by decide +kernel
theorem dX3_prepare_41 : decode cX3_prepare 41 = .ok (.getfield 37, 3) := by decide +kernel
theorem dX3_prepare_44 : decode cX3_prepare 44 = .ok (.if_icmp .gt 26, 3) := by decide +kernel
theorem dX3_prepare_47 : decode cX3_prepare 47 = .ok (.aload_n 0, 1) := by decide +kernel
theorem dX3_prepare_48 : decode cX3_prepare 48 = .ok (.getfield 21, 3) := by decide +kernel
theorem dX3_prepare_51 : decode cX3_prepare 51 = .ok (.iload_n 1, 1) := by decide +kernel
theorem dX3_prepare_52 : decode cX3_prepare 52 = .ok (.bipush 9, 2) := by decide +kernel
theorem dX3_prepare_54 : decode cX3_prepare 54 = .ok (.imul, 1) := by decide +kernel
theorem dX3_prepare_55 : decode cX3_prepare 55 = .ok (.iload_n 2, 1) := by decide +kernel
theorem dX3_prepare_56 : decode cX3_prepare 56 = .ok (.iadd, 1) := by decide +kernel
theorem dX3_prepare_57 : decode cX3_prepare 57 = .ok (.aload_n 0, 1) := by decide +kernel
theorem dX3_prepare_58 : decode cX3_prepare 58 = .ok (.iload_n 1, 1) := by decide +kernel
theorem dX3_prepare_59 : decode cX3_prepare 59 = .ok (.iload_n 2, 1) := by decide +kernel
theorem dX3_prepare_60 : decode cX3_prepare 60 = .ok (.invokevirtual 75, 3) := by decide +kernel
theorem dX3_prepare_63 : decode cX3_prepare 63 = .ok (.iastore, 1) := by decide +kernel
theorem dX3_prepare_64 : decode cX3_prepare 64 = .ok (.iinc 2 1, 3) := by decide +kernel
theorem dX3_prepare_67 : decode cX3_prepare 67 = .ok (.goto (-31), 3) := by decide +kernel
theorem dX3_prepare_70 : decode cX3_prepare 70 = .ok (.iinc 1 1, 3) := by decide +kernel
theorem dX3_prepare_73 : decode cX3_prepare 73 = .ok (.goto (-71), 3) := by decide +kernel
theorem dX3_prepare_76 : decode cX3_prepare 76 = .ok (.return_, 1) := by decide +kernel
theorem dX3_awakeOf_0 : decode cX3_awakeOf 0 = .ok (.aload_n 0, 1) := by decide +kernel
theorem dX3_awakeOf_1 : decode cX3_awakeOf 1 = .ok (.getfield 33, 3) := by decide +kernel
theorem dX3_awakeOf_4 : decode cX3_awakeOf 4 = .ok (.getfield 78, 3) := by decide +kernel
theorem dX3_awakeOf_7 : decode cX3_awakeOf 7 = .ok (.iload_n 1, 1) := by decide +kernel
theorem dX3_awakeOf_8 : decode cX3_awakeOf 8 = .ok (.iaload, 1) := by decide +kernel
theorem dX3_awakeOf_9 : decode cX3_awakeOf 9 = .ok (.aload_n 0, 1) := by decide +kernel
theorem dX3_awakeOf_10 : decode cX3_awakeOf 10 = .ok (.getfield 33, 3) := by decide +kernel
theorem dX3_awakeOf_13 : decode cX3_awakeOf 13 = .ok (.getfield 81, 3) := by decide +kernel
theorem dX3_awakeOf_16 : decode cX3_awakeOf 16 = .ok (.invokevirtual 85, 3) := by decide +kernel
theorem dX3_awakeOf_19 : decode cX3_awakeOf 19 = .ok (.iand, 1) := by decide +kernel
theorem dX3_awakeOf_20 : decode cX3_awakeOf 20 = .ok (.istore_n 3, 1) := by decide +kernel
theorem dX3_awakeOf_21 : decode cX3_awakeOf 21 = .ok (.iconst 0, 1) := by decide +kernel
theorem dX3_awakeOf_22 : decode cX3_awakeOf 22 = .ok (.istore 4, 2) := by decide +kernel
theorem dX3_awakeOf_24 : decode cX3_awakeOf 24 = .ok (.iload 4, 2) := by decide +kernel
theorem dX3_awakeOf_26 : decode cX3_awakeOf 26 = .ok (.aload_n 0, 1) := by decide +kernel
theorem dX3_awakeOf_27 : decode cX3_awakeOf 27 = .ok (.getfield 33, 3) := by decide +kernel
theorem dX3_awakeOf_30 : decode cX3_awakeOf 30 = .ok (.getfield 81, 3) := by decide +kernel
theorem dX3_awakeOf_33 : decode cX3_awakeOf 33 = .ok (.getfield 91, 3) := by decide +kernel
theorem dX3_awakeOf_36 : decode cX3_awakeOf 36 = .ok (.if_icmp .ge 43, 3) := by decide +kernel
theorem dX3_awakeOf_39 : decode cX3_awakeOf 39 = .ok (.iload_n 3, 1) := by decide +kernel
theorem dX3_awakeOf_40 : decode cX3_awakeOf 40 = .ok (.iload 4, 2) := by decide +kernel
theorem dX3_awakeOf_42 : decode cX3_awakeOf 42 = .ok (.ishr, 1) := by decide +kernel
theorem dX3_awakeOf_43 : decode cX3_awakeOf 43 = .ok (.iconst 1, 1) := by decide +kernel
theorem dX3_awakeOf_44 : decode cX3_awakeOf 44 = .ok (.iand, 1) := by decide +kernel
theorem dX3_awakeOf_45 : decode cX3_awakeOf 45 = .ok (.iconst 1, 1) := by decide +kernel
theorem dX3_awakeOf_46 : decode cX3_awakeOf 46 = .ok (.if_icmp .ne 27, 3) := by decide +kernel
theorem dX3_awakeOf_49 : decode cX3_awakeOf 49 = .ok (.aload_n 0, 1) := by decide +kernel
theorem dX3_awakeOf_50 : decode cX3_awakeOf 50 = .ok (.getfield 33, 3) := by decide +kernel
theorem dX3_awakeOf_53 : decode cX3_awakeOf 53 = .ok (.iconst 2, 1) := by decide +kernel
theorem dX3_awakeOf_54 : decode cX3_awakeOf 54 = .ok (.iload_n 1, 1) := by decide +kernel
theorem dX3_awakeOf_55 : decode cX3_awakeOf 55 = .ok (.iload 4, 2) := by decide +kernel
theorem dX3_awakeOf_57 : decode cX3_awakeOf 57 = .ok (.iload_n 2, 1) := by decide +kernel
theorem dX3_awakeOf_58 : decode cX3_awakeOf 58 = .ok (.invokevirtual 92, 3) := by decide +kernel
theorem dX3_awakeOf_61 : decode cX3_awakeOf 61 = .ok (.ifCond .eq 12, 3) := by decide +kernel
theorem dX3_awakeOf_64 : decode cX3_awakeOf 64 = .ok (.iload_n 3, 1) := by decide +kernel
theorem dX3_awakeOf_65 : decode cX3_awakeOf 65 = .ok (.iconst 1, 1) := by decide +kernel
theorem dX3_awakeOf_66 : decode cX3_awakeOf 66 = .ok (.iload 4, 2) := by decide +kernel
theorem dX3_awakeOf_68 : decode cX3_awakeOf 68 = .ok (.ishl, 1) := by decide +kernel
theorem dX3_awakeOf_69 : decode cX3_awakeOf 69 = .ok (.iconst (-1), 1) := by decide +kernel
theorem dX3_awakeOf_70 : decode cX3_awakeOf 70 = .ok (.ixor, 1) := by decide +kernel
theorem dX3_awakeOf_71 : decode cX3_awakeOf 71 = .ok (.iand, 1) := by decide +kernel
theorem dX3_awakeOf_72 : decode cX3_awakeOf 72 = .ok (.istore_n 3, 1) := by decide +kernel
theorem dX3_awakeOf_73 : decode cX3_awakeOf 73 = .ok (.iinc 4 1, 3) := by decide +kernel
theorem dX3_awakeOf_76 : decode cX3_awakeOf 76 = .ok (.goto (-52), 3) := by decide +kernel
theorem dX3_awakeOf_79 : decode cX3_awakeOf 79 = .ok (.iload_n 3, 1) := by decide +kernel
theorem dX3_awakeOf_80 : decode cX3_awakeOf 80 = .ok (.ireturn, 1) := by decide +kernel
theorem dX3_nextWay_0 : decode cX3_nextWay 0 = .ok (.iconst 0, 1) := by decide +kernel
theorem dX3_nextWay_1 : decode cX3_nextWay 1 = .ok (.istore_n 2, 1) := by decide +kernel
theorem dX3_nextWay_2 : decode cX3_nextWay 2 = .ok (.iload_n 2, 1) := by decide +kernel
theorem dX3_nextWay_3 : decode cX3_nextWay 3 = .ok (.aload_n 0, 1) := by decide +kernel
theorem dX3_nextWay_4 : decode cX3_nextWay 4 = .ok (.getfield 33, 3) := by decide +kernel
theorem dX3_nextWay_7 : decode cX3_nextWay 7 = .ok (.getfield 37, 3) := by decide +kernel
theorem dX3_nextWay_10 : decode cX3_nextWay 10 = .ok (.if_icmp .ge 37, 3) := by decide +kernel
theorem dX3_nextWay_13 : decode cX3_nextWay 13 = .ok (.aload_n 0, 1) := by decide +kernel
theorem dX3_nextWay_14 : decode cX3_nextWay 14 = .ok (.getfield 9, 3) := by decide +kernel
theorem dX3_nextWay_17 : decode cX3_nextWay 17 = .ok (.iload_n 2, 1) := by decide +kernel
theorem dX3_nextWay_18 : decode cX3_nextWay 18 = .ok (.dup2, 1) := by decide +kernel
theorem dX3_nextWay_19 : decode cX3_nextWay 19 = .ok (.iaload, 1) := by decide +kernel
theorem dX3_nextWay_20 : decode cX3_nextWay 20 = .ok (.iconst 1, 1) := by decide +kernel
theorem dX3_nextWay_21 : decode cX3_nextWay 21 = .ok (.iadd, 1) := by decide +kernel
theorem dX3_nextWay_22 : decode cX3_nextWay 22 = .ok (.iastore, 1) := by decide +kernel
theorem dX3_nextWay_23 : decode cX3_nextWay 23 = .ok (.aload_n 0, 1) := by decide +kernel
theorem dX3_nextWay_24 : decode cX3_nextWay 24 = .ok (.getfield 9, 3) := by decide +kernel
theorem dX3_nextWay_27 : decode cX3_nextWay 27 = .ok (.iload_n 2, 1) := by decide +kernel
theorem dX3_nextWay_28 : decode cX3_nextWay 28 = .ok (.iaload, 1) := by decide +kernel
theorem dX3_nextWay_29 : decode cX3_nextWay 29 = .ok (.iload_n 1, 1) := by decide +kernel
theorem dX3_nextWay_30 : decode cX3_nextWay 30 = .ok (.if_icmp .ge 4, 3) := by decide +kernel
theorem dX3_nextWay_33 : decode cX3_nextWay 33 = .ok (.return_, 1) := by decide +kernel
theorem dX3_nextWay_34 : decode cX3_nextWay 34 = .ok (.aload_n 0, 1) := by decide +kernel
theorem dX3_nextWay_35 : decode cX3_nextWay 35 = .ok (.getfield 9, 3) := by decide +kernel
theorem dX3_nextWay_38 : decode cX3_nextWay 38 = .ok (.iload_n 2, 1) := by decide +kernel
theorem dX3_nextWay_39 : decode cX3_nextWay 39 = .ok (.iconst 0, 1) := by decide +kernel
theorem dX3_nextWay_40 : decode cX3_nextWay 40 = .ok (.iastore, 1) := by decide +kernel
theorem dX3_nextWay_41 : decode cX3_nextWay 41 = .ok (.iinc 2 1, 3) := by decide +kernel
theorem dX3_nextWay_44 : decode cX3_nextWay 44 = .ok (.goto (-42), 3) := by decide +kernel
theorem dX3_nextWay_47 : decode cX3_nextWay 47 = .ok (.return_, 1) := by decide +kernel
theorem dX3_housesWithStory_0 : decode cX3_housesWithStory 0 = .ok (.aload_n 0, 1) := by decide +kernel
theorem dX3_housesWithStory_1 : decode cX3_housesWithStory 1 = .ok (.iload_n 1, 1) := by decide +kernel
theorem dX3_housesWithStory_2 : decode cX3_housesWithStory 2 = .ok (.invokevirtual 96, 3) := by decide +kernel
theorem dX3_housesWithStory_5 : decode cX3_housesWithStory 5 = .ok (.iconst 0, 1) := by decide +kernel
theorem dX3_housesWithStory_6 : decode cX3_housesWithStory 6 = .ok (.istore_n 2, 1) := by decide +kernel
theorem dX3_housesWithStory_7 : decode cX3_housesWithStory 7 = .ok (.iconst 0, 1) := by decide +kernel
theorem dX3_housesWithStory_8 : decode cX3_housesWithStory 8 = .ok (.istore_n 3, 1) := by decide +kernel
theorem dX3_housesWithStory_9 : decode cX3_housesWithStory 9 = .ok (.iload_n 3, 1) := by decide +kernel
theorem dX3_housesWithStory_10 : decode cX3_housesWithStory 10 = .ok (.aload_n 0, 1) := by decide +kernel
theorem dX3_housesWithStory_11 : decode cX3_housesWithStory 11 = .ok (.getfield 33, 3) := by decide +kernel
theorem dX3_housesWithStory_14 : decode cX3_housesWithStory 14 = .ok (.getfield 37, 3) := by decide +kernel
theorem dX3_housesWithStory_17 : decode cX3_housesWithStory 17 = .ok (.if_icmp .ge 86, 3) := by decide +kernel
theorem dX3_housesWithStory_20 : decode cX3_housesWithStory 20 = .ok (.aload_n 0, 1) := by decide +kernel
theorem dX3_housesWithStory_21 : decode cX3_housesWithStory 21 = .ok (.getfield 9, 3) := by decide +kernel
theorem dX3_housesWithStory_24 : decode cX3_housesWithStory 24 = .ok (.iload_n 3, 1) := by decide +kernel
theorem dX3_housesWithStory_25 : decode cX3_housesWithStory 25 = .ok (.iaload, 1) := by decide +kernel
theorem dX3_housesWithStory_26 : decode cX3_housesWithStory 26 = .ok (.istore 4, 2) := by decide +kernel
theorem dX3_housesWithStory_28 : decode cX3_housesWithStory 28 = .ok (.aload_n 0, 1) := by decide +kernel
theorem dX3_housesWithStory_29 : decode cX3_housesWithStory 29 = .ok (.getfield 30, 3) := by decide +kernel
theorem dX3_housesWithStory_32 : decode cX3_housesWithStory 32 = .ok (.iload 4, 2) := by decide +kernel
theorem dX3_housesWithStory_34 : decode cX3_housesWithStory 34 = .ok (.iaload, 1) := by decide +kernel
theorem dX3_housesWithStory_35 : decode cX3_housesWithStory 35 = .ok (.aload_n 0, 1) := by decide +kernel
theorem dX3_housesWithStory_36 : decode cX3_housesWithStory 36 = .ok (.getfield 27, 3) := by decide +kernel
theorem dX3_housesWithStory_39 : decode cX3_housesWithStory 39 = .ok (.iload 4, 2) := by decide +kernel
theorem dX3_housesWithStory_41 : decode cX3_housesWithStory 41 = .ok (.iaload, 1) := by decide +kernel
theorem dX3_housesWithStory_42 : decode cX3_housesWithStory 42 = .ok (.aload_n 0, 1) := by decide +kernel
theorem dX3_housesWithStory_43 : decode cX3_housesWithStory 43 = .ok (.getfield 18, 3) := by decide +kernel
theorem dX3_housesWithStory_46 : decode cX3_housesWithStory 46 = .ok (.iload_n 3, 1) := by decide +kernel
theorem dX3_housesWithStory_47 : decode cX3_housesWithStory 47 = .ok (.iaload, 1) := by decide +kernel
theorem dX3_housesWithStory_48 : decode cX3_housesWithStory 48 = .ok (.iconst (-1), 1) := by decide +kernel
theorem dX3_housesWithStory_49 : decode cX3_housesWithStory 49 = .ok (.ixor, 1) := by decide +kernel
theorem dX3_housesWithStory_50 : decode cX3_housesWithStory 50 = .ok (.iand, 1) := by decide +kernel
theorem dX3_housesWithStory_51 : decode cX3_housesWithStory 51 = .ok (.ior, 1) := by decide +kernel
theorem dX3_housesWithStory_52 : decode cX3_housesWithStory 52 = .ok (.istore 5, 2) := by decide +kernel
theorem dX3_housesWithStory_54 : decode cX3_housesWithStory 54 = .ok (.aload_n 0, 1) := by decide +kernel
theorem dX3_housesWithStory_55 : decode cX3_housesWithStory 55 = .ok (.getfield 24, 3) := by decide +kernel
theorem dX3_housesWithStory_58 : decode cX3_housesWithStory 58 = .ok (.iload 4, 2) := by decide +kernel
theorem dX3_housesWithStory_60 : decode cX3_housesWithStory 60 = .ok (.iaload, 1) := by decide +kernel
theorem dX3_housesWithStory_61 : decode cX3_housesWithStory 61 = .ok (.iconst 2, 1) := by decide +kernel
theorem dX3_housesWithStory_62 : decode cX3_housesWithStory 62 = .ok (.if_icmp .lt 35, 3) := by decide +kernel
theorem dX3_housesWithStory_65 : decode cX3_housesWithStory 65 = .ok (.aload_n 0, 1) := by decide +kernel
theorem dX3_housesWithStory_66 : decode cX3_housesWithStory 66 = .ok (.getfield 21, 3) := by decide +kernel
theorem dX3_housesWithStory_69 : decode cX3_housesWithStory 69 = .ok (.iload_n 3, 1) := by decide +kernel
theorem dX3_housesWithStory_70 : decode cX3_housesWithStory 70 = .ok (.bipush 9, 2) := by decide +kernel
theorem dX3_housesWithStory_72 : decode cX3_housesWithStory 72 = .ok (.imul, 1) := by decide +kernel
theorem dX3_housesWithStory_73 : decode cX3_housesWithStory 73 = .ok (.aload_n 0, 1) := by decide +kernel
theorem dX3_housesWithStory_74 : decode cX3_housesWithStory 74 = .ok (.getfield 24, 3) := by decide +kernel
theorem dX3_housesWithStory_77 : decode cX3_housesWithStory 77 = .ok (.iload 4, 2) := by decide +kernel
theorem dX3_housesWithStory_79 : decode cX3_housesWithStory 79 = .ok (.iaload, 1) := by decide +kernel
theorem dX3_housesWithStory_80 : decode cX3_housesWithStory 80 = .ok (.iadd, 1) := by decide +kernel
theorem dX3_housesWithStory_81 : decode cX3_housesWithStory 81 = .ok (.iaload, 1) := by decide +kernel
theorem dX3_housesWithStory_82 : decode cX3_housesWithStory 82 = .ok (.iload 5, 2) := by decide +kernel
theorem dX3_housesWithStory_84 : decode cX3_housesWithStory 84 = .ok (.iconst (-1), 1) := by decide +kernel
theorem dX3_housesWithStory_85 : decode cX3_housesWithStory 85 = .ok (.ixor, 1) := by decide +kernel
theorem dX3_housesWithStory_86 : decode cX3_housesWithStory 86 = .ok (.iand, 1) := by decide +kernel
theorem dX3_housesWithStory_87 : decode cX3_housesWithStory 87 = .ok (.ifCond .eq 10, 3) := by decide +kernel
theorem dX3_housesWithStory_90 : decode cX3_housesWithStory 90 = .ok (.iload_n 2, 1) := by decide +kernel
theorem dX3_housesWithStory_91 : decode cX3_housesWithStory 91 = .ok (.iconst 1, 1) := by decide +kernel
theorem dX3_housesWithStory_92 : decode cX3_housesWithStory 92 = .ok (.iload 4, 2) := by decide +kernel
theorem dX3_housesWithStory_94 : decode cX3_housesWithStory 94 = .ok (.ishl, 1) := by decide +kernel
theorem dX3_housesWithStory_95 : decode cX3_housesWithStory 95 = .ok (.ior, 1) := by decide +kernel
theorem dX3_housesWithStory_96 : decode cX3_housesWithStory 96 = .ok (.istore_n 2, 1) := by decide +kernel
theorem dX3_housesWithStory_97 : decode cX3_housesWithStory 97 = .ok (.iinc 3 1, 3) := by decide +kernel
theorem dX3_housesWithStory_100 : decode cX3_housesWithStory 100 = .ok (.goto (-91), 3) := by decide +kernel
theorem dX3_housesWithStory_103 : decode cX3_housesWithStory 103 = .ok (.iload_n 2, 1) := by decide +kernel
theorem dX3_housesWithStory_104 : decode cX3_housesWithStory 104 = .ok (.invokestatic 99, 3) := by decide +kernel
theorem dX3_housesWithStory_107 : decode cX3_housesWithStory 107 = .ok (.ireturn, 1) := by decide +kernel
theorem dX3_fillHouses_0 : decode cX3_fillHouses 0 = .ok (.iconst 0, 1) := by decide +kernel
theorem dX3_fillHouses_1 : decode cX3_fillHouses 1 = .ok (.istore_n 2, 1) := by decide +kernel
theorem dX3_fillHouses_2 : decode cX3_fillHouses 2 = .ok (.iload_n 2, 1) := by decide +kernel
theorem dX3_fillHouses_3 : decode cX3_fillHouses 3 = .ok (.iload_n 1, 1) := by decide +kernel
theorem dX3_fillHouses_4 : decode cX3_fillHouses 4 = .ok (.if_icmp .ge 30, 3) := by decide +kernel
theorem dX3_fillHouses_7 : decode cX3_fillHouses 7 = .ok (.aload_n 0, 1) := by decide +kernel
theorem dX3_fillHouses_8 : decode cX3_fillHouses 8 = .ok (.getfield 24, 3) := by decide +kernel
theorem dX3_fillHouses_11 : decode cX3_fillHouses 11 = .ok (.iload_n 2, 1) := by decide +kernel
theorem dX3_fillHouses_12 : decode cX3_fillHouses 12 = .ok (.iconst 0, 1) := by decide +kernel
theorem dX3_fillHouses_13 : decode cX3_fillHouses 13 = .ok (.iastore, 1) := by decide +kernel
theorem dX3_fillHouses_14 : decode cX3_fillHouses 14 = .ok (.aload_n 0, 1) := by decide +kernel
theorem dX3_fillHouses_15 : decode cX3_fillHouses 15 = .ok (.getfield 27, 3) := by decide +kernel
theorem dX3_fillHouses_18 : decode cX3_fillHouses 18 = .ok (.iload_n 2, 1) := by decide +kernel
theorem dX3_fillHouses_19 : decode cX3_fillHouses 19 = .ok (.iconst 0, 1) := by decide +kernel
theorem dX3_fillHouses_20 : decode cX3_fillHouses 20 = .ok (.iastore, 1) := by decide +kernel
theorem dX3_fillHouses_21 : decode cX3_fillHouses 21 = .ok (.aload_n 0, 1) := by decide +kernel
theorem dX3_fillHouses_22 : decode cX3_fillHouses 22 = .ok (.getfield 30, 3) := by decide +kernel
theorem dX3_fillHouses_25 : decode cX3_fillHouses 25 = .ok (.iload_n 2, 1) := by decide +kernel
theorem dX3_fillHouses_26 : decode cX3_fillHouses 26 = .ok (.iconst 0, 1) := by decide +kernel
theorem dX3_fillHouses_27 : decode cX3_fillHouses 27 = .ok (.iastore, 1) := by decide +kernel
theorem dX3_fillHouses_28 : decode cX3_fillHouses 28 = .ok (.iinc 2 1, 3) := by decide +kernel
theorem dX3_fillHouses_31 : decode cX3_fillHouses 31 = .ok (.goto (-29), 3) := by decide +kernel
theorem dX3_fillHouses_34 : decode cX3_fillHouses 34 = .ok (.iconst 0, 1) := by decide +kernel
theorem dX3_fillHouses_35 : decode cX3_fillHouses 35 = .ok (.istore_n 2, 1) := by decide +kernel
theorem dX3_fillHouses_36 : decode cX3_fillHouses 36 = .ok (.iload_n 2, 1) := by decide +kernel
theorem dX3_fillHouses_37 : decode cX3_fillHouses 37 = .ok (.aload_n 0, 1) := by decide +kernel
theorem dX3_fillHouses_38 : decode cX3_fillHouses 38 = .ok (.getfield 33, 3) := by decide +kernel
theorem dX3_fillHouses_41 : decode cX3_fillHouses 41 = .ok (.getfield 37, 3) := by decide +kernel
theorem dX3_fillHouses_44 : decode cX3_fillHouses 44 = .ok (.if_icmp .ge 63, 3) := by decide +kernel
theorem dX3_fillHouses_47 : decode cX3_fillHouses 47 = .ok (.aload_n 0, 1) := by decide +kernel
theorem dX3_fillHouses_48 : decode cX3_fillHouses 48 = .ok (.getfield 9, 3) := by decide +kernel
theorem dX3_fillHouses_51 : decode cX3_fillHouses 51 = .ok (.iload_n 2, 1) := by decide +kernel
theorem dX3_fillHouses_52 : decode cX3_fillHouses 52 = .ok (.iaload, 1) := by decide +kernel
theorem dX3_fillHouses_53 : decode cX3_fillHouses 53 = .ok (.istore_n 3, 1) := by decide +kernel
theorem dX3_fillHouses_54 : decode cX3_fillHouses 54 = .ok (.aload_n 0, 1) := by decide +kernel
theorem dX3_fillHouses_55 : decode cX3_fillHouses 55 = .ok (.getfield 24, 3) := by decide +kernel
theorem dX3_fillHouses_58 : decode cX3_fillHouses 58 = .ok (.iload_n 3, 1) := by decide +kernel
theorem dX3_fillHouses_59 : decode cX3_fillHouses 59 = .ok (.dup2, 1) := by decide +kernel
theorem dX3_fillHouses_60 : decode cX3_fillHouses 60 = .ok (.iaload, 1) := by decide +kernel
theorem dX3_fillHouses_61 : decode cX3_fillHouses 61 = .ok (.iconst 1, 1) := by decide +kernel
theorem dX3_fillHouses_62 : decode cX3_fillHouses 62 = .ok (.iadd, 1) := by decide +kernel
theorem dX3_fillHouses_63 : decode cX3_fillHouses 63 = .ok (.iastore, 1) := by decide +kernel
theorem dX3_fillHouses_64 : decode cX3_fillHouses 64 = .ok (.aload_n 0, 1) := by decide +kernel
theorem dX3_fillHouses_65 : decode cX3_fillHouses 65 = .ok (.getfield 30, 3) := by decide +kernel
theorem dX3_fillHouses_68 : decode cX3_fillHouses 68 = .ok (.iload_n 3, 1) := by decide +kernel
theorem dX3_fillHouses_69 : decode cX3_fillHouses 69 = .ok (.dup2, 1) := by decide +kernel
theorem dX3_fillHouses_70 : decode cX3_fillHouses 70 = .ok (.iaload, 1) := by decide +kernel
theorem dX3_fillHouses_71 : decode cX3_fillHouses 71 = .ok (.aload_n 0, 1) := by decide +kernel
theorem dX3_fillHouses_72 : decode cX3_fillHouses 72 = .ok (.getfield 27, 3) := by decide +kernel
theorem dX3_fillHouses_75 : decode cX3_fillHouses 75 = .ok (.iload_n 3, 1) := by decide +kernel
theorem dX3_fillHouses_76 : decode cX3_fillHouses 76 = .ok (.iaload, 1) := by decide +kernel
theorem dX3_fillHouses_77 : decode cX3_fillHouses 77 = .ok (.aload_n 0, 1) := by decide +kernel
theorem dX3_fillHouses_78 : decode cX3_fillHouses 78 = .ok (.getfield 18, 3) := by decide +kernel
theorem dX3_fillHouses_81 : decode cX3_fillHouses 81 = .ok (.iload_n 2, 1) := by decide +kernel
theorem dX3_fillHouses_82 : decode cX3_fillHouses 82 = .ok (.iaload, 1) := by decide +kernel
theorem dX3_fillHouses_83 : decode cX3_fillHouses 83 = .ok (.iand, 1) := by decide +kernel
theorem dX3_fillHouses_84 : decode cX3_fillHouses 84 = .ok (.ior, 1) := by decide +kernel
theorem dX3_fillHouses_85 : decode cX3_fillHouses 85 = .ok (.iastore, 1) := by decide +kernel
theorem dX3_fillHouses_86 : decode cX3_fillHouses 86 = .ok (.aload_n 0, 1) := by decide +kernel
theorem dX3_fillHouses_87 : decode cX3_fillHouses 87 = .ok (.getfield 27, 3) := by decide +kernel
theorem dX3_fillHouses_90 : decode cX3_fillHouses 90 = .ok (.iload_n 3, 1) := by decide +kernel
theorem dX3_fillHouses_91 : decode cX3_fillHouses 91 = .ok (.dup2, 1) := by decide +kernel
theorem dX3_fillHouses_92 : decode cX3_fillHouses 92 = .ok (.iaload, 1) := by decide +kernel
theorem dX3_fillHouses_93 : decode cX3_fillHouses 93 = .ok (.aload_n 0, 1) := by decide +kernel
theorem dX3_fillHouses_94 : decode cX3_fillHouses 94 = .ok (.getfield 18, 3) := by decide +kernel
theorem dX3_fillHouses_97 : decode cX3_fillHouses 97 = .ok (.iload_n 2, 1) := by decide +kernel
theorem dX3_fillHouses_98 : decode cX3_fillHouses 98 = .ok (.iaload, 1) := by decide +kernel
theorem dX3_fillHouses_99 : decode cX3_fillHouses 99 = .ok (.ior, 1) := by decide +kernel
theorem dX3_fillHouses_100 : decode cX3_fillHouses 100 = .ok (.iastore, 1) := by decide +kernel
theorem dX3_fillHouses_101 : decode cX3_fillHouses 101 = .ok (.iinc 2 1, 3) := by decide +kernel
theorem dX3_fillHouses_104 : decode cX3_fillHouses 104 = .ok (.goto (-68), 3) := by decide +kernel
theorem dX3_fillHouses_107 : decode cX3_fillHouses 107 = .ok (.return_, 1) := by decide +kernel
