theorem dX1_init_0 : decode cX1_init 0 = .ok (.aload_n 0, 1) := by decide +kernel
theorem dX1_init_1 : decode cX1_init 1 = .ok (.invokespecial 3, 3) := by decide +kernel
theorem dX1_init_4 : decode cX1_init 4 = .ok (.aload_n 0, 1) := by decide +kernel
theorem dX1_init_5 : decode cX1_init 5 = .ok (.sipush 160, 3) := by decide +kernel
theorem dX1_init_8 : decode cX1_init 8 = .ok (.newarray .int, 2) := by decide +kernel
theorem dX1_init_10 : decode cX1_init 10 = .ok (.putfield 9, 3) := by decide +kernel
theorem dX1_init_13 : decode cX1_init 13 = .ok (.aload_n 0, 1) := by decide +kernel
theorem dX1_init_14 : decode cX1_init 14 = .ok (.sipush 160, 3) := by decide +kernel
theorem dX1_init_17 : decode cX1_init 17 = .ok (.newarray .int, 2) := by decide +kernel
theorem dX1_init_19 : decode cX1_init 19 = .ok (.putfield 15, 3) := by decide +kernel
theorem dX1_init_22 : decode cX1_init 22 = .ok (.aload_n 0, 1) := by decide +kernel
theorem dX1_init_23 : decode cX1_init 23 = .ok (.iconst 3, 1) := by decide +kernel
theorem dX1_init_24 : decode cX1_init 24 = .ok (.newarray .int, 2) := by decide +kernel
theorem dX1_init_26 : decode cX1_init 26 = .ok (.putfield 18, 3) := by decide +kernel
theorem dX1_init_29 : decode cX1_init 29 = .ok (.return_, 1) := by decide +kernel
theorem dX1_put_0 : decode cX1_put 0 = .ok (.aload_n 0, 1) := by decide +kernel
theorem dX1_put_1 : decode cX1_put 1 = .ok (.getfield 21, 3) := by decide +kernel
theorem dX1_put_4 : decode cX1_put 4 = .ok (.sipush 160, 3) := by decide +kernel
theorem dX1_put_7 : decode cX1_put 7 = .ok (.if_icmp .lt 6, 3) := by decide +kernel
theorem dX1_put_10 : decode cX1_put 10 = .ok (.bipush (-4), 2) := by decide +kernel
theorem dX1_put_12 : decode cX1_put 12 = .ok (.ireturn, 1) := by decide +kernel
theorem dX1_put_13 : decode cX1_put 13 = .ok (.aload_n 0, 1) := by decide +kernel
theorem dX1_put_14 : decode cX1_put 14 = .ok (.getfield 9, 3) := by decide +kernel
theorem dX1_put_17 : decode cX1_put 17 = .ok (.aload_n 0, 1) := by decide +kernel
theorem dX1_put_18 : decode cX1_put 18 = .ok (.getfield 21, 3) := by decide +kernel
theorem dX1_put_21 : decode cX1_put 21 = .ok (.iload_n 1, 1) := by decide +kernel
theorem dX1_put_22 : decode cX1_put 22 = .ok (.iastore, 1) := by decide +kernel
theorem dX1_put_23 : decode cX1_put 23 = .ok (.aload_n 0, 1) := by decide +kernel
theorem dX1_put_24 : decode cX1_put 24 = .ok (.dup, 1) := by decide +kernel
theorem dX1_put_25 : decode cX1_put 25 = .ok (.getfield 21, 3) := by decide +kernel
theorem dX1_put_28 : decode cX1_put 28 = .ok (.iconst 1, 1) := by decide +kernel
theorem dX1_put_29 : decode cX1_put 29 = .ok (.iadd, 1) := by decide +kernel
theorem dX1_put_30 : decode cX1_put 30 = .ok (.putfield 21, 3) := by decide +kernel
theorem dX1_put_33 : decode cX1_put 33 = .ok (.aload_n 0, 1) := by decide +kernel
theorem dX1_put_34 : decode cX1_put 34 = .ok (.getfield 21, 3) := by decide +kernel
theorem dX1_put_37 : decode cX1_put 37 = .ok (.ireturn, 1) := by decide +kernel
theorem dX1_putFirstText_0 : decode cX1_putFirstText 0 = .ok (.iconst 0, 1) := by decide +kernel
theorem dX1_putFirstText_1 : decode cX1_putFirstText 1 = .ok (.istore_n 1, 1) := by decide +kernel
theorem dX1_putFirstText_2 : decode cX1_putFirstText 2 = .ok (.iload_n 1, 1) := by decide +kernel
theorem dX1_putFirstText_3 : decode cX1_putFirstText 3 = .ok (.ldc 25, 2) := by decide +kernel
theorem dX1_putFirstText_5 : decode cX1_putFirstText 5 = .ok (.invokevirtual 27, 3) := by decide +kernel
theorem dX1_putFirstText_8 : decode cX1_putFirstText 8 = .ok (.if_icmp .ge 20, 3) := by decide +kernel
theorem dX1_putFirstText_11 : decode cX1_putFirstText 11 = .ok (.aload_n 0, 1) := by decide +kernel
theorem dX1_putFirstText_12 : decode cX1_putFirstText 12 = .ok (.ldc 25, 2) := by decide +kernel
theorem dX1_putFirstText_14 : decode cX1_putFirstText 14 = .ok (.iload_n 1, 1) := by decide +kernel
theorem dX1_putFirstText_15 : decode cX1_putFirstText 15 = .ok (.invokevirtual 33, 3) := by decide +kernel
theorem dX1_putFirstText_18 : decode cX1_putFirstText 18 = .ok (.invokevirtual 37, 3) := by decide +kernel
theorem dX1_putFirstText_21 : decode cX1_putFirstText 21 = .ok (.pop, 1) := by decide +kernel
theorem dX1_putFirstText_22 : decode cX1_putFirstText 22 = .ok (.iinc 1 1, 3) := by decide +kernel
theorem dX1_putFirstText_25 : decode cX1_putFirstText 25 = .ok (.goto (-23), 3) := by decide +kernel
theorem dX1_putFirstText_28 : decode cX1_putFirstText 28 = .ok (.return_, 1) := by decide +kernel
theorem dX1_empty_0 : decode cX1_empty 0 = .ok (.aload_n 0, 1) := by decide +kernel
theorem dX1_empty_1 : decode cX1_empty 1 = .ok (.iconst 0, 1) := by decide +kernel
theorem dX1_empty_2 : decode cX1_empty 2 = .ok (.putfield 21, 3) := by decide +kernel
theorem dX1_empty_5 : decode cX1_empty 5 = .ok (.return_, 1) := by decide +kernel
theorem dX1_place_0 : decode cX1_place 0 = .ok (.aload_n 0, 1) := by decide +kernel
theorem dX1_place_1 : decode cX1_place 1 = .ok (.getfield 41, 3) := by decide +kernel
theorem dX1_place_4 : decode cX1_place 4 = .ok (.ireturn, 1) := by decide +kernel
theorem dX1_made_0 : decode cX1_made 0 = .ok (.new 44, 3) := by decide +kernel
theorem dX1_made_3 : decode cX1_made 3 = .ok (.dup, 1) := by decide +kernel
theorem dX1_made_4 : decode cX1_made 4 = .ok (.aload_n 0, 1) := by decide +kernel
theorem dX1_made_5 : decode cX1_made 5 = .ok (.getfield 15, 3) := by decide +kernel
theorem dX1_made_8 : decode cX1_made 8 = .ok (.aload_n 0, 1) := by decide +kernel
theorem dX1_made_9 : decode cX1_made 9 = .ok (.getfield 46, 3) := by decide +kernel
theorem dX1_made_12 : decode cX1_made 12 = .ok (.aload_n 0, 1) := by decide +kernel
theorem dX1_made_13 : decode cX1_made 13 = .ok (.getfield 18, 3) := by decide +kernel
theorem dX1_made_16 : decode cX1_made 16 = .ok (.iconst 1, 1) := by decide +kernel
theorem dX1_made_17 : decode cX1_made 17 = .ok (.iaload, 1) := by decide +kernel
theorem dX1_made_18 : decode cX1_made 18 = .ok (.aload_n 0, 1) := by decide +kernel
theorem dX1_made_19 : decode cX1_made 19 = .ok (.getfield 18, 3) := by decide +kernel
theorem dX1_made_22 : decode cX1_made 22 = .ok (.iconst 2, 1) := by decide +kernel
theorem dX1_made_23 : decode cX1_made 23 = .ok (.iaload, 1) := by decide +kernel
theorem dX1_made_24 : decode cX1_made 24 = .ok (.invokespecial 49, 3) := by decide +kernel
theorem dX1_made_27 : decode cX1_made 27 = .ok (.areturn, 1) := by decide +kernel
theorem dX1_reads_0 : decode cX1_reads 0 = .ok (.aload_n 0, 1) := by decide +kernel
theorem dX1_reads_1 : decode cX1_reads 1 = .ok (.iconst 0, 1) := by decide +kernel
theorem dX1_reads_2 : decode cX1_reads 2 = .ok (.putfield 52, 3) := by decide +kernel
theorem dX1_reads_5 : decode cX1_reads 5 = .ok (.aload_n 0, 1) := by decide +kernel
theorem dX1_reads_6 : decode cX1_reads 6 = .ok (.iconst 0, 1) := by decide +kernel
theorem dX1_reads_7 : decode cX1_reads 7 = .ok (.putfield 55, 3) := by decide +kernel
theorem dX1_reads_10 : decode cX1_reads 10 = .ok (.aload_n 0, 1) := by decide +kernel
theorem dX1_reads_11 : decode cX1_reads 11 = .ok (.iconst 0, 1) := by decide +kernel
theorem dX1_reads_12 : decode cX1_reads 12 = .ok (.putfield 46, 3) := by decide +kernel
theorem dX1_reads_15 : decode cX1_reads 15 = .ok (.aload_n 0, 1) := by decide +kernel
theorem dX1_reads_16 : decode cX1_reads 16 = .ok (.invokevirtual 58, 3) := by decide +kernel
theorem dX1_reads_19 : decode cX1_reads 19 = .ok (.iconst 1, 1) := by decide +kernel
theorem dX1_reads_20 : decode cX1_reads 20 = .ok (.istore_n 1, 1) := by decide +kernel
theorem dX1_reads_21 : decode cX1_reads 21 = .ok (.iconst 0, 1) := by decide +kernel
theorem dX1_reads_22 : decode cX1_reads 22 = .ok (.istore_n 2, 1) := by decide +kernel
theorem dX1_reads_23 : decode cX1_reads 23 = .ok (.iload_n 2, 1) := by decide +kernel
theorem dX1_reads_24 : decode cX1_reads 24 = .ok (.iconst 3, 1) := by decide +kernel
theorem dX1_reads_25 : decode cX1_reads 25 = .ok (.if_icmp .ge 57, 3) := by decide +kernel
theorem dX1_reads_28 : decode cX1_reads 28 = .ok (.iload_n 1, 1) := by decide +kernel
theorem dX1_reads_29 : decode cX1_reads 29 = .ok (.ifCond .eq 53, 3) := by decide +kernel
theorem dX1_reads_32 : decode cX1_reads 32 = .ok (.aload_n 0, 1) := by decide +kernel
theorem dX1_reads_33 : decode cX1_reads 33 = .ok (.getfield 18, 3) := by decide +kernel
theorem dX1_reads_36 : decode cX1_reads 36 = .ok (.iload_n 2, 1) := by decide +kernel
theorem dX1_reads_37 : decode cX1_reads 37 = .ok (.aload_n 0, 1) := by decide +kernel
theorem dX1_reads_38 : decode cX1_reads 38 = .ok (.getfield 46, 3) := by decide +kernel
theorem dX1_reads_41 : decode cX1_reads 41 = .ok (.iastore, 1) := by decide +kernel
theorem dX1_reads_42 : decode cX1_reads 42 = .ok (.aload_n 0, 1) := by decide +kernel
theorem dX1_reads_43 : decode cX1_reads 43 = .ok (.bipush 9, 2) := by decide +kernel
theorem dX1_reads_45 : decode cX1_reads 45 = .ok (.iload_n 2, 1) := by decide +kernel
theorem dX1_reads_46 : decode cX1_reads 46 = .ok (.iadd, 1) := by decide +kernel
theorem dX1_reads_47 : decode cX1_reads 47 = .ok (.invokevirtual 63, 3) := by decide +kernel
theorem dX1_reads_50 : decode cX1_reads 50 = .ok (.ifCond .eq 24, 3) := by decide +kernel
theorem dX1_reads_53 : decode cX1_reads 53 = .ok (.aload_n 0, 1) := by decide +kernel
theorem dX1_reads_54 : decode cX1_reads 54 = .ok (.iconst 0, 1) := by decide +kernel
theorem dX1_reads_55 : decode cX1_reads 55 = .ok (.invokevirtual 67, 3) := by decide +kernel
theorem dX1_reads_58 : decode cX1_reads 58 = .ok (.ifCond .eq 16, 3) := by decide +kernel
theorem dX1_reads_61 : decode cX1_reads 61 = .ok (.aload_n 0, 1) := by decide +kernel
theorem dX1_reads_62 : decode cX1_reads 62 = .ok (.bipush 14, 2) := by decide +kernel
theorem dX1_reads_64 : decode cX1_reads 64 = .ok (.invokevirtual 63, 3) := by decide +kernel
theorem dX1_reads_67 : decode cX1_reads 67 = .ok (.ifCond .eq 7, 3) := by decide +kernel
theorem dX1_reads_70 : decode cX1_reads 70 = .ok (.iconst 1, 1) := by decide +kernel
theorem dX1_reads_71 : decode cX1_reads 71 = .ok (.goto 4, 3) := by decide +kernel
theorem dX1_reads_74 : decode cX1_reads 74 = .ok (.iconst 0, 1) := by decide +kernel
theorem dX1_reads_75 : decode cX1_reads 75 = .ok (.istore_n 1, 1) := by decide +kernel
theorem dX1_reads_76 : decode cX1_reads 76 = .ok (.iinc 2 1, 3) := by decide +kernel
theorem dX1_reads_79 : decode cX1_reads 79 = .ok (.goto (-56), 3) := by decide +kernel
theorem dX1_reads_82 : decode cX1_reads 82 = .ok (.iload_n 1, 1) := by decide +kernel
theorem dX1_reads_83 : decode cX1_reads 83 = .ok (.ifCond .eq 16, 3) := by decide +kernel
theorem dX1_reads_86 : decode cX1_reads 86 = .ok (.aload_n 0, 1) := by decide +kernel
theorem dX1_reads_87 : decode cX1_reads 87 = .ok (.getfield 70, 3) := by decide +kernel
theorem dX1_reads_90 : decode cX1_reads 90 = .ok (.bipush 21, 2) := by decide +kernel
theorem dX1_reads_92 : decode cX1_reads 92 = .ok (.if_icmp .ne 7, 3) := by decide +kernel
theorem dX1_reads_95 : decode cX1_reads 95 = .ok (.iconst 1, 1) := by decide +kernel
theorem dX1_reads_96 : decode cX1_reads 96 = .ok (.goto 4, 3) := by decide +kernel
theorem dX1_reads_99 : decode cX1_reads 99 = .ok (.iconst 0, 1) := by decide +kernel
theorem dX1_reads_100 : decode cX1_reads 100 = .ok (.ireturn, 1) := by decide +kernel
theorem dX1_readsLevel_0 : decode cX1_readsLevel 0 = .ok (.iload_n 1, 1) := by decide +kernel
theorem dX1_readsLevel_1 : decode cX1_readsLevel 1 = .ok (.iconst 2, 1) := by decide +kernel
theorem dX1_readsLevel_2 : decode cX1_readsLevel 2 = .ok (.if_icmp .ne 17, 3) := by decide +kernel
theorem dX1_readsLevel_5 : decode cX1_readsLevel 5 = .ok (.aload_n 0, 1) := by decide +kernel
theorem dX1_readsLevel_6 : decode cX1_readsLevel 6 = .ok (.getfield 70, 3) := by decide +kernel
theorem dX1_readsLevel_9 : decode cX1_readsLevel 9 = .ok (.bipush 8, 2) := by decide +kernel
theorem dX1_readsLevel_11 : decode cX1_readsLevel 11 = .ok (.if_icmp .ne 8, 3) := by decide +kernel
theorem dX1_readsLevel_14 : decode cX1_readsLevel 14 = .ok (.aload_n 0, 1) := by decide +kernel
theorem dX1_readsLevel_15 : decode cX1_readsLevel 15 = .ok (.invokevirtual 73, 3) := by decide +kernel
theorem dX1_readsLevel_18 : decode cX1_readsLevel 18 = .ok (.ireturn, 1) := by decide +kernel
theorem dX1_readsLevel_19 : decode cX1_readsLevel 19 = .ok (.iload_n 1, 1) := by decide +kernel
theorem dX1_readsLevel_20 : decode cX1_readsLevel 20 = .ok (.iconst 5, 1) := by decide +kernel
theorem dX1_readsLevel_21 : decode cX1_readsLevel 21 = .ok (.if_icmp .lt 33, 3) := by decide +kernel
theorem dX1_readsLevel_24 : decode cX1_readsLevel 24 = .ok (.aload_n 0, 1) := by decide +kernel
theorem dX1_readsLevel_25 : decode cX1_readsLevel 25 = .ok (.getfield 70, 3) := by decide +kernel
theorem dX1_readsLevel_28 : decode cX1_readsLevel 28 = .ok (.bipush 16, 2) := by decide +kernel
theorem dX1_readsLevel_30 : decode cX1_readsLevel 30 = .ok (.if_icmp .eq 12, 3) := by decide +kernel
theorem dX1_readsLevel_33 : decode cX1_readsLevel 33 = .ok (.aload_n 0, 1) := by decide +kernel
theorem dX1_readsLevel_34 : decode cX1_readsLevel 34 = .ok (.getfield 70, 3) := by decide +kernel
theorem dX1_readsLevel_37 : decode cX1_readsLevel 37 = .ok (.bipush 12, 2) := by decide +kernel
theorem dX1_readsLevel_39 : decode cX1_readsLevel 39 = .ok (.if_icmp .ne 10, 3) := by decide +kernel
theorem dX1_readsLevel_42 : decode cX1_readsLevel 42 = .ok (.aload_n 0, 1) := by decide +kernel
theorem dX1_readsLevel_43 : decode cX1_readsLevel 43 = .ok (.invokevirtual 73, 3) := by decide +kernel
theorem dX1_readsLevel_46 : decode cX1_readsLevel 46 = .ok (.goto 7, 3) := by decide +kernel
theorem dX1_readsLevel_49 : decode cX1_readsLevel 49 = .ok (.aload_n 0, 1) := by decide +kernel
theorem dX1_readsLevel_50 : decode cX1_readsLevel 50 = .ok (.invokevirtual 77, 3) := by decide +kernel
theorem dX1_readsLevel_53 : decode cX1_readsLevel 53 = .ok (.ireturn, 1) := by decide +kernel
theorem dX1_readsLevel_54 : decode cX1_readsLevel 54 = .ok (.aload_n 0, 1) := by decide +kernel
theorem dX1_readsLevel_55 : decode cX1_readsLevel 55 = .ok (.iload_n 1, 1) := by decide +kernel
theorem dX1_readsLevel_56 : decode cX1_readsLevel 56 = .ok (.iconst 1, 1) := by decide +kernel
theorem dX1_readsLevel_57 : decode cX1_readsLevel 57 = .ok (.iadd, 1) := by decide +kernel
theorem dX1_readsLevel_58 : decode cX1_readsLevel 58 = .ok (.invokevirtual 67, 3) := by decide +kernel
theorem dX1_readsLevel_61 : decode cX1_readsLevel 61 = .ok (.istore_n 2, 1) := by decide +kernel
theorem dX1_readsLevel_62 : decode cX1_readsLevel 62 = .ok (.iload_n 1, 1) := by decide +kernel
theorem dX1_readsLevel_63 : decode cX1_readsLevel 63 = .ok (.iconst 2, 1) := by decide +kernel
theorem dX1_readsLevel_64 : decode cX1_readsLevel 64 = .ok (.if_icmp .ne 7, 3) := by decide +kernel
theorem dX1_readsLevel_67 : decode cX1_readsLevel 67 = .ok (.iconst 1, 1) := by decide +kernel
theorem dX1_readsLevel_68 : decode cX1_readsLevel 68 = .ok (.goto 6, 3) := by decide +kernel
theorem dX1_readsLevel_71 : decode cX1_readsLevel 71 = .ok (.sipush 160, 3) := by decide +kernel
theorem dX1_readsLevel_74 : decode cX1_readsLevel 74 = .ok (.istore_n 3, 1) := by decide +kernel
theorem dX1_readsLevel_75 : decode cX1_readsLevel 75 = .ok (.iconst 0, 1) := by decide +kernel
theorem dX1_readsLevel_76 : decode cX1_readsLevel 76 = .ok (.istore 4, 2) := by decide +kernel
theorem dX1_readsLevel_78 : decode cX1_readsLevel 78 = .ok (.iload 4, 2) := by decide +kernel
theorem dX1_readsLevel_80 : decode cX1_readsLevel 80 = .ok (.iload_n 3, 1) := by decide +kernel
theorem dX1_readsLevel_81 : decode cX1_readsLevel 81 = .ok (.if_icmp .ge 48, 3) := by decide +kernel
theorem dX1_readsLevel_84 : decode cX1_readsLevel 84 = .ok (.iload_n 2, 1) := by decide +kernel
theorem dX1_readsLevel_85 : decode cX1_readsLevel 85 = .ok (.ifCond .eq 44, 3) := by decide +kernel
theorem dX1_readsLevel_88 : decode cX1_readsLevel 88 = .ok (.aload_n 0, 1) := by decide +kernel
theorem dX1_readsLevel_89 : decode cX1_readsLevel 89 = .ok (.getfield 70, 3) := by decide +kernel
theorem dX1_readsLevel_92 : decode cX1_readsLevel 92 = .ok (.invokestatic 80, 3) := by decide +kernel
theorem dX1_readsLevel_95 : decode cX1_readsLevel 95 = .ok (.iload_n 1, 1) := by decide +kernel
theorem dX1_readsLevel_96 : decode cX1_readsLevel 96 = .ok (.if_icmp .ne 33, 3) := by decide +kernel
theorem dX1_readsLevel_99 : decode cX1_readsLevel 99 = .ok (.aload_n 0, 1) := by decide +kernel
theorem dX1_readsLevel_100 : decode cX1_readsLevel 100 = .ok (.getfield 70, 3) := by decide +kernel
theorem dX1_readsLevel_103 : decode cX1_readsLevel 103 = .ok (.istore 5, 2) := by decide +kernel
theorem dX1_readsLevel_105 : decode cX1_readsLevel 105 = .ok (.aload_n 0, 1) := by decide +kernel
theorem dX1_readsLevel_106 : decode cX1_readsLevel 106 = .ok (.invokevirtual 58, 3) := by decide +kernel
theorem dX1_readsLevel_109 : decode cX1_readsLevel 109 = .ok (.aload_n 0, 1) := by decide +kernel
theorem dX1_readsLevel_110 : decode cX1_readsLevel 110 = .ok (.iload_n 1, 1) := by decide +kernel
theorem dX1_readsLevel_111 : decode cX1_readsLevel 111 = .ok (.iconst 1, 1) := by decide +kernel
theorem dX1_readsLevel_112 : decode cX1_readsLevel 112 = .ok (.iadd, 1) := by decide +kernel
theorem dX1_readsLevel_113 : decode cX1_readsLevel 113 = .ok (.invokevirtual 67, 3) := by decide +kernel
theorem dX1_readsLevel_116 : decode cX1_readsLevel 116 = .ok (.istore_n 2, 1) := by decide +kernel
theorem dX1_readsLevel_117 : decode cX1_readsLevel 117 = .ok (.aload_n 0, 1) := by decide +kernel
theorem dX1_readsLevel_118 : decode cX1_readsLevel 118 = .ok (.iload 5, 2) := by decide +kernel
theorem dX1_readsLevel_120 : decode cX1_readsLevel 120 = .ok (.invokevirtual 83, 3) := by decide +kernel
theorem dX1_readsLevel_123 : decode cX1_readsLevel 123 = .ok (.iinc 4 1, 3) := by decide +kernel
theorem dX1_readsLevel_126 : decode cX1_readsLevel 126 = .ok (.goto (-48), 3) := by decide +kernel
theorem dX1_readsLevel_129 : decode cX1_readsLevel 129 = .ok (.iload_n 2, 1) := by decide +kernel
theorem dX1_readsLevel_130 : decode cX1_readsLevel 130 = .ok (.ireturn, 1) := by decide +kernel
theorem dX1_levelOf_0 : decode cX1_levelOf 0 = .ok (.iload_n 0, 1) := by decide +kernel
theorem dX1_levelOf_1 : decode cX1_levelOf 1 = .ok (.tableswitch 81 6 19 #[71, 73, 81, 81, 81, 81, 81, 81, 81, 77, 77, 79, 75, 75], 71) := by decide +kernel
theorem dX1_levelOf_72 : decode cX1_levelOf 72 = .ok (.iconst 0, 1) := by decide +kernel
theorem dX1_levelOf_73 : decode cX1_levelOf 73 = .ok (.ireturn, 1) := by decide +kernel
theorem dX1_levelOf_74 : decode cX1_levelOf 74 = .ok (.iconst 1, 1) := by decide +kernel
theorem dX1_levelOf_75 : decode cX1_levelOf 75 = .ok (.ireturn, 1) := by decide +kernel
theorem dX1_levelOf_76 : decode cX1_levelOf 76 = .ok (.iconst 2, 1) := by decide +kernel
theorem dX1_levelOf_77 : decode cX1_levelOf 77 = .ok (.ireturn, 1) := by decide +kernel
theorem dX1_levelOf_78 : decode cX1_levelOf 78 = .ok (.iconst 3, 1) := by decide +kernel
theorem dX1_levelOf_79 : decode cX1_levelOf 79 = .ok (.ireturn, 1) := by decide +kernel
theorem dX1_levelOf_80 : decode cX1_levelOf 80 = .ok (.iconst 4, 1) := by decide +kernel
theorem dX1_levelOf_81 : decode cX1_levelOf 81 = .ok (.ireturn, 1) := by decide +kernel
theorem dX1_levelOf_82 : decode cX1_levelOf 82 = .ok (.iconst (-1), 1) := by decide +kernel
theorem dX1_levelOf_83 : decode cX1_levelOf 83 = .ok (.ireturn, 1) := by decide +kernel
theorem dX1_readsOpened_0 : decode cX1_readsOpened 0 = .ok (.aload_n 0, 1) := by decide +kernel
theorem dX1_readsOpened_1 : decode cX1_readsOpened 1 = .ok (.getfield 70, 3) := by decide +kernel
theorem dX1_readsOpened_4 : decode cX1_readsOpened 4 = .ok (.istore_n 1, 1) := by decide +kernel
theorem dX1_readsOpened_5 : decode cX1_readsOpened 5 = .ok (.aload_n 0, 1) := by decide +kernel
theorem dX1_readsOpened_6 : decode cX1_readsOpened 6 = .ok (.getfield 55, 3) := by decide +kernel
theorem dX1_readsOpened_9 : decode cX1_readsOpened 9 = .ok (.iconst 5, 1) := by decide +kernel
theorem dX1_readsOpened_10 : decode cX1_readsOpened 10 = .ok (.if_icmp .lt 5, 3) := by decide +kernel
theorem dX1_readsOpened_13 : decode cX1_readsOpened 13 = .ok (.iconst 0, 1) := by decide +kernel
theorem dX1_readsOpened_14 : decode cX1_readsOpened 14 = .ok (.ireturn, 1) := by decide +kernel
theorem dX1_readsOpened_15 : decode cX1_readsOpened 15 = .ok (.aload_n 0, 1) := by decide +kernel
theorem dX1_readsOpened_16 : decode cX1_readsOpened 16 = .ok (.dup, 1) := by decide +kernel
theorem dX1_readsOpened_17 : decode cX1_readsOpened 17 = .ok (.getfield 55, 3) := by decide +kernel
theorem dX1_readsOpened_20 : decode cX1_readsOpened 20 = .ok (.iconst 1, 1) := by decide +kernel
theorem dX1_readsOpened_21 : decode cX1_readsOpened 21 = .ok (.iadd, 1) := by decide +kernel
theorem dX1_readsOpened_22 : decode cX1_readsOpened 22 = .ok (.putfield 55, 3) := by decide +kernel
theorem dX1_readsOpened_25 : decode cX1_readsOpened 25 = .ok (.aload_n 0, 1) := by decide +kernel
theorem dX1_readsOpened_26 : decode cX1_readsOpened 26 = .ok (.invokevirtual 58, 3) := by decide +kernel
theorem dX1_readsOpened_29 : decode cX1_readsOpened 29 = .ok (.iload_n 1, 1) := by decide +kernel
theorem dX1_readsOpened_30 : decode cX1_readsOpened 30 = .ok (.bipush 12, 2) := by decide +kernel
theorem dX1_readsOpened_32 : decode cX1_readsOpened 32 = .ok (.if_icmp .ne 29, 3) := by decide +kernel
theorem dX1_readsOpened_35 : decode cX1_readsOpened 35 = .ok (.aload_n 0, 1) := by decide +kernel
theorem dX1_readsOpened_36 : decode cX1_readsOpened 36 = .ok (.iconst 0, 1) := by decide +kernel
theorem dX1_readsOpened_37 : decode cX1_readsOpened 37 = .ok (.invokevirtual 67, 3) := by decide +kernel
theorem dX1_readsOpened_40 : decode cX1_readsOpened 40 = .ok (.ifCond .eq 16, 3) := by decide +kernel
theorem dX1_readsOpened_43 : decode cX1_readsOpened 43 = .ok (.aload_n 0, 1) := by decide +kernel
theorem dX1_readsOpened_44 : decode cX1_readsOpened 44 = .ok (.bipush 13, 2) := by decide +kernel
theorem dX1_readsOpened_46 : decode cX1_readsOpened 46 = .ok (.invokevirtual 63, 3) := by decide +kernel
theorem dX1_readsOpened_49 : decode cX1_readsOpened 49 = .ok (.ifCond .eq 7, 3) := by decide +kernel
theorem dX1_readsOpened_52 : decode cX1_readsOpened 52 = .ok (.iconst 1, 1) := by decide +kernel
theorem dX1_readsOpened_53 : decode cX1_readsOpened 53 = .ok (.goto 4, 3) := by decide +kernel
theorem dX1_readsOpened_56 : decode cX1_readsOpened 56 = .ok (.iconst 0, 1) := by decide +kernel
theorem dX1_readsOpened_57 : decode cX1_readsOpened 57 = .ok (.istore_n 2, 1) := by decide +kernel
theorem dX1_readsOpened_58 : decode cX1_readsOpened 58 = .ok (.goto 36, 3) := by decide +kernel
theorem dX1_readsOpened_61 : decode cX1_readsOpened 61 = .ok (.aload_n 0, 1) := by decide +kernel
theorem dX1_readsOpened_62 : decode cX1_readsOpened 62 = .ok (.iload_n 1, 1) := by decide +kernel
theorem dX1_readsOpened_63 : decode cX1_readsOpened 63 = .ok (.bipush 8, 2) := by decide +kernel
theorem dX1_readsOpened_65 : decode cX1_readsOpened 65 = .ok (.if_icmp .ne 7, 3) := by decide +kernel
theorem dX1_readsOpened_68 : decode cX1_readsOpened 68 = .ok (.iconst 2, 1) := by decide +kernel
theorem dX1_readsOpened_69 : decode cX1_readsOpened 69 = .ok (.goto 4, 3) := by decide +kernel
theorem dX1_readsOpened_72 : decode cX1_readsOpened 72 = .ok (.iconst 5, 1) := by decide +kernel
theorem dX1_readsOpened_73 : decode cX1_readsOpened 73 = .ok (.invokevirtual 67, 3) := by decide +kernel
theorem dX1_readsOpened_76 : decode cX1_readsOpened 76 = .ok (.istore_n 2, 1) := by decide +kernel
theorem dX1_readsOpened_77 : decode cX1_readsOpened 77 = .ok (.aload_n 0, 1) := by decide +kernel
theorem dX1_readsOpened_78 : decode cX1_readsOpened 78 = .ok (.iload_n 1, 1) := by decide +kernel
theorem dX1_readsOpened_79 : decode cX1_readsOpened 79 = .ok (.bipush 8, 2) := by decide +kernel
theorem dX1_readsOpened_81 : decode cX1_readsOpened 81 = .ok (.if_icmp .ne 8, 3) := by decide +kernel
theorem dX1_readsOpened_84 : decode cX1_readsOpened 84 = .ok (.bipush 8, 2) := by decide +kernel
theorem dX1_readsOpened_86 : decode cX1_readsOpened 86 = .ok (.goto 5, 3) := by decide +kernel
theorem dX1_readsOpened_89 : decode cX1_readsOpened 89 = .ok (.bipush 20, 2) := by decide +kernel
theorem dX1_readsOpened_91 : decode cX1_readsOpened 91 = .ok (.invokevirtual 83, 3) := by decide +kernel
theorem dX1_readsOpened_94 : decode cX1_readsOpened 94 = .ok (.aload_n 0, 1) := by decide +kernel
theorem dX1_readsOpened_95 : decode cX1_readsOpened 95 = .ok (.dup, 1) := by decide +kernel
theorem dX1_readsOpened_96 : decode cX1_readsOpened 96 = .ok (.getfield 55, 3) := by decide +kernel
theorem dX1_readsOpened_99 : decode cX1_readsOpened 99 = .ok (.iconst 1, 1) := by decide +kernel
theorem dX1_readsOpened_100 : decode cX1_readsOpened 100 = .ok (.isub, 1) := by decide +kernel
theorem dX1_readsOpened_101 : decode cX1_readsOpened 101 = .ok (.putfield 55, 3) := by decide +kernel
theorem dX1_readsOpened_104 : decode cX1_readsOpened 104 = .ok (.iload_n 2, 1) := by decide +kernel
theorem dX1_readsOpened_105 : decode cX1_readsOpened 105 = .ok (.ireturn, 1) := by decide +kernel
theorem dX1_readsPlain_0 : decode cX1_readsPlain 0 = .ok (.aload_n 0, 1) := by decide +kernel
theorem dX1_readsPlain_1 : decode cX1_readsPlain 1 = .ok (.getfield 70, 3) := by decide +kernel
theorem dX1_readsPlain_4 : decode cX1_readsPlain 4 = .ok (.bipush 6, 2) := by decide +kernel
theorem dX1_readsPlain_6 : decode cX1_readsPlain 6 = .ok (.if_icmp .lt 14, 3) := by decide +kernel
theorem dX1_readsPlain_9 : decode cX1_readsPlain 9 = .ok (.aload_n 0, 1) := by decide +kernel
theorem dX1_readsPlain_10 : decode cX1_readsPlain 10 = .ok (.getfield 70, 3) := by decide +kernel
theorem dX1_readsPlain_13 : decode cX1_readsPlain 13 = .ok (.bipush 32, 2) := by decide +kernel
theorem dX1_readsPlain_15 : decode cX1_readsPlain 15 = .ok (.if_icmp .ge 5, 3) := by decide +kernel
theorem dX1_readsPlain_18 : decode cX1_readsPlain 18 = .ok (.iconst 0, 1) := by decide +kernel
theorem dX1_readsPlain_19 : decode cX1_readsPlain 19 = .ok (.ireturn, 1) := by decide +kernel
theorem dX1_readsPlain_20 : decode cX1_readsPlain 20 = .ok (.aload_n 0, 1) := by decide +kernel
theorem dX1_readsPlain_21 : decode cX1_readsPlain 21 = .ok (.aload_n 0, 1) := by decide +kernel
theorem dX1_readsPlain_22 : decode cX1_readsPlain 22 = .ok (.getfield 70, 3) := by decide +kernel
theorem dX1_readsPlain_25 : decode cX1_readsPlain 25 = .ok (.invokevirtual 83, 3) := by decide +kernel
theorem dX1_readsPlain_28 : decode cX1_readsPlain 28 = .ok (.aload_n 0, 1) := by decide +kernel
theorem dX1_readsPlain_29 : decode cX1_readsPlain 29 = .ok (.invokevirtual 58, 3) := by decide +kernel
theorem dX1_readsPlain_32 : decode cX1_readsPlain 32 = .ok (.iconst 1, 1) := by decide +kernel
theorem dX1_readsPlain_33 : decode cX1_readsPlain 33 = .ok (.ireturn, 1) := by decide +kernel
theorem dX1_takes_0 : decode cX1_takes 0 = .ok (.aload_n 0, 1) := by decide +kernel
theorem dX1_takes_1 : decode cX1_takes 1 = .ok (.getfield 70, 3) := by decide +kernel
theorem dX1_takes_4 : decode cX1_takes 4 = .ok (.iload_n 1, 1) := by decide +kernel
theorem dX1_takes_5 : decode cX1_takes 5 = .ok (.if_icmp .eq 5, 3) := by decide +kernel
theorem dX1_takes_8 : decode cX1_takes 8 = .ok (.iconst 0, 1) := by decide +kernel
theorem dX1_takes_9 : decode cX1_takes 9 = .ok (.ireturn, 1) := by decide +kernel
theorem dX1_takes_10 : decode cX1_takes 10 = .ok (.aload_n 0, 1) := by decide +kernel
theorem dX1_takes_11 : decode cX1_takes 11 = .ok (.invokevirtual 58, 3) := by decide +kernel
theorem dX1_takes_14 : decode cX1_takes 14 = .ok (.iconst 1, 1) := by decide +kernel
theorem dX1_takes_15 : decode cX1_takes 15 = .ok (.ireturn, 1) := by decide +kernel
theorem dX1_write_0 : decode cX1_write 0 = .ok (.aload_n 0, 1) := by decide +kernel
theorem dX1_write_1 : decode cX1_write 1 = .ok (.getfield 46, 3) := by decide +kernel
theorem dX1_write_4 : decode cX1_write 4 = .ok (.sipush 160, 3) := by decide +kernel
theorem dX1_write_7 : decode cX1_write 7 = .ok (.if_icmp .ge 23, 3) := by decide +kernel
theorem dX1_write_10 : decode cX1_write 10 = .ok (.aload_n 0, 1) := by decide +kernel
theorem dX1_write_11 : decode cX1_write 11 = .ok (.getfield 15, 3) := by decide +kernel
theorem dX1_write_14 : decode cX1_write 14 = .ok (.aload_n 0, 1) := by decide +kernel
theorem dX1_write_15 : decode cX1_write 15 = .ok (.getfield 46, 3) := by decide +kernel
theorem dX1_write_18 : decode cX1_write 18 = .ok (.iload_n 1, 1) := by decide +kernel
theorem dX1_write_19 : decode cX1_write 19 = .ok (.iastore, 1) := by decide +kernel
theorem dX1_write_20 : decode cX1_write 20 = .ok (.aload_n 0, 1) := by decide +kernel
theorem dX1_write_21 : decode cX1_write 21 = .ok (.dup, 1) := by decide +kernel
theorem dX1_write_22 : decode cX1_write 22 = .ok (.getfield 46, 3) := by decide +kernel
theorem dX1_write_25 : decode cX1_write 25 = .ok (.iconst 1, 1) := by decide +kernel
theorem dX1_write_26 : decode cX1_write 26 = .ok (.iadd, 1) := by decide +kernel
theorem dX1_write_27 : decode cX1_write 27 = .ok (.putfield 46, 3) := by decide +kernel
theorem dX1_write_30 : decode cX1_write 30 = .ok (.return_, 1) := by decide +kernel
theorem dX1_step_0 : decode cX1_step 0 = .ok (.aload_n 0, 1) := by decide +kernel
theorem dX1_step_1 : decode cX1_step 1 = .ok (.getfield 52, 3) := by decide +kernel
theorem dX1_step_4 : decode cX1_step 4 = .ok (.aload_n 0, 1) := by decide +kernel
theorem dX1_step_5 : decode cX1_step 5 = .ok (.getfield 21, 3) := by decide +kernel
theorem dX1_step_8 : decode cX1_step 8 = .ok (.if_icmp .ge 44, 3) := by decide +kernel
theorem dX1_step_11 : decode cX1_step 11 = .ok (.aload_n 0, 1) := by decide +kernel
theorem dX1_step_12 : decode cX1_step 12 = .ok (.getfield 9, 3) := by decide +kernel
theorem dX1_step_15 : decode cX1_step 15 = .ok (.aload_n 0, 1) := by decide +kernel
theorem dX1_step_16 : decode cX1_step 16 = .ok (.getfield 52, 3) := by decide +kernel
theorem dX1_step_19 : decode cX1_step 19 = .ok (.iaload, 1) := by decide +kernel
theorem dX1_step_20 : decode cX1_step 20 = .ok (.bipush 32, 2) := by decide +kernel
theorem dX1_step_22 : decode cX1_step 22 = .ok (.if_icmp .eq 17, 3) := by decide +kernel
theorem dX1_step_25 : decode cX1_step 25 = .ok (.aload_n 0, 1) := by decide +kernel
theorem dX1_step_26 : decode cX1_step 26 = .ok (.getfield 9, 3) := by decide +kernel
theorem dX1_step_29 : decode cX1_step 29 = .ok (.aload_n 0, 1) := by decide +kernel
theorem dX1_step_30 : decode cX1_step 30 = .ok (.getfield 52, 3) := by decide +kernel
theorem dX1_step_33 : decode cX1_step 33 = .ok (.iaload, 1) := by decide +kernel
theorem dX1_step_34 : decode cX1_step 34 = .ok (.bipush 10, 2) := by decide +kernel
theorem dX1_step_36 : decode cX1_step 36 = .ok (.if_icmp .ne 16, 3) := by decide +kernel
theorem dX1_step_39 : decode cX1_step 39 = .ok (.aload_n 0, 1) := by decide +kernel
theorem dX1_step_40 : decode cX1_step 40 = .ok (.dup, 1) := by decide +kernel
theorem dX1_step_41 : decode cX1_step 41 = .ok (.getfield 52, 3) := by decide +kernel
theorem dX1_step_44 : decode cX1_step 44 = .ok (.iconst 1, 1) := by decide +kernel
theorem dX1_step_45 : decode cX1_step 45 = .ok (.iadd, 1) := by decide +kernel
theorem dX1_step_46 : decode cX1_step 46 = .ok (.putfield 52, 3) := by decide +kernel
theorem dX1_step_49 : decode cX1_step 49 = .ok (.goto (-49), 3) := by decide +kernel
theorem dX1_step_52 : decode cX1_step 52 = .ok (.aload_n 0, 1) := by decide +kernel
theorem dX1_step_53 : decode cX1_step 53 = .ok (.aload_n 0, 1) := by decide +kernel
theorem dX1_step_54 : decode cX1_step 54 = .ok (.getfield 52, 3) := by decide +kernel
theorem dX1_step_57 : decode cX1_step 57 = .ok (.putfield 41, 3) := by decide +kernel
theorem dX1_step_60 : decode cX1_step 60 = .ok (.aload_n 0, 1) := by decide +kernel
theorem dX1_step_61 : decode cX1_step 61 = .ok (.getfield 52, 3) := by decide +kernel
theorem dX1_step_64 : decode cX1_step 64 = .ok (.aload_n 0, 1) := by decide +kernel
theorem dX1_step_65 : decode cX1_step 65 = .ok (.getfield 21, 3) := by decide +kernel
theorem dX1_step_68 : decode cX1_step 68 = .ok (.if_icmp .lt 12, 3) := by decide +kernel
theorem dX1_step_71 : decode cX1_step 71 = .ok (.aload_n 0, 1) := by decide +kernel
theorem dX1_step_72 : decode cX1_step 72 = .ok (.bipush 21, 2) := by decide +kernel
theorem dX1_step_74 : decode cX1_step 74 = .ok (.putfield 70, 3) := by decide +kernel
theorem dX1_step_77 : decode cX1_step 77 = .ok (.goto 98, 3) := by decide +kernel
theorem dX1_step_80 : decode cX1_step 80 = .ok (.aload_n 0, 1) := by decide +kernel
theorem dX1_step_81 : decode cX1_step 81 = .ok (.getfield 9, 3) := by decide +kernel
theorem dX1_step_84 : decode cX1_step 84 = .ok (.aload_n 0, 1) := by decide +kernel
theorem dX1_step_85 : decode cX1_step 85 = .ok (.getfield 52, 3) := by decide +kernel
theorem dX1_step_88 : decode cX1_step 88 = .ok (.iaload, 1) := by decide +kernel
theorem dX1_step_89 : decode cX1_step 89 = .ok (.invokestatic 87, 3) := by decide +kernel
theorem dX1_step_92 : decode cX1_step 92 = .ok (.ifCond .eq 14, 3) := by decide +kernel
theorem dX1_step_95 : decode cX1_step 95 = .ok (.aload_n 0, 1) := by decide +kernel
theorem dX1_step_96 : decode cX1_step 96 = .ok (.aload_n 0, 1) := by decide +kernel
theorem dX1_step_97 : decode cX1_step 97 = .ok (.invokevirtual 90, 3) := by decide +kernel
theorem dX1_step_100 : decode cX1_step 100 = .ok (.putfield 70, 3) := by decide +kernel
theorem dX1_step_103 : decode cX1_step 103 = .ok (.goto 72, 3) := by decide +kernel
theorem dX1_step_106 : decode cX1_step 106 = .ok (.aload_n 0, 1) := by decide +kernel
theorem dX1_step_107 : decode cX1_step 107 = .ok (.getfield 9, 3) := by decide +kernel
theorem dX1_step_110 : decode cX1_step 110 = .ok (.aload_n 0, 1) := by decide +kernel
theorem dX1_step_111 : decode cX1_step 111 = .ok (.getfield 52, 3) := by decide +kernel
theorem dX1_step_114 : decode cX1_step 114 = .ok (.iaload, 1) := by decide +kernel
theorem dX1_step_115 : decode cX1_step 115 = .ok (.invokestatic 93, 3) := by decide +kernel
theorem dX1_step_118 : decode cX1_step 118 = .ok (.ifCond .eq 14, 3) := by decide +kernel
theorem dX1_step_121 : decode cX1_step 121 = .ok (.aload_n 0, 1) := by decide +kernel
theorem dX1_step_122 : decode cX1_step 122 = .ok (.aload_n 0, 1) := by decide +kernel
theorem dX1_step_123 : decode cX1_step 123 = .ok (.invokevirtual 96, 3) := by decide +kernel
theorem dX1_step_126 : decode cX1_step 126 = .ok (.putfield 70, 3) := by decide +kernel
theorem dX1_step_129 : decode cX1_step 129 = .ok (.goto 46, 3) := by decide +kernel
theorem dX1_step_132 : decode cX1_step 132 = .ok (.ldc 99, 2) := by decide +kernel
theorem dX1_step_134 : decode cX1_step 134 = .ok (.aload_n 0, 1) := by decide +kernel
theorem dX1_step_135 : decode cX1_step 135 = .ok (.getfield 9, 3) := by decide +kernel
theorem dX1_step_138 : decode cX1_step 138 = .ok (.aload_n 0, 1) := by decide +kernel
theorem dX1_step_139 : decode cX1_step 139 = .ok (.getfield 52, 3) := by decide +kernel
theorem dX1_step_142 : decode cX1_step 142 = .ok (.iaload, 1) := by decide +kernel
theorem dX1_step_143 : decode cX1_step 143 = .ok (.i2c, 1) := by decide +kernel
theorem dX1_step_144 : decode cX1_step 144 = .ok (.invokevirtual 101, 3) := by decide +kernel
theorem dX1_step_147 : decode cX1_step 147 = .ok (.istore_n 1, 1) := by decide +kernel
theorem dX1_step_148 : decode cX1_step 148 = .ok (.aload_n 0, 1) := by decide +kernel
theorem dX1_step_149 : decode cX1_step 149 = .ok (.iload_n 1, 1) := by decide +kernel
theorem dX1_step_150 : decode cX1_step 150 = .ok (.ifCond .ge 8, 3) := by decide +kernel
theorem dX1_step_153 : decode cX1_step 153 = .ok (.bipush 22, 2) := by decide +kernel
theorem dX1_step_155 : decode cX1_step 155 = .ok (.goto 7, 3) := by decide +kernel
theorem dX1_step_158 : decode cX1_step 158 = .ok (.bipush 12, 2) := by decide +kernel
theorem dX1_step_160 : decode cX1_step 160 = .ok (.iload_n 1, 1) := by decide +kernel
theorem dX1_step_161 : decode cX1_step 161 = .ok (.iadd, 1) := by decide +kernel
theorem dX1_step_162 : decode cX1_step 162 = .ok (.putfield 70, 3) := by decide +kernel
theorem dX1_step_165 : decode cX1_step 165 = .ok (.aload_n 0, 1) := by decide +kernel
theorem dX1_step_166 : decode cX1_step 166 = .ok (.dup, 1) := by decide +kernel
theorem dX1_step_167 : decode cX1_step 167 = .ok (.getfield 52, 3) := by decide +kernel
theorem dX1_step_170 : decode cX1_step 170 = .ok (.iconst 1, 1) := by decide +kernel
theorem dX1_step_171 : decode cX1_step 171 = .ok (.iadd, 1) := by decide +kernel
theorem dX1_step_172 : decode cX1_step 172 = .ok (.putfield 52, 3) := by decide +kernel
theorem dX1_step_175 : decode cX1_step 175 = .ok (.return_, 1) := by decide +kernel
theorem dX1_isLetter_0 : decode cX1_isLetter 0 = .ok (.iload_n 0, 1) := by decide +kernel
theorem dX1_isLetter_1 : decode cX1_isLetter 1 = .ok (.bipush 97, 2) := by decide +kernel
theorem dX1_isLetter_3 : decode cX1_isLetter 3 = .ok (.if_icmp .lt 13, 3) := by decide +kernel
theorem dX1_isLetter_6 : decode cX1_isLetter 6 = .ok (.iload_n 0, 1) := by decide +kernel
theorem dX1_isLetter_7 : decode cX1_isLetter 7 = .ok (.bipush 122, 2) := by decide +kernel
theorem dX1_isLetter_9 : decode cX1_isLetter 9 = .ok (.if_icmp .gt 7, 3) := by decide +kernel
theorem dX1_isLetter_12 : decode cX1_isLetter 12 = .ok (.iconst 1, 1) := by decide +kernel
theorem dX1_isLetter_13 : decode cX1_isLetter 13 = .ok (.goto 4, 3) := by decide +kernel
theorem dX1_isLetter_16 : decode cX1_isLetter 16 = .ok (.iconst 0, 1) := by decide +kernel
theorem dX1_isLetter_17 : decode cX1_isLetter 17 = .ok (.ireturn, 1) := by decide +kernel
theorem dX1_isDigit_0 : decode cX1_isDigit 0 = .ok (.iload_n 0, 1) := by decide +kernel
theorem dX1_isDigit_1 : decode cX1_isDigit 1 = .ok (.bipush 48, 2) := by decide +kernel
theorem dX1_isDigit_3 : decode cX1_isDigit 3 = .ok (.if_icmp .lt 13, 3) := by decide +kernel
theorem dX1_isDigit_6 : decode cX1_isDigit 6 = .ok (.iload_n 0, 1) := by decide +kernel
theorem dX1_isDigit_7 : decode cX1_isDigit 7 = .ok (.bipush 57, 2) := by decide +kernel
theorem dX1_isDigit_9 : decode cX1_isDigit 9 = .ok (.if_icmp .gt 7, 3) := by decide +kernel
theorem dX1_isDigit_12 : decode cX1_isDigit 12 = .ok (.iconst 1, 1) := by decide +kernel
theorem dX1_isDigit_13 : decode cX1_isDigit 13 = .ok (.goto 4, 3) := by decide +kernel
theorem dX1_isDigit_16 : decode cX1_isDigit 16 = .ok (.iconst 0, 1) := by decide +kernel
theorem dX1_isDigit_17 : decode cX1_isDigit 17 = .ok (.ireturn, 1) := by decide +kernel
theorem dX1_numeral_0 : decode cX1_numeral 0 = .ok (.iconst 0, 1) := by decide +kernel
theorem dX1_numeral_1 : decode cX1_numeral 1 = .ok (.istore_n 1, 1) := by decide +kernel
theorem dX1_numeral_2 : decode cX1_numeral 2 = .ok (.aload_n 0, 1) := by decide +kernel
theorem dX1_numeral_3 : decode cX1_numeral 3 = .ok (.getfield 52, 3) := by decide +kernel
theorem dX1_numeral_6 : decode cX1_numeral 6 = .ok (.aload_n 0, 1) := by decide +kernel
theorem dX1_numeral_7 : decode cX1_numeral 7 = .ok (.getfield 21, 3) := by decide +kernel
theorem dX1_numeral_10 : decode cX1_numeral 10 = .ok (.if_icmp .ge 66, 3) := by decide +kernel
theorem dX1_numeral_13 : decode cX1_numeral 13 = .ok (.aload_n 0, 1) := by decide +kernel
theorem dX1_numeral_14 : decode cX1_numeral 14 = .ok (.getfield 9, 3) := by decide +kernel
theorem dX1_numeral_17 : decode cX1_numeral 17 = .ok (.aload_n 0, 1) := by decide +kernel
theorem dX1_numeral_18 : decode cX1_numeral 18 = .ok (.getfield 52, 3) := by decide +kernel
theorem dX1_numeral_21 : decode cX1_numeral 21 = .ok (.iaload, 1) := by decide +kernel
theorem dX1_numeral_22 : decode cX1_numeral 22 = .ok (.invokestatic 93, 3) := by decide +kernel
theorem dX1_numeral_25 : decode cX1_numeral 25 = .ok (.ifCond .eq 51, 3) := by decide +kernel
theorem dX1_numeral_28 : decode cX1_numeral 28 = .ok (.aload_n 0, 1) := by decide +kernel
theorem dX1_numeral_29 : decode cX1_numeral 29 = .ok (.getfield 52, 3) := by decide +kernel
theorem dX1_numeral_32 : decode cX1_numeral 32 = .ok (.aload_n 0, 1) := by decide +kernel
theorem dX1_numeral_33 : decode cX1_numeral 33 = .ok (.getfield 41, 3) := by decide +kernel
theorem dX1_numeral_36 : decode cX1_numeral 36 = .ok (.isub, 1) := by decide +kernel
theorem dX1_numeral_37 : decode cX1_numeral 37 = .ok (.iconst 4, 1) := by decide +kernel
theorem dX1_numeral_38 : decode cX1_numeral 38 = .ok (.if_icmp .ge 23, 3) := by decide +kernel
theorem dX1_numeral_41 : decode cX1_numeral 41 = .ok (.bipush 10, 2) := by decide +kernel
theorem dX1_numeral_43 : decode cX1_numeral 43 = .ok (.iload_n 1, 1) := by decide +kernel
theorem dX1_numeral_44 : decode cX1_numeral 44 = .ok (.imul, 1) := by decide +kernel
theorem dX1_numeral_45 : decode cX1_numeral 45 = .ok (.aload_n 0, 1) := by decide +kernel
theorem dX1_numeral_46 : decode cX1_numeral 46 = .ok (.getfield 9, 3) := by decide +kernel
theorem dX1_numeral_49 : decode cX1_numeral 49 = .ok (.aload_n 0, 1) := by decide +kernel
theorem dX1_numeral_50 : decode cX1_numeral 50 = .ok (.getfield 52, 3) := by decide +kernel
theorem dX1_numeral_53 : decode cX1_numeral 53 = .ok (.iaload, 1) := by decide +kernel
theorem dX1_numeral_54 : decode cX1_numeral 54 = .ok (.iadd, 1) := by decide +kernel
theorem dX1_numeral_55 : decode cX1_numeral 55 = .ok (.bipush 48, 2) := by decide +kernel
theorem dX1_numeral_57 : decode cX1_numeral 57 = .ok (.isub, 1) := by decide +kernel
theorem dX1_numeral_58 : decode cX1_numeral 58 = .ok (.goto 4, 3) := by decide +kernel
theorem dX1_numeral_61 : decode cX1_numeral 61 = .ok (.iload_n 1, 1) := by decide +kernel
theorem dX1_numeral_62 : decode cX1_numeral 62 = .ok (.istore_n 1, 1) := by decide +kernel
theorem dX1_numeral_63 : decode cX1_numeral 63 = .ok (.aload_n 0, 1) := by decide +kernel
theorem dX1_numeral_64 : decode cX1_numeral 64 = .ok (.dup, 1) := by decide +kernel
theorem dX1_numeral_65 : decode cX1_numeral 65 = .ok (.getfield 52, 3) := by decide +kernel
theorem dX1_numeral_68 : decode cX1_numeral 68 = .ok (.iconst 1, 1) := by decide +kernel
theorem dX1_numeral_69 : decode cX1_numeral 69 = .ok (.iadd, 1) := by decide +kernel
theorem dX1_numeral_70 : decode cX1_numeral 70 = .ok (.putfield 52, 3) := by decide +kernel
theorem dX1_numeral_73 : decode cX1_numeral 73 = .ok (.goto (-71), 3) := by decide +kernel
theorem dX1_numeral_76 : decode cX1_numeral 76 = .ok (.aload_n 0, 1) := by decide +kernel
theorem dX1_numeral_77 : decode cX1_numeral 77 = .ok (.getfield 52, 3) := by decide +kernel
theorem dX1_numeral_80 : decode cX1_numeral 80 = .ok (.aload_n 0, 1) := by decide +kernel
theorem dX1_numeral_81 : decode cX1_numeral 81 = .ok (.getfield 41, 3) := by decide +kernel
theorem dX1_numeral_84 : decode cX1_numeral 84 = .ok (.isub, 1) := by decide +kernel
theorem dX1_numeral_85 : decode cX1_numeral 85 = .ok (.iconst 4, 1) := by decide +kernel
theorem dX1_numeral_86 : decode cX1_numeral 86 = .ok (.if_icmp .le 8, 3) := by decide +kernel
theorem dX1_numeral_89 : decode cX1_numeral 89 = .ok (.bipush 22, 2) := by decide +kernel
theorem dX1_numeral_91 : decode cX1_numeral 91 = .ok (.goto 7, 3) := by decide +kernel
theorem dX1_numeral_94 : decode cX1_numeral 94 = .ok (.bipush 32, 2) := by decide +kernel
theorem dX1_numeral_96 : decode cX1_numeral 96 = .ok (.iload_n 1, 1) := by decide +kernel
theorem dX1_numeral_97 : decode cX1_numeral 97 = .ok (.iadd, 1) := by decide +kernel
theorem dX1_numeral_98 : decode cX1_numeral 98 = .ok (.ireturn, 1) := by decide +kernel
theorem dX1_word_0 : decode cX1_word 0 = .ok (.aload_n 0, 1) := by decide +kernel
theorem dX1_word_1 : decode cX1_word 1 = .ok (.getfield 52, 3) := by decide +kernel
theorem dX1_word_4 : decode cX1_word 4 = .ok (.aload_n 0, 1) := by decide +kernel
theorem dX1_word_5 : decode cX1_word 5 = .ok (.getfield 21, 3) := by decide +kernel
theorem dX1_word_8 : decode cX1_word 8 = .ok (.if_icmp .ge 31, 3) := by decide +kernel
theorem dX1_word_11 : decode cX1_word 11 = .ok (.aload_n 0, 1) := by decide +kernel
theorem dX1_word_12 : decode cX1_word 12 = .ok (.getfield 9, 3) := by decide +kernel
theorem dX1_word_15 : decode cX1_word 15 = .ok (.aload_n 0, 1) := by decide +kernel
theorem dX1_word_16 : decode cX1_word 16 = .ok (.getfield 52, 3) := by decide +kernel
theorem dX1_word_19 : decode cX1_word 19 = .ok (.iaload, 1) := by decide +kernel
theorem dX1_word_20 : decode cX1_word 20 = .ok (.invokestatic 87, 3) := by decide +kernel
theorem dX1_word_23 : decode cX1_word 23 = .ok (.ifCond .eq 16, 3) := by decide +kernel
theorem dX1_word_26 : decode cX1_word 26 = .ok (.aload_n 0, 1) := by decide +kernel
theorem dX1_word_27 : decode cX1_word 27 = .ok (.dup, 1) := by decide +kernel
theorem dX1_word_28 : decode cX1_word 28 = .ok (.getfield 52, 3) := by decide +kernel
theorem dX1_word_31 : decode cX1_word 31 = .ok (.iconst 1, 1) := by decide +kernel
theorem dX1_word_32 : decode cX1_word 32 = .ok (.iadd, 1) := by decide +kernel
theorem dX1_word_33 : decode cX1_word 33 = .ok (.putfield 52, 3) := by decide +kernel
theorem dX1_word_36 : decode cX1_word 36 = .ok (.goto (-36), 3) := by decide +kernel
theorem dX1_word_39 : decode cX1_word 39 = .ok (.iconst 0, 1) := by decide +kernel
theorem dX1_word_40 : decode cX1_word 40 = .ok (.istore_n 1, 1) := by decide +kernel
theorem dX1_word_41 : decode cX1_word 41 = .ok (.iconst 0, 1) := by decide +kernel
theorem dX1_word_42 : decode cX1_word 42 = .ok (.istore_n 2, 1) := by decide +kernel
theorem dX1_word_43 : decode cX1_word 43 = .ok (.iconst 0, 1) := by decide +kernel
theorem dX1_word_44 : decode cX1_word 44 = .ok (.istore_n 3, 1) := by decide +kernel
theorem dX1_word_45 : decode cX1_word 45 = .ok (.iload_n 3, 1) := by decide +kernel
theorem dX1_word_46 : decode cX1_word 46 = .ok (.ldc 104, 2) := by decide +kernel
theorem dX1_word_48 : decode cX1_word 48 = .ok (.invokevirtual 27, 3) := by decide +kernel
theorem dX1_word_51 : decode cX1_word 51 = .ok (.if_icmp .ge 89, 3) := by decide +kernel
theorem dX1_word_54 : decode cX1_word 54 = .ok (.ldc 104, 2) := by decide +kernel
theorem dX1_word_56 : decode cX1_word 56 = .ok (.iload_n 3, 1) := by decide +kernel
theorem dX1_word_57 : decode cX1_word 57 = .ok (.invokevirtual 33, 3) := by decide +kernel
theorem dX1_word_60 : decode cX1_word 60 = .ok (.istore 4, 2) := by decide +kernel
theorem dX1_word_62 : decode cX1_word 62 = .ok (.iload 4, 2) := by decide +kernel
theorem dX1_word_64 : decode cX1_word 64 = .ok (.bipush 32, 2) := by decide +kernel
theorem dX1_word_66 : decode cX1_word 66 = .ok (.if_icmp .ne 26, 3) := by decide +kernel
theorem dX1_word_69 : decode cX1_word 69 = .ok (.iload_n 2, 1) := by decide +kernel
theorem dX1_word_70 : decode cX1_word 70 = .ok (.aload_n 0, 1) := by decide +kernel
theorem dX1_word_71 : decode cX1_word 71 = .ok (.getfield 52, 3) := by decide +kernel
theorem dX1_word_74 : decode cX1_word 74 = .ok (.aload_n 0, 1) := by decide +kernel
theorem dX1_word_75 : decode cX1_word 75 = .ok (.getfield 41, 3) := by decide +kernel
theorem dX1_word_78 : decode cX1_word 78 = .ok (.isub, 1) := by decide +kernel
theorem dX1_word_79 : decode cX1_word 79 = .ok (.if_icmp .ne 5, 3) := by decide +kernel
theorem dX1_word_82 : decode cX1_word 82 = .ok (.iload_n 1, 1) := by decide +kernel
theorem dX1_word_83 : decode cX1_word 83 = .ok (.ireturn, 1) := by decide +kernel
theorem dX1_word_84 : decode cX1_word 84 = .ok (.iinc 1 1, 3) := by decide +kernel
theorem dX1_word_87 : decode cX1_word 87 = .ok (.iconst 0, 1) := by decide +kernel
theorem dX1_word_88 : decode cX1_word 88 = .ok (.istore_n 2, 1) := by decide +kernel
theorem dX1_word_89 : decode cX1_word 89 = .ok (.goto 45, 3) := by decide +kernel
theorem dX1_word_92 : decode cX1_word 92 = .ok (.iload_n 2, 1) := by decide +kernel
theorem dX1_word_93 : decode cX1_word 93 = .ok (.iconst (-1), 1) := by decide +kernel
theorem dX1_word_94 : decode cX1_word 94 = .ok (.if_icmp .eq 40, 3) := by decide +kernel
theorem dX1_word_97 : decode cX1_word 97 = .ok (.iload_n 2, 1) := by decide +kernel
theorem dX1_word_98 : decode cX1_word 98 = .ok (.aload_n 0, 1) := by decide +kernel
theorem dX1_word_99 : decode cX1_word 99 = .ok (.getfield 52, 3) := by decide +kernel
theorem dX1_word_102 : decode cX1_word 102 = .ok (.aload_n 0, 1) := by decide +kernel
theorem dX1_word_103 : decode cX1_word 103 = .ok (.getfield 41, 3) := by decide +kernel
theorem dX1_word_106 : decode cX1_word 106 = .ok (.isub, 1) := by decide +kernel
theorem dX1_word_107 : decode cX1_word 107 = .ok (.if_icmp .ge 25, 3) := by decide +kernel
theorem dX1_word_110 : decode cX1_word 110 = .ok (.aload_n 0, 1) := by decide +kernel
theorem dX1_word_111 : decode cX1_word 111 = .ok (.getfield 9, 3) := by decide +kernel
theorem dX1_word_114 : decode cX1_word 114 = .ok (.aload_n 0, 1) := by decide +kernel
theorem dX1_word_115 : decode cX1_word 115 = .ok (.getfield 41, 3) := by decide +kernel
theorem dX1_word_118 : decode cX1_word 118 = .ok (.iload_n 2, 1) := by decide +kernel
theorem dX1_word_119 : decode cX1_word 119 = .ok (.iadd, 1) := by decide +kernel
theorem dX1_word_120 : decode cX1_word 120 = .ok (.iaload, 1) := by decide +kernel
theorem dX1_word_121 : decode cX1_word 121 = .ok (.iload 4, 2) := by decide +kernel
theorem dX1_word_123 : decode cX1_word 123 = .ok (.if_icmp .ne 9, 3) := by decide +kernel
theorem dX1_word_126 : decode cX1_word 126 = .ok (.iload_n 2, 1) := by decide +kernel
theorem dX1_word_127 : decode cX1_word 127 = .ok (.iconst 1, 1) := by decide +kernel
theorem dX1_word_128 : decode cX1_word 128 = .ok (.iadd, 1) := by decide +kernel
theorem dX1_word_129 : decode cX1_word 129 = .ok (.goto 4, 3) := by decide +kernel
theorem dX1_word_132 : decode cX1_word 132 = .ok (.iconst (-1), 1) := by decide +kernel
theorem dX1_word_133 : decode cX1_word 133 = .ok (.istore_n 2, 1) := by decide +kernel
theorem dX1_word_134 : decode cX1_word 134 = .ok (.iinc 3 1, 3) := by decide +kernel
theorem dX1_word_137 : decode cX1_word 137 = .ok (.goto (-92), 3) := by decide +kernel
theorem dX1_word_140 : decode cX1_word 140 = .ok (.bipush 22, 2) := by decide +kernel
theorem dX1_word_142 : decode cX1_word 142 = .ok (.ireturn, 1) := by decide +kernel
theorem dX4_init_0 : decode cX4_init 0 = .ok (.aload_n 0, 1) := by decide +kernel
theorem dX4_init_1 : decode cX4_init 1 = .ok (.invokespecial 3, 3) := by decide +kernel
theorem dX4_init_4 : decode cX4_init 4 = .ok (.aload_n 0, 1) := by decide +kernel
theorem dX4_init_5 : decode cX4_init 5 = .ok (.iconst 4, 1) := by decide +kernel
theorem dX4_init_6 : decode cX4_init 6 = .ok (.newarray .int, 2) := by decide +kernel
theorem dX4_init_8 : decode cX4_init 8 = .ok (.putfield 11, 3) := by decide +kernel
theorem dX4_init_11 : decode cX4_init 11 = .ok (.aload_n 0, 1) := by decide +kernel
theorem dX4_init_12 : decode cX4_init 12 = .ok (.iconst 4, 1) := by decide +kernel
theorem dX4_init_13 : decode cX4_init 13 = .ok (.newarray .int, 2) := by decide +kernel
theorem dX4_init_15 : decode cX4_init 15 = .ok (.putfield 15, 3) := by decide +kernel
theorem dX4_init_18 : decode cX4_init 18 = .ok (.aload_n 0, 1) := by decide +kernel
theorem dX4_init_19 : decode cX4_init 19 = .ok (.sipush 160, 3) := by decide +kernel
theorem dX4_init_22 : decode cX4_init 22 = .ok (.newarray .int, 2) := by decide +kernel
theorem dX4_init_24 : decode cX4_init 24 = .ok (.putfield 18, 3) := by decide +kernel
theorem dX4_init_27 : decode cX4_init 27 = .ok (.iconst 0, 1) := by decide +kernel
theorem dX4_init_28 : decode cX4_init 28 = .ok (.istore_n 1, 1) := by decide +kernel
theorem dX4_init_29 : decode cX4_init 29 = .ok (.iload_n 1, 1) := by decide +kernel
theorem dX4_init_30 : decode cX4_init 30 = .ok (.iconst 4, 1) := by decide +kernel
theorem dX4_init_31 : decode cX4_init 31 = .ok (.if_icmp .ge 16, 3) := by decide +kernel
theorem dX4_init_34 : decode cX4_init 34 = .ok (.aload_n 0, 1) := by decide +kernel
theorem dX4_init_35 : decode cX4_init 35 = .ok (.getfield 11, 3) := by decide +kernel
theorem dX4_init_38 : decode cX4_init 38 = .ok (.iload_n 1, 1) := by decide +kernel
theorem dX4_init_39 : decode cX4_init 39 = .ok (.iconst (-1), 1) := by decide +kernel
theorem dX4_init_40 : decode cX4_init 40 = .ok (.iastore, 1) := by decide +kernel
theorem dX4_init_41 : decode cX4_init 41 = .ok (.iinc 1 1, 3) := by decide +kernel
theorem dX4_init_44 : decode cX4_init 44 = .ok (.goto (-15), 3) := by decide +kernel
theorem dX4_init_47 : decode cX4_init 47 = .ok (.return_, 1) := by decide +kernel
theorem dX4_has_0 : decode cX4_has 0 = .ok (.iload_n 1, 1) := by decide +kernel
theorem dX4_has_1 : decode cX4_has 1 = .ok (.iconst 4, 1) := by decide +kernel
theorem dX4_has_2 : decode cX4_has 2 = .ok (.invokestatic 21, 3) := by decide +kernel
theorem dX4_has_5 : decode cX4_has 5 = .ok (.ireturn, 1) := by decide +kernel
theorem dX4_isMissing_0 : decode cX4_isMissing 0 = .ok (.aload_n 0, 1) := by decide +kernel
theorem dX4_isMissing_1 : decode cX4_isMissing 1 = .ok (.getfield 11, 3) := by decide +kernel
theorem dX4_isMissing_4 : decode cX4_isMissing 4 = .ok (.iload_n 1, 1) := by decide +kernel
theorem dX4_isMissing_5 : decode cX4_isMissing 5 = .ok (.iaload, 1) := by decide +kernel
theorem dX4_isMissing_6 : decode cX4_isMissing 6 = .ok (.iconst (-1), 1) := by decide +kernel
theorem dX4_isMissing_7 : decode cX4_isMissing 7 = .ok (.if_icmp .ne 7, 3) := by decide +kernel
theorem dX4_isMissing_10 : decode cX4_isMissing 10 = .ok (.iconst 1, 1) := by decide +kernel
theorem dX4_isMissing_11 : decode cX4_isMissing 11 = .ok (.goto 4, 3) := by decide +kernel
theorem dX4_isMissing_14 : decode cX4_isMissing 14 = .ok (.iconst 0, 1) := by decide +kernel
theorem dX4_isMissing_15 : decode cX4_isMissing 15 = .ok (.ireturn, 1) := by decide +kernel
theorem dX4_reaches_0 : decode cX4_reaches 0 = .ok (.iload_n 2, 1) := by decide +kernel
theorem dX4_reaches_1 : decode cX4_reaches 1 = .ok (.aload_n 0, 1) := by decide +kernel
theorem dX4_reaches_2 : decode cX4_reaches 2 = .ok (.getfield 15, 3) := by decide +kernel
theorem dX4_reaches_5 : decode cX4_reaches 5 = .ok (.iload_n 1, 1) := by decide +kernel
theorem dX4_reaches_6 : decode cX4_reaches 6 = .ok (.iaload, 1) := by decide +kernel
theorem dX4_reaches_7 : decode cX4_reaches 7 = .ok (.invokestatic 21, 3) := by decide +kernel
theorem dX4_reaches_10 : decode cX4_reaches 10 = .ok (.ireturn, 1) := by decide +kernel
theorem dX4_hasRun_0 : decode cX4_hasRun 0 = .ok (.iload_n 3, 1) := by decide +kernel
theorem dX4_hasRun_1 : decode cX4_hasRun 1 = .ok (.ifCond .lt 33, 3) := by decide +kernel
theorem dX4_hasRun_4 : decode cX4_hasRun 4 = .ok (.iload_n 3, 1) := by decide +kernel
theorem dX4_hasRun_5 : decode cX4_hasRun 5 = .ok (.aload_n 0, 1) := by decide +kernel
theorem dX4_hasRun_6 : decode cX4_hasRun 6 = .ok (.getfield 15, 3) := by decide +kernel
theorem dX4_hasRun_9 : decode cX4_hasRun 9 = .ok (.iload_n 1, 1) := by decide +kernel
theorem dX4_hasRun_10 : decode cX4_hasRun 10 = .ok (.iaload, 1) := by decide +kernel
theorem dX4_hasRun_11 : decode cX4_hasRun 11 = .ok (.if_icmp .gt 23, 3) := by decide +kernel
theorem dX4_hasRun_14 : decode cX4_hasRun 14 = .ok (.iload_n 2, 1) := by decide +kernel
theorem dX4_hasRun_15 : decode cX4_hasRun 15 = .ok (.ifCond .lt 19, 3) := by decide +kernel
theorem dX4_hasRun_18 : decode cX4_hasRun 18 = .ok (.iload_n 2, 1) := by decide +kernel
theorem dX4_hasRun_19 : decode cX4_hasRun 19 = .ok (.aload_n 0, 1) := by decide +kernel
theorem dX4_hasRun_20 : decode cX4_hasRun 20 = .ok (.getfield 15, 3) := by decide +kernel
theorem dX4_hasRun_23 : decode cX4_hasRun 23 = .ok (.iload_n 1, 1) := by decide +kernel
theorem dX4_hasRun_24 : decode cX4_hasRun 24 = .ok (.iaload, 1) := by decide +kernel
theorem dX4_hasRun_25 : decode cX4_hasRun 25 = .ok (.iload_n 3, 1) := by decide +kernel
theorem dX4_hasRun_26 : decode cX4_hasRun 26 = .ok (.isub, 1) := by decide +kernel
theorem dX4_hasRun_27 : decode cX4_hasRun 27 = .ok (.if_icmp .gt 7, 3) := by decide +kernel
theorem dX4_hasRun_30 : decode cX4_hasRun 30 = .ok (.iconst 1, 1) := by decide +kernel
theorem dX4_hasRun_31 : decode cX4_hasRun 31 = .ok (.goto 4, 3) := by decide +kernel
theorem dX4_hasRun_34 : decode cX4_hasRun 34 = .ok (.iconst 0, 1) := by decide +kernel
theorem dX4_hasRun_35 : decode cX4_hasRun 35 = .ok (.ireturn, 1) := by decide +kernel
theorem dX4_lay_0 : decode cX4_lay 0 = .ok (.aload_n 0, 1) := by decide +kernel
theorem dX4_lay_1 : decode cX4_lay 1 = .ok (.getfield 11, 3) := by decide +kernel
theorem dX4_lay_4 : decode cX4_lay 4 = .ok (.iload_n 1, 1) := by decide +kernel
theorem dX4_lay_5 : decode cX4_lay 5 = .ok (.iload_n 2, 1) := by decide +kernel
theorem dX4_lay_6 : decode cX4_lay 6 = .ok (.iastore, 1) := by decide +kernel
theorem dX4_lay_7 : decode cX4_lay 7 = .ok (.aload_n 0, 1) := by decide +kernel
theorem dX4_lay_8 : decode cX4_lay 8 = .ok (.getfield 15, 3) := by decide +kernel
theorem dX4_lay_11 : decode cX4_lay 11 = .ok (.iload_n 1, 1) := by decide +kernel
theorem dX4_lay_12 : decode cX4_lay 12 = .ok (.iload_n 3, 1) := by decide +kernel
theorem dX4_lay_13 : decode cX4_lay 13 = .ok (.iastore, 1) := by decide +kernel
theorem dX4_lay_14 : decode cX4_lay 14 = .ok (.iconst 0, 1) := by decide +kernel
theorem dX4_lay_15 : decode cX4_lay 15 = .ok (.istore 4, 2) := by decide +kernel
theorem dX4_lay_17 : decode cX4_lay 17 = .ok (.iload 4, 2) := by decide +kernel
theorem dX4_lay_19 : decode cX4_lay 19 = .ok (.bipush 40, 2) := by decide +kernel
theorem dX4_lay_21 : decode cX4_lay 21 = .ok (.if_icmp .ge 22, 3) := by decide +kernel
theorem dX4_lay_24 : decode cX4_lay 24 = .ok (.aload_n 0, 1) := by decide +kernel
theorem dX4_lay_25 : decode cX4_lay 25 = .ok (.getfield 18, 3) := by decide +kernel
theorem dX4_lay_28 : decode cX4_lay 28 = .ok (.iload_n 1, 1) := by decide +kernel
theorem dX4_lay_29 : decode cX4_lay 29 = .ok (.bipush 40, 2) := by decide +kernel
theorem dX4_lay_31 : decode cX4_lay 31 = .ok (.imul, 1) := by decide +kernel
theorem dX4_lay_32 : decode cX4_lay 32 = .ok (.iload 4, 2) := by decide +kernel
theorem dX4_lay_34 : decode cX4_lay 34 = .ok (.iadd, 1) := by decide +kernel
theorem dX4_lay_35 : decode cX4_lay 35 = .ok (.iconst 0, 1) := by decide +kernel
theorem dX4_lay_36 : decode cX4_lay 36 = .ok (.iastore, 1) := by decide +kernel
theorem dX4_lay_37 : decode cX4_lay 37 = .ok (.iinc 4 1, 3) := by decide +kernel
theorem dX4_lay_40 : decode cX4_lay 40 = .ok (.goto (-23), 3) := by decide +kernel
theorem dX4_lay_43 : decode cX4_lay 43 = .ok (.return_, 1) := by decide +kernel
theorem dX4_at_0 : decode cX4_at 0 = .ok (.aload_n 0, 1) := by decide +kernel
theorem dX4_at_1 : decode cX4_at 1 = .ok (.getfield 18, 3) := by decide +kernel
theorem dX4_at_4 : decode cX4_at 4 = .ok (.iload_n 1, 1) := by decide +kernel
theorem dX4_at_5 : decode cX4_at 5 = .ok (.bipush 40, 2) := by decide +kernel
theorem dX4_at_7 : decode cX4_at 7 = .ok (.imul, 1) := by decide +kernel
theorem dX4_at_8 : decode cX4_at 8 = .ok (.iload_n 2, 1) := by decide +kernel
theorem dX4_at_9 : decode cX4_at 9 = .ok (.iadd, 1) := by decide +kernel
theorem dX4_at_10 : decode cX4_at 10 = .ok (.iaload, 1) := by decide +kernel
theorem dX4_at_11 : decode cX4_at 11 = .ok (.ireturn, 1) := by decide +kernel
theorem dX4_write_0 : decode cX4_write 0 = .ok (.aload_n 0, 1) := by decide +kernel
theorem dX4_write_1 : decode cX4_write 1 = .ok (.getfield 11, 3) := by decide +kernel
theorem dX4_write_4 : decode cX4_write 4 = .ok (.iload_n 1, 1) := by decide +kernel
theorem dX4_write_5 : decode cX4_write 5 = .ok (.iaload, 1) := by decide +kernel
theorem dX4_write_6 : decode cX4_write 6 = .ok (.ifCond .ne 8, 3) := by decide +kernel
theorem dX4_write_9 : decode cX4_write 9 = .ok (.iload_n 3, 1) := by decide +kernel
theorem dX4_write_10 : decode cX4_write 10 = .ok (.i2b, 1) := by decide +kernel
theorem dX4_write_11 : decode cX4_write 11 = .ok (.goto 19, 3) := by decide +kernel
theorem dX4_write_14 : decode cX4_write 14 = .ok (.aload_n 0, 1) := by decide +kernel
theorem dX4_write_15 : decode cX4_write 15 = .ok (.getfield 11, 3) := by decide +kernel
theorem dX4_write_18 : decode cX4_write 18 = .ok (.iload_n 1, 1) := by decide +kernel
theorem dX4_write_19 : decode cX4_write 19 = .ok (.iaload, 1) := by decide +kernel
theorem dX4_write_20 : decode cX4_write 20 = .ok (.iconst 1, 1) := by decide +kernel
theorem dX4_write_21 : decode cX4_write 21 = .ok (.if_icmp .ne 8, 3) := by decide +kernel
theorem dX4_write_24 : decode cX4_write 24 = .ok (.iload_n 3, 1) := by decide +kernel
theorem dX4_write_25 : decode cX4_write 25 = .ok (.i2s, 1) := by decide +kernel
theorem dX4_write_26 : decode cX4_write 26 = .ok (.goto 4, 3) := by decide +kernel
theorem dX4_write_29 : decode cX4_write 29 = .ok (.iload_n 3, 1) := by decide +kernel
theorem dX4_write_30 : decode cX4_write 30 = .ok (.istore 4, 2) := by decide +kernel
theorem dX4_write_32 : decode cX4_write 32 = .ok (.aload_n 0, 1) := by decide +kernel
theorem dX4_write_33 : decode cX4_write 33 = .ok (.getfield 18, 3) := by decide +kernel
theorem dX4_write_36 : decode cX4_write 36 = .ok (.iload_n 1, 1) := by decide +kernel
theorem dX4_write_37 : decode cX4_write 37 = .ok (.bipush 40, 2) := by decide +kernel
theorem dX4_write_39 : decode cX4_write 39 = .ok (.imul, 1) := by decide +kernel
theorem dX4_write_40 : decode cX4_write 40 = .ok (.iload_n 2, 1) := by decide +kernel
theorem dX4_write_41 : decode cX4_write 41 = .ok (.iadd, 1) := by decide +kernel
theorem dX4_write_42 : decode cX4_write 42 = .ok (.iload 4, 2) := by decide +kernel
theorem dX4_write_44 : decode cX4_write 44 = .ok (.iastore, 1) := by decide +kernel
theorem dX4_write_45 : decode cX4_write 45 = .ok (.return_, 1) := by decide +kernel
theorem dX4_carry_0 : decode cX4_carry 0 = .ok (.aload_n 0, 1) := by decide +kernel
theorem dX4_carry_1 : decode cX4_carry 1 = .ok (.getfield 18, 3) := by decide +kernel
theorem dX4_carry_4 : decode cX4_carry 4 = .ok (.iload_n 1, 1) := by decide +kernel
theorem dX4_carry_5 : decode cX4_carry 5 = .ok (.bipush 40, 2) := by decide +kernel
theorem dX4_carry_7 : decode cX4_carry 7 = .ok (.imul, 1) := by decide +kernel
theorem dX4_carry_8 : decode cX4_carry 8 = .ok (.iload_n 2, 1) := by decide +kernel
theorem dX4_carry_9 : decode cX4_carry 9 = .ok (.iadd, 1) := by decide +kernel
theorem dX4_carry_10 : decode cX4_carry 10 = .ok (.aload_n 0, 1) := by decide +kernel
theorem dX4_carry_11 : decode cX4_carry 11 = .ok (.getfield 18, 3) := by decide +kernel
theorem dX4_carry_14 : decode cX4_carry 14 = .ok (.iload_n 3, 1) := by decide +kernel
theorem dX4_carry_15 : decode cX4_carry 15 = .ok (.bipush 40, 2) := by decide +kernel
theorem dX4_carry_17 : decode cX4_carry 17 = .ok (.imul, 1) := by decide +kernel
theorem dX4_carry_18 : decode cX4_carry 18 = .ok (.iload 4, 2) := by decide +kernel
theorem dX4_carry_20 : decode cX4_carry 20 = .ok (.iadd, 1) := by decide +kernel
theorem dX4_carry_21 : decode cX4_carry 21 = .ok (.iload 5, 2) := by decide +kernel
theorem dX4_carry_23 : decode cX4_carry 23 = .ok (.invokestatic 25, 3) := by decide +kernel
theorem dX4_carry_26 : decode cX4_carry 26 = .ok (.return_, 1) := by decide +kernel
theorem dX5_init_0 : decode cX5_init 0 = .ok (.aload_n 0, 1) := by decide +kernel
theorem dX5_init_1 : decode cX5_init 1 = .ok (.invokespecial 3, 3) := by decide +kernel
theorem dX5_init_4 : decode cX5_init 4 = .ok (.aload_n 0, 1) := by decide +kernel
theorem dX5_init_5 : decode cX5_init 5 = .ok (.bipush 8, 2) := by decide +kernel
theorem dX5_init_7 : decode cX5_init 7 = .ok (.newarray .int, 2) := by decide +kernel
theorem dX5_init_9 : decode cX5_init 9 = .ok (.putfield 9, 3) := by decide +kernel
theorem dX5_init_12 : decode cX5_init 12 = .ok (.aload_n 0, 1) := by decide +kernel
theorem dX5_init_13 : decode cX5_init 13 = .ok (.bipush 8, 2) := by decide +kernel
theorem dX5_init_15 : decode cX5_init 15 = .ok (.newarray .int, 2) := by decide +kernel
theorem dX5_init_17 : decode cX5_init 17 = .ok (.putfield 15, 3) := by decide +kernel
theorem dX5_init_20 : decode cX5_init 20 = .ok (.aload_n 0, 1) := by decide +kernel
theorem dX5_init_21 : decode cX5_init 21 = .ok (.bipush 8, 2) := by decide +kernel
theorem dX5_init_23 : decode cX5_init 23 = .ok (.newarray .int, 2) := by decide +kernel
theorem dX5_init_25 : decode cX5_init 25 = .ok (.putfield 18, 3) := by decide +kernel
theorem dX5_init_28 : decode cX5_init 28 = .ok (.aload_n 0, 1) := by decide +kernel
theorem dX5_init_29 : decode cX5_init 29 = .ok (.bipush 8, 2) := by decide +kernel
theorem dX5_init_31 : decode cX5_init 31 = .ok (.newarray .int, 2) := by decide +kernel
theorem dX5_init_33 : decode cX5_init 33 = .ok (.putfield 21, 3) := by decide +kernel
theorem dX5_init_36 : decode cX5_init 36 = .ok (.return_, 1) := by decide +kernel
theorem dX5_has_0 : decode cX5_has 0 = .ok (.iload_n 1, 1) := by decide +kernel
theorem dX5_has_1 : decode cX5_has 1 = .ok (.aload_n 0, 1) := by decide +kernel
theorem dX5_has_2 : decode cX5_has 2 = .ok (.getfield 24, 3) := by decide +kernel
theorem dX5_has_5 : decode cX5_has 5 = .ok (.invokestatic 28, 3) := by decide +kernel
theorem dX5_has_8 : decode cX5_has 8 = .ok (.ireturn, 1) := by decide +kernel
theorem dX5_all_0 : decode cX5_all 0 = .ok (.iconst 1, 1) := by decide +kernel
theorem dX5_all_1 : decode cX5_all 1 = .ok (.aload_n 0, 1) := by decide +kernel
theorem dX5_all_2 : decode cX5_all 2 = .ok (.getfield 24, 3) := by decide +kernel
theorem dX5_all_5 : decode cX5_all 5 = .ok (.ishl, 1) := by decide +kernel
theorem dX5_all_6 : decode cX5_all 6 = .ok (.iconst 1, 1) := by decide +kernel
theorem dX5_all_7 : decode cX5_all 7 = .ok (.isub, 1) := by decide +kernel
theorem dX5_all_8 : decode cX5_all 8 = .ok (.ireturn, 1) := by decide +kernel
theorem dX5_add_0 : decode cX5_add 0 = .ok (.aload_n 0, 1) := by decide +kernel
theorem dX5_add_1 : decode cX5_add 1 = .ok (.getfield 24, 3) := by decide +kernel
theorem dX5_add_4 : decode cX5_add 4 = .ok (.bipush 8, 2) := by decide +kernel
theorem dX5_add_6 : decode cX5_add 6 = .ok (.if_icmp .lt 6, 3) := by decide +kernel
theorem dX5_add_9 : decode cX5_add 9 = .ok (.bipush (-4), 2) := by decide +kernel
theorem dX5_add_11 : decode cX5_add 11 = .ok (.ireturn, 1) := by decide +kernel
theorem dX5_add_12 : decode cX5_add 12 = .ok (.aload_n 0, 1) := by decide +kernel
theorem dX5_add_13 : decode cX5_add 13 = .ok (.getfield 9, 3) := by decide +kernel
theorem dX5_add_16 : decode cX5_add 16 = .ok (.aload_n 0, 1) := by decide +kernel
theorem dX5_add_17 : decode cX5_add 17 = .ok (.getfield 24, 3) := by decide +kernel
theorem dX5_add_20 : decode cX5_add 20 = .ok (.iload_n 1, 1) := by decide +kernel
theorem dX5_add_21 : decode cX5_add 21 = .ok (.iastore, 1) := by decide +kernel
theorem dX5_add_22 : decode cX5_add 22 = .ok (.aload_n 0, 1) := by decide +kernel
theorem dX5_add_23 : decode cX5_add 23 = .ok (.getfield 15, 3) := by decide +kernel
theorem dX5_add_26 : decode cX5_add 26 = .ok (.aload_n 0, 1) := by decide +kernel
theorem dX5_add_27 : decode cX5_add 27 = .ok (.getfield 24, 3) := by decide +kernel
theorem dX5_add_30 : decode cX5_add 30 = .ok (.iload_n 2, 1) := by decide +kernel
theorem dX5_add_31 : decode cX5_add 31 = .ok (.iastore, 1) := by decide +kernel
theorem dX5_add_32 : decode cX5_add 32 = .ok (.aload_n 0, 1) := by decide +kernel
theorem dX5_add_33 : decode cX5_add 33 = .ok (.getfield 18, 3) := by decide +kernel
theorem dX5_add_36 : decode cX5_add 36 = .ok (.aload_n 0, 1) := by decide +kernel
theorem dX5_add_37 : decode cX5_add 37 = .ok (.getfield 24, 3) := by decide +kernel
theorem dX5_add_40 : decode cX5_add 40 = .ok (.iload_n 3, 1) := by decide +kernel
theorem dX5_add_41 : decode cX5_add 41 = .ok (.iastore, 1) := by decide +kernel
theorem dX5_add_42 : decode cX5_add 42 = .ok (.aload_n 0, 1) := by decide +kernel
theorem dX5_add_43 : decode cX5_add 43 = .ok (.getfield 21, 3) := by decide +kernel
theorem dX5_add_46 : decode cX5_add 46 = .ok (.aload_n 0, 1) := by decide +kernel
theorem dX5_add_47 : decode cX5_add 47 = .ok (.getfield 24, 3) := by decide +kernel
theorem dX5_add_50 : decode cX5_add 50 = .ok (.iconst (-1), 1) := by decide +kernel
theorem dX5_add_51 : decode cX5_add 51 = .ok (.iastore, 1) := by decide +kernel
theorem dX5_add_52 : decode cX5_add 52 = .ok (.aload_n 0, 1) := by decide +kernel
theorem dX5_add_53 : decode cX5_add 53 = .ok (.dup, 1) := by decide +kernel
theorem dX5_add_54 : decode cX5_add 54 = .ok (.getfield 24, 3) := by decide +kernel
theorem dX5_add_57 : decode cX5_add 57 = .ok (.iconst 1, 1) := by decide +kernel
theorem dX5_add_58 : decode cX5_add 58 = .ok (.iadd, 1) := by decide +kernel
theorem dX5_add_59 : decode cX5_add 59 = .ok (.putfield 24, 3) := by decide +kernel
theorem dX5_add_62 : decode cX5_add 62 = .ok (.aload_n 0, 1) := by decide +kernel
theorem dX5_add_63 : decode cX5_add 63 = .ok (.getfield 24, 3) := by decide +kernel
theorem dX5_add_66 : decode cX5_add 66 = .ok (.iconst 1, 1) := by decide +kernel
theorem dX5_add_67 : decode cX5_add 67 = .ok (.isub, 1) := by decide +kernel
theorem dX5_add_68 : decode cX5_add 68 = .ok (.ireturn, 1) := by decide +kernel
theorem dX5_join_0 : decode cX5_join 0 = .ok (.aload_n 0, 1) := by decide +kernel
theorem dX5_join_1 : decode cX5_join 1 = .ok (.iload_n 1, 1) := by decide +kernel
theorem dX5_join_2 : decode cX5_join 2 = .ok (.invokevirtual 32, 3) := by decide +kernel
theorem dX5_join_5 : decode cX5_join 5 = .ok (.aload_n 0, 1) := by decide +kernel
theorem dX5_join_6 : decode cX5_join 6 = .ok (.iload_n 2, 1) := by decide +kernel
theorem dX5_join_7 : decode cX5_join 7 = .ok (.invokevirtual 32, 3) := by decide +kernel
theorem dX5_join_10 : decode cX5_join 10 = .ok (.aload_n 0, 1) := by decide +kernel
theorem dX5_join_11 : decode cX5_join 11 = .ok (.getfield 21, 3) := by decide +kernel
theorem dX5_join_14 : decode cX5_join 14 = .ok (.iload_n 1, 1) := by decide +kernel
theorem dX5_join_15 : decode cX5_join 15 = .ok (.iload_n 2, 1) := by decide +kernel
theorem dX5_join_16 : decode cX5_join 16 = .ok (.iastore, 1) := by decide +kernel
theorem dX5_join_17 : decode cX5_join 17 = .ok (.aload_n 0, 1) := by decide +kernel
theorem dX5_join_18 : decode cX5_join 18 = .ok (.getfield 21, 3) := by decide +kernel
theorem dX5_join_21 : decode cX5_join 21 = .ok (.iload_n 2, 1) := by decide +kernel
theorem dX5_join_22 : decode cX5_join 22 = .ok (.iload_n 1, 1) := by decide +kernel
theorem dX5_join_23 : decode cX5_join 23 = .ok (.iastore, 1) := by decide +kernel
theorem dX5_join_24 : decode cX5_join 24 = .ok (.return_, 1) := by decide +kernel
theorem dX5_part_0 : decode cX5_part 0 = .ok (.aload_n 0, 1) := by decide +kernel
theorem dX5_part_1 : decode cX5_part 1 = .ok (.getfield 21, 3) := by decide +kernel
theorem dX5_part_4 : decode cX5_part 4 = .ok (.iload_n 1, 1) := by decide +kernel
theorem dX5_part_5 : decode cX5_part 5 = .ok (.iaload, 1) := by decide +kernel
theorem dX5_part_6 : decode cX5_part 6 = .ok (.istore_n 2, 1) := by decide +kernel
theorem dX5_part_7 : decode cX5_part 7 = .ok (.aload_n 0, 1) := by decide +kernel
theorem dX5_part_8 : decode cX5_part 8 = .ok (.iload_n 2, 1) := by decide +kernel
theorem dX5_part_9 : decode cX5_part 9 = .ok (.invokevirtual 36, 3) := by decide +kernel
theorem dX5_part_12 : decode cX5_part 12 = .ok (.ifCond .eq 17, 3) := by decide +kernel
theorem dX5_part_15 : decode cX5_part 15 = .ok (.aload_n 0, 1) := by decide +kernel
theorem dX5_part_16 : decode cX5_part 16 = .ok (.getfield 21, 3) := by decide +kernel
theorem dX5_part_19 : decode cX5_part 19 = .ok (.iload_n 2, 1) := by decide +kernel
theorem dX5_part_20 : decode cX5_part 20 = .ok (.iconst (-1), 1) := by decide +kernel
theorem dX5_part_21 : decode cX5_part 21 = .ok (.iastore, 1) := by decide +kernel
theorem dX5_part_22 : decode cX5_part 22 = .ok (.aload_n 0, 1) := by decide +kernel
theorem dX5_part_23 : decode cX5_part 23 = .ok (.getfield 21, 3) := by decide +kernel
theorem dX5_part_26 : decode cX5_part 26 = .ok (.iload_n 1, 1) := by decide +kernel
theorem dX5_part_27 : decode cX5_part 27 = .ok (.iconst (-1), 1) := by decide +kernel
theorem dX5_part_28 : decode cX5_part 28 = .ok (.iastore, 1) := by decide +kernel
theorem dX5_part_29 : decode cX5_part 29 = .ok (.return_, 1) := by decide +kernel
theorem dX5_withTwins_0 : decode cX5_withTwins 0 = .ok (.iload_n 1, 1) := by decide +kernel
theorem dX5_withTwins_1 : decode cX5_withTwins 1 = .ok (.istore_n 2, 1) := by decide +kernel
theorem dX5_withTwins_2 : decode cX5_withTwins 2 = .ok (.iconst 0, 1) := by decide +kernel
theorem dX5_withTwins_3 : decode cX5_withTwins 3 = .ok (.istore_n 3, 1) := by decide +kernel
theorem dX5_withTwins_4 : decode cX5_withTwins 4 = .ok (.iload_n 3, 1) := by decide +kernel
theorem dX5_withTwins_5 : decode cX5_withTwins 5 = .ok (.aload_n 0, 1) := by decide +kernel
theorem dX5_withTwins_6 : decode cX5_withTwins 6 = .ok (.getfield 24, 3) := by decide +kernel
theorem dX5_withTwins_9 : decode cX5_withTwins 9 = .ok (.if_icmp .ge 43, 3) := by decide +kernel
theorem dX5_withTwins_12 : decode cX5_withTwins 12 = .ok (.iload_n 1, 1) := by decide +kernel
theorem dX5_withTwins_13 : decode cX5_withTwins 13 = .ok (.ifCond .eq 39, 3) := by decide +kernel
theorem dX5_withTwins_16 : decode cX5_withTwins 16 = .ok (.iload_n 1, 1) := by decide +kernel
theorem dX5_withTwins_17 : decode cX5_withTwins 17 = .ok (.iload_n 3, 1) := by decide +kernel
theorem dX5_withTwins_18 : decode cX5_withTwins 18 = .ok (.ishr, 1) := by decide +kernel
theorem dX5_withTwins_19 : decode cX5_withTwins 19 = .ok (.iconst 1, 1) := by decide +kernel
theorem dX5_withTwins_20 : decode cX5_withTwins 20 = .ok (.iand, 1) := by decide +kernel
theorem dX5_withTwins_21 : decode cX5_withTwins 21 = .ok (.iconst 1, 1) := by decide +kernel
theorem dX5_withTwins_22 : decode cX5_withTwins 22 = .ok (.if_icmp .ne 24, 3) := by decide +kernel
theorem dX5_withTwins_25 : decode cX5_withTwins 25 = .ok (.aload_n 0, 1) := by decide +kernel
theorem dX5_withTwins_26 : decode cX5_withTwins 26 = .ok (.getfield 21, 3) := by decide +kernel
theorem dX5_withTwins_29 : decode cX5_withTwins 29 = .ok (.iload_n 3, 1) := by decide +kernel
theorem dX5_withTwins_30 : decode cX5_withTwins 30 = .ok (.iaload, 1) := by decide +kernel
theorem dX5_withTwins_31 : decode cX5_withTwins 31 = .ok (.iconst (-1), 1) := by decide +kernel
theorem dX5_withTwins_32 : decode cX5_withTwins 32 = .ok (.if_icmp .eq 14, 3) := by decide +kernel
theorem dX5_withTwins_35 : decode cX5_withTwins 35 = .ok (.iload_n 2, 1) := by decide +kernel
theorem dX5_withTwins_36 : decode cX5_withTwins 36 = .ok (.iconst 1, 1) := by decide +kernel
theorem dX5_withTwins_37 : decode cX5_withTwins 37 = .ok (.aload_n 0, 1) := by decide +kernel
theorem dX5_withTwins_38 : decode cX5_withTwins 38 = .ok (.getfield 21, 3) := by decide +kernel
theorem dX5_withTwins_41 : decode cX5_withTwins 41 = .ok (.iload_n 3, 1) := by decide +kernel
theorem dX5_withTwins_42 : decode cX5_withTwins 42 = .ok (.iaload, 1) := by decide +kernel
theorem dX5_withTwins_43 : decode cX5_withTwins 43 = .ok (.ishl, 1) := by decide +kernel
theorem dX5_withTwins_44 : decode cX5_withTwins 44 = .ok (.ior, 1) := by decide +kernel
theorem dX5_withTwins_45 : decode cX5_withTwins 45 = .ok (.istore_n 2, 1) := by decide +kernel
theorem dX5_withTwins_46 : decode cX5_withTwins 46 = .ok (.iinc 3 1, 3) := by decide +kernel
theorem dX5_withTwins_49 : decode cX5_withTwins 49 = .ok (.goto (-45), 3) := by decide +kernel
theorem dX5_withTwins_52 : decode cX5_withTwins 52 = .ok (.iload_n 2, 1) := by decide +kernel
theorem dX5_withTwins_53 : decode cX5_withTwins 53 = .ok (.ireturn, 1) := by decide +kernel
theorem dX5_counts_0 : decode cX5_counts 0 = .ok (.aload_n 0, 1) := by decide +kernel
theorem dX5_counts_1 : decode cX5_counts 1 = .ok (.getfield 15, 3) := by decide +kernel
theorem dX5_counts_4 : decode cX5_counts 4 = .ok (.iload_n 1, 1) := by decide +kernel
theorem dX5_counts_5 : decode cX5_counts 5 = .ok (.iaload, 1) := by decide +kernel
theorem dX5_counts_6 : decode cX5_counts 6 = .ok (.istore_n 3, 1) := by decide +kernel
theorem dX5_counts_7 : decode cX5_counts 7 = .ok (.iload_n 3, 1) := by decide +kernel
theorem dX5_counts_8 : decode cX5_counts 8 = .ok (.iconst 2, 1) := by decide +kernel
theorem dX5_counts_9 : decode cX5_counts 9 = .ok (.iadd, 1) := by decide +kernel
theorem dX5_counts_10 : decode cX5_counts 10 = .ok (.istore 4, 2) := by decide +kernel
theorem dX5_counts_12 : decode cX5_counts 12 = .ok (.iload_n 2, 1) := by decide +kernel
theorem dX5_counts_13 : decode cX5_counts 13 = .ok (.bipush 14, 2) := by decide +kernel
theorem dX5_counts_15 : decode cX5_counts 15 = .ok (.if_icmp .ge 9, 3) := by decide +kernel
theorem dX5_counts_18 : decode cX5_counts 18 = .ok (.iconst 2, 1) := by decide +kernel
theorem dX5_counts_19 : decode cX5_counts 19 = .ok (.iload_n 3, 1) := by decide +kernel
theorem dX5_counts_20 : decode cX5_counts 20 = .ok (.imul, 1) := by decide +kernel
theorem dX5_counts_21 : decode cX5_counts 21 = .ok (.goto 4, 3) := by decide +kernel
theorem dX5_counts_24 : decode cX5_counts 24 = .ok (.iload_n 3, 1) := by decide +kernel
theorem dX5_counts_25 : decode cX5_counts 25 = .ok (.istore 5, 2) := by decide +kernel
theorem dX5_counts_27 : decode cX5_counts 27 = .ok (.aload_n 0, 1) := by decide +kernel
theorem dX5_counts_28 : decode cX5_counts 28 = .ok (.getfield 9, 3) := by decide +kernel
theorem dX5_counts_31 : decode cX5_counts 31 = .ok (.iload_n 1, 1) := by decide +kernel
theorem dX5_counts_32 : decode cX5_counts 32 = .ok (.iaload, 1) := by decide +kernel
theorem dX5_counts_33 : decode cX5_counts 33 = .ok (.tableswitch 72 1 5 #[35, 38, 41, 46, 56], 35) := by decide +kernel
theorem dX5_counts_68 : decode cX5_counts 68 = .ok (.iload 4, 2) := by decide +kernel
theorem dX5_counts_70 : decode cX5_counts 70 = .ok (.ireturn, 1) := by decide +kernel
theorem dX5_counts_71 : decode cX5_counts 71 = .ok (.iload 5, 2) := by decide +kernel
theorem dX5_counts_73 : decode cX5_counts 73 = .ok (.ireturn, 1) := by decide +kernel
theorem dX5_counts_74 : decode cX5_counts 74 = .ok (.iload 4, 2) := by decide +kernel
theorem dX5_counts_76 : decode cX5_counts 76 = .ok (.iconst 2, 1) := by decide +kernel
theorem dX5_counts_77 : decode cX5_counts 77 = .ok (.idiv, 1) := by decide +kernel
theorem dX5_counts_78 : decode cX5_counts 78 = .ok (.ireturn, 1) := by decide +kernel
theorem dX5_counts_79 : decode cX5_counts 79 = .ok (.iload 5, 2) := by decide +kernel
theorem dX5_counts_81 : decode cX5_counts 81 = .ok (.aload_n 0, 1) := by decide +kernel
theorem dX5_counts_82 : decode cX5_counts 82 = .ok (.getfield 18, 3) := by decide +kernel
theorem dX5_counts_85 : decode cX5_counts 85 = .ok (.iload_n 1, 1) := by decide +kernel
theorem dX5_counts_86 : decode cX5_counts 86 = .ok (.iaload, 1) := by decide +kernel
theorem dX5_counts_87 : decode cX5_counts 87 = .ok (.iadd, 1) := by decide +kernel
theorem dX5_counts_88 : decode cX5_counts 88 = .ok (.ireturn, 1) := by decide +kernel
theorem dX5_counts_89 : decode cX5_counts 89 = .ok (.iload_n 2, 1) := by decide +kernel
theorem dX5_counts_90 : decode cX5_counts 90 = .ok (.bipush 60, 2) := by decide +kernel
theorem dX5_counts_92 : decode cX5_counts 92 = .ok (.if_icmp .lt 10, 3) := by decide +kernel
theorem dX5_counts_95 : decode cX5_counts 95 = .ok (.iload 4, 2) := by decide +kernel
theorem dX5_counts_97 : decode cX5_counts 97 = .ok (.iconst 5, 1) := by decide +kernel
theorem dX5_counts_98 : decode cX5_counts 98 = .ok (.iadd, 1) := by decide +kernel
theorem dX5_counts_99 : decode cX5_counts 99 = .ok (.goto 5, 3) := by decide +kernel
theorem dX5_counts_102 : decode cX5_counts 102 = .ok (.iload 4, 2) := by decide +kernel
theorem dX5_counts_104 : decode cX5_counts 104 = .ok (.ireturn, 1) := by decide +kernel
theorem dX5_counts_105 : decode cX5_counts 105 = .ok (.iload_n 3, 1) := by decide +kernel
theorem dX5_counts_106 : decode cX5_counts 106 = .ok (.ireturn, 1) := by decide +kernel
theorem dX5_stays_0 : decode cX5_stays 0 = .ok (.bipush 30, 2) := by decide +kernel
theorem dX5_stays_2 : decode cX5_stays 2 = .ok (.istore_n 2, 1) := by decide +kernel
theorem dX5_stays_3 : decode cX5_stays 3 = .ok (.iload_n 2, 1) := by decide +kernel
theorem dX5_stays_4 : decode cX5_stays 4 = .ok (.aload_n 0, 1) := by decide +kernel
theorem dX5_stays_5 : decode cX5_stays 5 = .ok (.getfield 18, 3) := by decide +kernel
theorem dX5_stays_8 : decode cX5_stays 8 = .ok (.iload_n 1, 1) := by decide +kernel
theorem dX5_stays_9 : decode cX5_stays 9 = .ok (.iaload, 1) := by decide +kernel
theorem dX5_stays_10 : decode cX5_stays 10 = .ok (.iadd, 1) := by decide +kernel
theorem dX5_stays_11 : decode cX5_stays 11 = .ok (.istore_n 3, 1) := by decide +kernel
theorem dX5_stays_12 : decode cX5_stays 12 = .ok (.iload_n 2, 1) := by decide +kernel
theorem dX5_stays_13 : decode cX5_stays 13 = .ok (.iconst 2, 1) := by decide +kernel
theorem dX5_stays_14 : decode cX5_stays 14 = .ok (.idiv, 1) := by decide +kernel
theorem dX5_stays_15 : decode cX5_stays 15 = .ok (.istore 4, 2) := by decide +kernel
theorem dX5_stays_17 : decode cX5_stays 17 = .ok (.aload_n 0, 1) := by decide +kernel
theorem dX5_stays_18 : decode cX5_stays 18 = .ok (.getfield 9, 3) := by decide +kernel
theorem dX5_stays_21 : decode cX5_stays 21 = .ok (.iload_n 1, 1) := by decide +kernel
theorem dX5_stays_22 : decode cX5_stays 22 = .ok (.iaload, 1) := by decide +kernel
theorem dX5_stays_23 : decode cX5_stays 23 = .ok (.tableswitch 52 1 5 #[33, 35, 38, 47, 33], 33) := by decide +kernel
theorem dX5_stays_56 : decode cX5_stays 56 = .ok (.iload_n 3, 1) := by decide +kernel
theorem dX5_stays_57 : decode cX5_stays 57 = .ok (.ireturn, 1) := by decide +kernel
theorem dX5_stays_58 : decode cX5_stays 58 = .ok (.iload 4, 2) := by decide +kernel
theorem dX5_stays_60 : decode cX5_stays 60 = .ok (.ireturn, 1) := by decide +kernel
theorem dX5_stays_61 : decode cX5_stays 61 = .ok (.iconst 0, 1) := by decide +kernel
theorem dX5_stays_62 : decode cX5_stays 62 = .ok (.iload_n 3, 1) := by decide +kernel
theorem dX5_stays_63 : decode cX5_stays 63 = .ok (.bipush 20, 2) := by decide +kernel
theorem dX5_stays_65 : decode cX5_stays 65 = .ok (.isub, 1) := by decide +kernel
theorem dX5_stays_66 : decode cX5_stays 66 = .ok (.invokestatic 40, 3) := by decide +kernel
theorem dX5_stays_69 : decode cX5_stays 69 = .ok (.ireturn, 1) := by decide +kernel
theorem dX5_stays_70 : decode cX5_stays 70 = .ok (.iconst 2, 1) := by decide +kernel
theorem dX5_stays_71 : decode cX5_stays 71 = .ok (.iload 4, 2) := by decide +kernel
theorem dX5_stays_73 : decode cX5_stays 73 = .ok (.imul, 1) := by decide +kernel
theorem dX5_stays_74 : decode cX5_stays 74 = .ok (.ireturn, 1) := by decide +kernel
theorem dX5_stays_75 : decode cX5_stays 75 = .ok (.iload_n 2, 1) := by decide +kernel
theorem dX5_stays_76 : decode cX5_stays 76 = .ok (.ireturn, 1) := by decide +kernel
theorem dX5_isUnder_0 : decode cX5_isUnder 0 = .ok (.aload_n 0, 1) := by decide +kernel
theorem dX5_isUnder_1 : decode cX5_isUnder 1 = .ok (.getfield 9, 3) := by decide +kernel
theorem dX5_isUnder_4 : decode cX5_isUnder 4 = .ok (.iload_n 1, 1) := by decide +kernel
theorem dX5_isUnder_5 : decode cX5_isUnder 5 = .ok (.iaload, 1) := by decide +kernel
theorem dX5_isUnder_6 : decode cX5_isUnder 6 = .ok (.istore_n 3, 1) := by decide +kernel
theorem dX5_isUnder_7 : decode cX5_isUnder 7 = .ok (.iconst 0, 1) := by decide +kernel
theorem dX5_isUnder_8 : decode cX5_isUnder 8 = .ok (.istore 4, 2) := by decide +kernel
theorem dX5_isUnder_10 : decode cX5_isUnder 10 = .ok (.iload 4, 2) := by decide +kernel
theorem dX5_isUnder_12 : decode cX5_isUnder 12 = .ok (.bipush 6, 2) := by decide +kernel
theorem dX5_isUnder_14 : decode cX5_isUnder 14 = .ok (.if_icmp .ge 27, 3) := by decide +kernel
theorem dX5_isUnder_17 : decode cX5_isUnder 17 = .ok (.iload_n 3, 1) := by decide +kernel
theorem dX5_isUnder_18 : decode cX5_isUnder 18 = .ok (.iconst (-1), 1) := by decide +kernel
theorem dX5_isUnder_19 : decode cX5_isUnder 19 = .ok (.if_icmp .eq 22, 3) := by decide +kernel
theorem dX5_isUnder_22 : decode cX5_isUnder 22 = .ok (.iload_n 3, 1) := by decide +kernel
theorem dX5_isUnder_23 : decode cX5_isUnder 23 = .ok (.iload_n 2, 1) := by decide +kernel
theorem dX5_isUnder_24 : decode cX5_isUnder 24 = .ok (.if_icmp .ne 5, 3) := by decide +kernel
theorem dX5_isUnder_27 : decode cX5_isUnder 27 = .ok (.iconst 1, 1) := by decide +kernel
theorem dX5_isUnder_28 : decode cX5_isUnder 28 = .ok (.ireturn, 1) := by decide +kernel
theorem dX5_isUnder_29 : decode cX5_isUnder 29 = .ok (.getstatic 46, 3) := by decide +kernel
theorem dX5_isUnder_32 : decode cX5_isUnder 32 = .ok (.iload_n 3, 1) := by decide +kernel
theorem dX5_isUnder_33 : decode cX5_isUnder 33 = .ok (.iaload, 1) := by decide +kernel
theorem dX5_isUnder_34 : decode cX5_isUnder 34 = .ok (.istore_n 3, 1) := by decide +kernel
theorem dX5_isUnder_35 : decode cX5_isUnder 35 = .ok (.iinc 4 1, 3) := by decide +kernel
theorem dX5_isUnder_38 : decode cX5_isUnder 38 = .ok (.goto (-28), 3) := by decide +kernel
theorem dX5_isUnder_41 : decode cX5_isUnder 41 = .ok (.iconst 0, 1) := by decide +kernel
theorem dX5_isUnder_42 : decode cX5_isUnder 42 = .ok (.ireturn, 1) := by decide +kernel
theorem dX7_init_0 : decode cX7_init 0 = .ok (.aload_n 0, 1) := by decide +kernel
theorem dX7_init_1 : decode cX7_init 1 = .ok (.invokespecial 3, 3) := by decide +kernel
theorem dX7_init_4 : decode cX7_init 4 = .ok (.aload_n 0, 1) := by decide +kernel
theorem dX7_init_5 : decode cX7_init 5 = .ok (.bipush 6, 2) := by decide +kernel
theorem dX7_init_7 : decode cX7_init 7 = .ok (.anewarray 9, 3) := by decide +kernel
theorem dX7_init_10 : decode cX7_init 10 = .ok (.putfield 11, 3) := by decide +kernel
theorem dX7_init_13 : decode cX7_init 13 = .ok (.aload_n 0, 1) := by decide +kernel
theorem dX7_init_14 : decode cX7_init 14 = .ok (.bipush 6, 2) := by decide +kernel
theorem dX7_init_16 : decode cX7_init 16 = .ok (.newarray .int, 2) := by decide +kernel
theorem dX7_init_18 : decode cX7_init 18 = .ok (.putfield 19, 3) := by decide +kernel
theorem dX7_init_21 : decode cX7_init 21 = .ok (.aload_n 0, 1) := by decide +kernel
theorem dX7_init_22 : decode cX7_init 22 = .ok (.bipush 31, 2) := by decide +kernel
theorem dX7_init_24 : decode cX7_init 24 = .ok (.newarray .int, 2) := by decide +kernel
theorem dX7_init_26 : decode cX7_init 26 = .ok (.putfield 23, 3) := by decide +kernel
theorem dX7_init_29 : decode cX7_init 29 = .ok (.return_, 1) := by decide +kernel
theorem dX7_has_0 : decode cX7_has 0 = .ok (.iload_n 1, 1) := by decide +kernel
theorem dX7_has_1 : decode cX7_has 1 = .ok (.aload_n 0, 1) := by decide +kernel
theorem dX7_has_2 : decode cX7_has 2 = .ok (.getfield 26, 3) := by decide +kernel
theorem dX7_has_5 : decode cX7_has 5 = .ok (.invokestatic 30, 3) := by decide +kernel
theorem dX7_has_8 : decode cX7_has 8 = .ok (.ireturn, 1) := by decide +kernel
theorem dX7_at_0 : decode cX7_at 0 = .ok (.iload_n 1, 1) := by decide +kernel
theorem dX7_at_1 : decode cX7_at 1 = .ok (.ifCond .lt 20, 3) := by decide +kernel
theorem dX7_at_4 : decode cX7_at 4 = .ok (.iload_n 1, 1) := by decide +kernel
theorem dX7_at_5 : decode cX7_at 5 = .ok (.aload_n 0, 1) := by decide +kernel
theorem dX7_at_6 : decode cX7_at 6 = .ok (.getfield 26, 3) := by decide +kernel
theorem dX7_at_9 : decode cX7_at 9 = .ok (.if_icmp .ge 12, 3) := by decide +kernel
theorem dX7_at_12 : decode cX7_at 12 = .ok (.aload_n 0, 1) := by decide +kernel
theorem dX7_at_13 : decode cX7_at 13 = .ok (.getfield 11, 3) := by decide +kernel
theorem dX7_at_16 : decode cX7_at 16 = .ok (.iload_n 1, 1) := by decide +kernel
theorem dX7_at_17 : decode cX7_at 17 = .ok (.aaload, 1) := by decide +kernel
theorem dX7_at_18 : decode cX7_at 18 = .ok (.goto 4, 3) := by decide +kernel
theorem dX7_at_21 : decode cX7_at 21 = .ok (.aconst_null, 1) := by decide +kernel
theorem dX7_at_22 : decode cX7_at 22 = .ok (.areturn, 1) := by decide +kernel
theorem dX7_isFull_0 : decode cX7_isFull 0 = .ok (.aload_n 0, 1) := by decide +kernel
theorem dX7_isFull_1 : decode cX7_isFull 1 = .ok (.getfield 26, 3) := by decide +kernel
theorem dX7_isFull_4 : decode cX7_isFull 4 = .ok (.bipush 6, 2) := by decide +kernel
theorem dX7_isFull_6 : decode cX7_isFull 6 = .ok (.if_icmp .lt 7, 3) := by decide +kernel
theorem dX7_isFull_9 : decode cX7_isFull 9 = .ok (.iconst 1, 1) := by decide +kernel
theorem dX7_isFull_10 : decode cX7_isFull 10 = .ok (.goto 4, 3) := by decide +kernel
theorem dX7_isFull_13 : decode cX7_isFull 13 = .ok (.iconst 0, 1) := by decide +kernel
theorem dX7_isFull_14 : decode cX7_isFull 14 = .ok (.ireturn, 1) := by decide +kernel
theorem dX7_add_0 : decode cX7_add 0 = .ok (.aload_n 0, 1) := by decide +kernel
theorem dX7_add_1 : decode cX7_add 1 = .ok (.invokevirtual 34, 3) := by decide +kernel
theorem dX7_add_4 : decode cX7_add 4 = .ok (.ifCond .eq 6, 3) := by decide +kernel
theorem dX7_add_7 : decode cX7_add 7 = .ok (.bipush (-4), 2) := by decide +kernel
theorem dX7_add_9 : decode cX7_add 9 = .ok (.ireturn, 1) := by decide +kernel
theorem dX7_add_10 : decode cX7_add 10 = .ok (.aload_n 0, 1) := by decide +kernel
theorem dX7_add_11 : decode cX7_add 11 = .ok (.getfield 11, 3) := by decide +kernel
theorem dX7_add_14 : decode cX7_add 14 = .ok (.aload_n 0, 1) := by decide +kernel
theorem dX7_add_15 : decode cX7_add 15 = .ok (.getfield 26, 3) := by decide +kernel
theorem dX7_add_18 : decode cX7_add 18 = .ok (.aload_n 1, 1) := by decide +kernel
theorem dX7_add_19 : decode cX7_add 19 = .ok (.aastore, 1) := by decide +kernel
theorem dX7_add_20 : decode cX7_add 20 = .ok (.aload_n 0, 1) := by decide +kernel
theorem dX7_add_21 : decode cX7_add 21 = .ok (.dup, 1) := by decide +kernel
theorem dX7_add_22 : decode cX7_add 22 = .ok (.getfield 26, 3) := by decide +kernel
theorem dX7_add_25 : decode cX7_add 25 = .ok (.iconst 1, 1) := by decide +kernel
theorem dX7_add_26 : decode cX7_add 26 = .ok (.iadd, 1) := by decide +kernel
theorem dX7_add_27 : decode cX7_add 27 = .ok (.putfield 26, 3) := by decide +kernel
theorem dX7_add_30 : decode cX7_add 30 = .ok (.aload_n 0, 1) := by decide +kernel
theorem dX7_add_31 : decode cX7_add 31 = .ok (.getfield 26, 3) := by decide +kernel
theorem dX7_add_34 : decode cX7_add 34 = .ok (.iconst 1, 1) := by decide +kernel
theorem dX7_add_35 : decode cX7_add 35 = .ok (.isub, 1) := by decide +kernel
theorem dX7_add_36 : decode cX7_add 36 = .ok (.ireturn, 1) := by decide +kernel
