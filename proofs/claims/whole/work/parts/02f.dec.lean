theorem dX9_isTired_4 : decode cX9_isTired 4 = .ok (.iload_n 2, 1) := by decide +kernel
theorem dX9_isTired_5 : decode cX9_isTired 5 = .ok (.iadd, 1) := by decide +kernel
theorem dX9_isTired_6 : decode cX9_isTired 6 = .ok (.bipush 9, 2) := by decide +kernel
theorem dX9_isTired_8 : decode cX9_isTired 8 = .ok (.imul, 1) := by decide +kernel
theorem dX9_isTired_9 : decode cX9_isTired 9 = .ok (.iload_n 3, 1) := by decide +kernel
theorem dX9_isTired_10 : decode cX9_isTired 10 = .ok (.iadd, 1) := by decide +kernel
theorem dX9_isTired_11 : decode cX9_isTired 11 = .ok (.istore 4, 2) := by decide +kernel
theorem dX9_isTired_13 : decode cX9_isTired 13 = .ok (.aload_n 0, 1) := by decide +kernel
theorem dX9_isTired_14 : decode cX9_isTired 14 = .ok (.getfield 62, 3) := by decide +kernel
theorem dX9_isTired_17 : decode cX9_isTired 17 = .ok (.iload 4, 2) := by decide +kernel
theorem dX9_isTired_19 : decode cX9_isTired 19 = .ok (.iaload, 1) := by decide +kernel
theorem dX9_isTired_20 : decode cX9_isTired 20 = .ok (.ifCond .ne 26, 3) := by decide +kernel
theorem dX9_isTired_23 : decode cX9_isTired 23 = .ok (.aload_n 0, 1) := by decide +kernel
theorem dX9_isTired_24 : decode cX9_isTired 24 = .ok (.getfield 62, 3) := by decide +kernel
theorem dX9_isTired_27 : decode cX9_isTired 27 = .ok (.iload 4, 2) := by decide +kernel
theorem dX9_isTired_29 : decode cX9_isTired 29 = .ok (.aload_n 0, 1) := by decide +kernel
theorem dX9_isTired_30 : decode cX9_isTired 30 = .ok (.iconst 2, 1) := by decide +kernel
theorem dX9_isTired_31 : decode cX9_isTired 31 = .ok (.iload_n 1, 1) := by decide +kernel
theorem dX9_isTired_32 : decode cX9_isTired 32 = .ok (.iload_n 2, 1) := by decide +kernel
theorem dX9_isTired_33 : decode cX9_isTired 33 = .ok (.iload_n 3, 1) := by decide +kernel
theorem dX9_isTired_34 : decode cX9_isTired 34 = .ok (.invokevirtual 274, 3) := by decide +kernel
theorem dX9_isTired_37 : decode cX9_isTired 37 = .ok (.ifCond .ne 7, 3) := by decide +kernel
theorem dX9_isTired_40 : decode cX9_isTired 40 = .ok (.iconst 1, 1) := by decide +kernel
theorem dX9_isTired_41 : decode cX9_isTired 41 = .ok (.goto 4, 3) := by decide +kernel
theorem dX9_isTired_44 : decode cX9_isTired 44 = .ok (.iconst 2, 1) := by decide +kernel
theorem dX9_isTired_45 : decode cX9_isTired 45 = .ok (.iastore, 1) := by decide +kernel
theorem dX9_isTired_46 : decode cX9_isTired 46 = .ok (.aload_n 0, 1) := by decide +kernel
theorem dX9_isTired_47 : decode cX9_isTired 47 = .ok (.getfield 62, 3) := by decide +kernel
theorem dX9_isTired_50 : decode cX9_isTired 50 = .ok (.iload 4, 2) := by decide +kernel
theorem dX9_isTired_52 : decode cX9_isTired 52 = .ok (.iaload, 1) := by decide +kernel
theorem dX9_isTired_53 : decode cX9_isTired 53 = .ok (.iconst 2, 1) := by decide +kernel
theorem dX9_isTired_54 : decode cX9_isTired 54 = .ok (.if_icmp .ne 7, 3) := by decide +kernel
theorem dX9_isTired_57 : decode cX9_isTired 57 = .ok (.iconst 1, 1) := by decide +kernel
theorem dX9_isTired_58 : decode cX9_isTired 58 = .ok (.goto 4, 3) := by decide +kernel
theorem dX9_isTired_61 : decode cX9_isTired 61 = .ok (.iconst 0, 1) := by decide +kernel
theorem dX9_isTired_62 : decode cX9_isTired 62 = .ok (.ireturn, 1) := by decide +kernel
theorem dX9_anyMay_0 : decode cX9_anyMay 0 = .ok (.iload_n 1, 1) := by decide +kernel
theorem dX9_anyMay_1 : decode cX9_anyMay 1 = .ok (.invokestatic 268, 3) := by decide +kernel
theorem dX9_anyMay_4 : decode cX9_anyMay 4 = .ok (.istore_n 2, 1) := by decide +kernel
theorem dX9_anyMay_5 : decode cX9_anyMay 5 = .ok (.iconst 0, 1) := by decide +kernel
theorem dX9_anyMay_6 : decode cX9_anyMay 6 = .ok (.istore_n 3, 1) := by decide +kernel
theorem dX9_anyMay_7 : decode cX9_anyMay 7 = .ok (.iload_n 3, 1) := by decide +kernel
theorem dX9_anyMay_8 : decode cX9_anyMay 8 = .ok (.aload_n 0, 1) := by decide +kernel
theorem dX9_anyMay_9 : decode cX9_anyMay 9 = .ok (.getfield 97, 3) := by decide +kernel
theorem dX9_anyMay_12 : decode cX9_anyMay 12 = .ok (.if_icmp .ge 92, 3) := by decide +kernel
theorem dX9_anyMay_15 : decode cX9_anyMay 15 = .ok (.iconst 0, 1) := by decide +kernel
theorem dX9_anyMay_16 : decode cX9_anyMay 16 = .ok (.istore 4, 2) := by decide +kernel
theorem dX9_anyMay_18 : decode cX9_anyMay 18 = .ok (.iload 4, 2) := by decide +kernel
theorem dX9_anyMay_20 : decode cX9_anyMay 20 = .ok (.aload_n 0, 1) := by decide +kernel
theorem dX9_anyMay_21 : decode cX9_anyMay 21 = .ok (.getfield 104, 3) := by decide +kernel
theorem dX9_anyMay_24 : decode cX9_anyMay 24 = .ok (.if_icmp .ge 74, 3) := by decide +kernel
theorem dX9_anyMay_27 : decode cX9_anyMay 27 = .ok (.iload_n 1, 1) := by decide +kernel
theorem dX9_anyMay_28 : decode cX9_anyMay 28 = .ok (.iconst 1, 1) := by decide +kernel
theorem dX9_anyMay_29 : decode cX9_anyMay 29 = .ok (.iload 4, 2) := by decide +kernel
theorem dX9_anyMay_31 : decode cX9_anyMay 31 = .ok (.ishl, 1) := by decide +kernel
theorem dX9_anyMay_32 : decode cX9_anyMay 32 = .ok (.iconst (-1), 1) := by decide +kernel
theorem dX9_anyMay_33 : decode cX9_anyMay 33 = .ok (.ixor, 1) := by decide +kernel
theorem dX9_anyMay_34 : decode cX9_anyMay 34 = .ok (.iand, 1) := by decide +kernel
theorem dX9_anyMay_35 : decode cX9_anyMay 35 = .ok (.istore 5, 2) := by decide +kernel
theorem dX9_anyMay_37 : decode cX9_anyMay 37 = .ok (.iload_n 1, 1) := by decide +kernel
theorem dX9_anyMay_38 : decode cX9_anyMay 38 = .ok (.iload 4, 2) := by decide +kernel
theorem dX9_anyMay_40 : decode cX9_anyMay 40 = .ok (.ishr, 1) := by decide +kernel
theorem dX9_anyMay_41 : decode cX9_anyMay 41 = .ok (.iconst 1, 1) := by decide +kernel
theorem dX9_anyMay_42 : decode cX9_anyMay 42 = .ok (.iand, 1) := by decide +kernel
theorem dX9_anyMay_43 : decode cX9_anyMay 43 = .ok (.iconst 1, 1) := by decide +kernel
theorem dX9_anyMay_44 : decode cX9_anyMay 44 = .ok (.if_icmp .ne 48, 3) := by decide +kernel
theorem dX9_anyMay_47 : decode cX9_anyMay 47 = .ok (.aload_n 0, 1) := by decide +kernel
theorem dX9_anyMay_48 : decode cX9_anyMay 48 = .ok (.getfield 38, 3) := by decide +kernel
theorem dX9_anyMay_51 : decode cX9_anyMay 51 = .ok (.iload 4, 2) := by decide +kernel
theorem dX9_anyMay_53 : decode cX9_anyMay 53 = .ok (.iaload, 1) := by decide +kernel
theorem dX9_anyMay_54 : decode cX9_anyMay 54 = .ok (.iload_n 3, 1) := by decide +kernel
theorem dX9_anyMay_55 : decode cX9_anyMay 55 = .ok (.ishr, 1) := by decide +kernel
theorem dX9_anyMay_56 : decode cX9_anyMay 56 = .ok (.iconst 1, 1) := by decide +kernel
theorem dX9_anyMay_57 : decode cX9_anyMay 57 = .ok (.iand, 1) := by decide +kernel
theorem dX9_anyMay_58 : decode cX9_anyMay 58 = .ok (.iconst 1, 1) := by decide +kernel
theorem dX9_anyMay_59 : decode cX9_anyMay 59 = .ok (.if_icmp .ne 33, 3) := by decide +kernel
theorem dX9_anyMay_62 : decode cX9_anyMay 62 = .ok (.iload 5, 2) := by decide +kernel
theorem dX9_anyMay_64 : decode cX9_anyMay 64 = .ok (.ifCond .eq 28, 3) := by decide +kernel
theorem dX9_anyMay_67 : decode cX9_anyMay 67 = .ok (.aload_n 0, 1) := by decide +kernel
theorem dX9_anyMay_68 : decode cX9_anyMay 68 = .ok (.getfield 59, 3) := by decide +kernel
theorem dX9_anyMay_71 : decode cX9_anyMay 71 = .ok (.iload_n 3, 1) := by decide +kernel
theorem dX9_anyMay_72 : decode cX9_anyMay 72 = .ok (.iaload, 1) := by decide +kernel
theorem dX9_anyMay_73 : decode cX9_anyMay 73 = .ok (.iload 5, 2) := by decide +kernel
theorem dX9_anyMay_75 : decode cX9_anyMay 75 = .ok (.iand, 1) := by decide +kernel
theorem dX9_anyMay_76 : decode cX9_anyMay 76 = .ok (.ifCond .ne 16, 3) := by decide +kernel
theorem dX9_anyMay_79 : decode cX9_anyMay 79 = .ok (.aload_n 0, 1) := by decide +kernel
theorem dX9_anyMay_80 : decode cX9_anyMay 80 = .ok (.iload 4, 2) := by decide +kernel
theorem dX9_anyMay_82 : decode cX9_anyMay 82 = .ok (.iload_n 3, 1) := by decide +kernel
theorem dX9_anyMay_83 : decode cX9_anyMay 83 = .ok (.iload_n 2, 1) := by decide +kernel
theorem dX9_anyMay_84 : decode cX9_anyMay 84 = .ok (.invokevirtual 324, 3) := by decide +kernel
theorem dX9_anyMay_87 : decode cX9_anyMay 87 = .ok (.ifCond .ne 5, 3) := by decide +kernel
theorem dX9_anyMay_90 : decode cX9_anyMay 90 = .ok (.iconst 1, 1) := by decide +kernel
theorem dX9_anyMay_91 : decode cX9_anyMay 91 = .ok (.ireturn, 1) := by decide +kernel
theorem dX9_anyMay_92 : decode cX9_anyMay 92 = .ok (.iinc 4 1, 3) := by decide +kernel
theorem dX9_anyMay_95 : decode cX9_anyMay 95 = .ok (.goto (-77), 3) := by decide +kernel
theorem dX9_anyMay_98 : decode cX9_anyMay 98 = .ok (.iinc 3 1, 3) := by decide +kernel
theorem dX9_anyMay_101 : decode cX9_anyMay 101 = .ok (.goto (-94), 3) := by decide +kernel
theorem dX9_anyMay_104 : decode cX9_anyMay 104 = .ok (.iconst 0, 1) := by decide +kernel
theorem dX9_anyMay_105 : decode cX9_anyMay 105 = .ok (.ireturn, 1) := by decide +kernel
theorem dX9_digit_0 : decode cX9_digit 0 = .ok (.iload_n 0, 1) := by decide +kernel
theorem dX9_digit_1 : decode cX9_digit 1 = .ok (.istore_n 3, 1) := by decide +kernel
theorem dX9_digit_2 : decode cX9_digit 2 = .ok (.iconst 0, 1) := by decide +kernel
theorem dX9_digit_3 : decode cX9_digit 3 = .ok (.istore 4, 2) := by decide +kernel
theorem dX9_digit_5 : decode cX9_digit 5 = .ok (.iload 4, 2) := by decide +kernel
theorem dX9_digit_7 : decode cX9_digit 7 = .ok (.iload_n 2, 1) := by decide +kernel
theorem dX9_digit_8 : decode cX9_digit 8 = .ok (.if_icmp .ge 13, 3) := by decide +kernel
theorem dX9_digit_11 : decode cX9_digit 11 = .ok (.iload_n 3, 1) := by decide +kernel
theorem dX9_digit_12 : decode cX9_digit 12 = .ok (.iload_n 1, 1) := by decide +kernel
theorem dX9_digit_13 : decode cX9_digit 13 = .ok (.idiv, 1) := by decide +kernel
theorem dX9_digit_14 : decode cX9_digit 14 = .ok (.istore_n 3, 1) := by decide +kernel
theorem dX9_digit_15 : decode cX9_digit 15 = .ok (.iinc 4 1, 3) := by decide +kernel
theorem dX9_digit_18 : decode cX9_digit 18 = .ok (.goto (-13), 3) := by decide +kernel
theorem dX9_digit_21 : decode cX9_digit 21 = .ok (.iload_n 3, 1) := by decide +kernel
theorem dX9_digit_22 : decode cX9_digit 22 = .ok (.iload_n 1, 1) := by decide +kernel
theorem dX9_digit_23 : decode cX9_digit 23 = .ok (.irem, 1) := by decide +kernel
theorem dX9_digit_24 : decode cX9_digit 24 = .ok (.ireturn, 1) := by decide +kernel
theorem dX9_housesWith_0 : decode cX9_housesWith 0 = .ok (.iconst 0, 1) := by decide +kernel
theorem dX9_housesWith_1 : decode cX9_housesWith 1 = .ok (.istore_n 3, 1) := by decide +kernel
theorem dX9_housesWith_2 : decode cX9_housesWith 2 = .ok (.iconst 0, 1) := by decide +kernel
theorem dX9_housesWith_3 : decode cX9_housesWith 3 = .ok (.istore 4, 2) := by decide +kernel
theorem dX9_housesWith_5 : decode cX9_housesWith 5 = .ok (.iload 4, 2) := by decide +kernel
theorem dX9_housesWith_7 : decode cX9_housesWith 7 = .ok (.iload_n 2, 1) := by decide +kernel
theorem dX9_housesWith_8 : decode cX9_housesWith 8 = .ok (.if_icmp .ge 68, 3) := by decide +kernel
theorem dX9_housesWith_11 : decode cX9_housesWith 11 = .ok (.iconst 0, 1) := by decide +kernel
theorem dX9_housesWith_12 : decode cX9_housesWith 12 = .ok (.istore 5, 2) := by decide +kernel
theorem dX9_housesWith_14 : decode cX9_housesWith 14 = .ok (.iconst 0, 1) := by decide +kernel
theorem dX9_housesWith_15 : decode cX9_housesWith 15 = .ok (.istore 6, 2) := by decide +kernel
theorem dX9_housesWith_17 : decode cX9_housesWith 17 = .ok (.iload 6, 2) := by decide +kernel
theorem dX9_housesWith_19 : decode cX9_housesWith 19 = .ok (.aload_n 0, 1) := by decide +kernel
theorem dX9_housesWith_20 : decode cX9_housesWith 20 = .ok (.getfield 104, 3) := by decide +kernel
theorem dX9_housesWith_23 : decode cX9_housesWith 23 = .ok (.if_icmp .ge 30, 3) := by decide +kernel
theorem dX9_housesWith_26 : decode cX9_housesWith 26 = .ok (.iload_n 1, 1) := by decide +kernel
theorem dX9_housesWith_27 : decode cX9_housesWith 27 = .ok (.iload_n 2, 1) := by decide +kernel
theorem dX9_housesWith_28 : decode cX9_housesWith 28 = .ok (.iload 6, 2) := by decide +kernel
theorem dX9_housesWith_30 : decode cX9_housesWith 30 = .ok (.invokestatic 327, 3) := by decide +kernel
theorem dX9_housesWith_33 : decode cX9_housesWith 33 = .ok (.iload 4, 2) := by decide +kernel
theorem dX9_housesWith_35 : decode cX9_housesWith 35 = .ok (.if_icmp .ne 12, 3) := by decide +kernel
theorem dX9_housesWith_38 : decode cX9_housesWith 38 = .ok (.iload 5, 2) := by decide +kernel
theorem dX9_housesWith_40 : decode cX9_housesWith 40 = .ok (.iconst 1, 1) := by decide +kernel
theorem dX9_housesWith_41 : decode cX9_housesWith 41 = .ok (.iload 6, 2) := by decide +kernel
theorem dX9_housesWith_43 : decode cX9_housesWith 43 = .ok (.ishl, 1) := by decide +kernel
theorem dX9_housesWith_44 : decode cX9_housesWith 44 = .ok (.ior, 1) := by decide +kernel
theorem dX9_housesWith_45 : decode cX9_housesWith 45 = .ok (.istore 5, 2) := by decide +kernel
theorem dX9_housesWith_47 : decode cX9_housesWith 47 = .ok (.iinc 6 1, 3) := by decide +kernel
theorem dX9_housesWith_50 : decode cX9_housesWith 50 = .ok (.goto (-33), 3) := by decide +kernel
theorem dX9_housesWith_53 : decode cX9_housesWith 53 = .ok (.iload_n 3, 1) := by decide +kernel
theorem dX9_housesWith_54 : decode cX9_housesWith 54 = .ok (.aload_n 0, 1) := by decide +kernel
theorem dX9_housesWith_55 : decode cX9_housesWith 55 = .ok (.iload 5, 2) := by decide +kernel
theorem dX9_housesWith_57 : decode cX9_housesWith 57 = .ok (.invokevirtual 330, 3) := by decide +kernel
theorem dX9_housesWith_60 : decode cX9_housesWith 60 = .ok (.ifCond .eq 7, 3) := by decide +kernel
theorem dX9_housesWith_63 : decode cX9_housesWith 63 = .ok (.iconst 1, 1) := by decide +kernel
theorem dX9_housesWith_64 : decode cX9_housesWith 64 = .ok (.goto 4, 3) := by decide +kernel
theorem dX9_housesWith_67 : decode cX9_housesWith 67 = .ok (.iconst 0, 1) := by decide +kernel
theorem dX9_housesWith_68 : decode cX9_housesWith 68 = .ok (.iadd, 1) := by decide +kernel
theorem dX9_housesWith_69 : decode cX9_housesWith 69 = .ok (.istore_n 3, 1) := by decide +kernel
theorem dX9_housesWith_70 : decode cX9_housesWith 70 = .ok (.iinc 4 1, 3) := by decide +kernel
theorem dX9_housesWith_73 : decode cX9_housesWith 73 = .ok (.goto (-68), 3) := by decide +kernel
theorem dX9_housesWith_76 : decode cX9_housesWith 76 = .ok (.iload_n 3, 1) := by decide +kernel
theorem dX9_housesWith_77 : decode cX9_housesWith 77 = .ok (.ireturn, 1) := by decide +kernel
theorem dX9_spread_0 : decode cX9_spread 0 = .ok (.iload_n 1, 1) := by decide +kernel
theorem dX9_spread_1 : decode cX9_spread 1 = .ok (.i2l, 1) := by decide +kernel
theorem dX9_spread_2 : decode cX9_spread 2 = .ok (.lconst 1, 1) := by decide +kernel
theorem dX9_spread_3 : decode cX9_spread 3 = .ok (.ldc2_w 143, 3) := by decide +kernel
theorem dX9_spread_6 : decode cX9_spread 6 = .ok (.invokestatic 100, 3) := by decide +kernel
theorem dX9_spread_9 : decode cX9_spread 9 = .ok (.ifCond .eq 16, 3) := by decide +kernel
theorem dX9_spread_12 : decode cX9_spread 12 = .ok (.iload_n 2, 1) := by decide +kernel
theorem dX9_spread_13 : decode cX9_spread 13 = .ok (.iconst (-1), 1) := by decide +kernel
theorem dX9_spread_14 : decode cX9_spread 14 = .ok (.if_icmp .eq 14, 3) := by decide +kernel
theorem dX9_spread_17 : decode cX9_spread 17 = .ok (.aload_n 0, 1) := by decide +kernel
theorem dX9_spread_18 : decode cX9_spread 18 = .ok (.iload_n 2, 1) := by decide +kernel
theorem dX9_spread_19 : decode cX9_spread 19 = .ok (.invokevirtual 127, 3) := by decide +kernel
theorem dX9_spread_22 : decode cX9_spread 22 = .ok (.ifCond .ne 6, 3) := by decide +kernel
theorem dX9_spread_25 : decode cX9_spread 25 = .ok (.bipush (-2), 2) := by decide +kernel
theorem dX9_spread_27 : decode cX9_spread 27 = .ok (.ireturn, 1) := by decide +kernel
theorem dX9_spread_28 : decode cX9_spread 28 = .ok (.iconst 1, 1) := by decide +kernel
theorem dX9_spread_29 : decode cX9_spread 29 = .ok (.istore_n 3, 1) := by decide +kernel
theorem dX9_spread_30 : decode cX9_spread 30 = .ok (.iconst 0, 1) := by decide +kernel
theorem dX9_spread_31 : decode cX9_spread 31 = .ok (.istore 4, 2) := by decide +kernel
theorem dX9_spread_33 : decode cX9_spread 33 = .ok (.iload 4, 2) := by decide +kernel
theorem dX9_spread_35 : decode cX9_spread 35 = .ok (.aload_n 0, 1) := by decide +kernel
theorem dX9_spread_36 : decode cX9_spread 36 = .ok (.getfield 104, 3) := by decide +kernel
theorem dX9_spread_39 : decode cX9_spread 39 = .ok (.if_icmp .ge 20, 3) := by decide +kernel
theorem dX9_spread_42 : decode cX9_spread 42 = .ok (.iload_n 3, 1) := by decide +kernel
theorem dX9_spread_43 : decode cX9_spread 43 = .ok (.sipush 4096, 3) := by decide +kernel
theorem dX9_spread_46 : decode cX9_spread 46 = .ok (.if_icmp .gt 13, 3) := by decide +kernel
theorem dX9_spread_49 : decode cX9_spread 49 = .ok (.iload_n 3, 1) := by decide +kernel
theorem dX9_spread_50 : decode cX9_spread 50 = .ok (.iload_n 1, 1) := by decide +kernel
theorem dX9_spread_51 : decode cX9_spread 51 = .ok (.imul, 1) := by decide +kernel
theorem dX9_spread_52 : decode cX9_spread 52 = .ok (.istore_n 3, 1) := by decide +kernel
theorem dX9_spread_53 : decode cX9_spread 53 = .ok (.iinc 4 1, 3) := by decide +kernel
theorem dX9_spread_56 : decode cX9_spread 56 = .ok (.goto (-23), 3) := by decide +kernel
theorem dX9_spread_59 : decode cX9_spread 59 = .ok (.iload_n 3, 1) := by decide +kernel
theorem dX9_spread_60 : decode cX9_spread 60 = .ok (.sipush 4096, 3) := by decide +kernel
theorem dX9_spread_63 : decode cX9_spread 63 = .ok (.if_icmp .le 6, 3) := by decide +kernel
theorem dX9_spread_66 : decode cX9_spread 66 = .ok (.bipush (-2), 2) := by decide +kernel
theorem dX9_spread_68 : decode cX9_spread 68 = .ok (.ireturn, 1) := by decide +kernel
theorem dX9_spread_69 : decode cX9_spread 69 = .ok (.iconst 0, 1) := by decide +kernel
theorem dX9_spread_70 : decode cX9_spread 70 = .ok (.istore 4, 2) := by decide +kernel
theorem dX9_spread_72 : decode cX9_spread 72 = .ok (.iload 4, 2) := by decide +kernel
theorem dX9_spread_74 : decode cX9_spread 74 = .ok (.aload_n 0, 1) := by decide +kernel
theorem dX9_spread_75 : decode cX9_spread 75 = .ok (.getfield 97, 3) := by decide +kernel
theorem dX9_spread_78 : decode cX9_spread 78 = .ok (.if_icmp .ge 22, 3) := by decide +kernel
theorem dX9_spread_81 : decode cX9_spread 81 = .ok (.aload_n 0, 1) := by decide +kernel
theorem dX9_spread_82 : decode cX9_spread 82 = .ok (.getfield 59, 3) := by decide +kernel
theorem dX9_spread_85 : decode cX9_spread 85 = .ok (.iload 4, 2) := by decide +kernel
theorem dX9_spread_87 : decode cX9_spread 87 = .ok (.aload_n 0, 1) := by decide +kernel
theorem dX9_spread_88 : decode cX9_spread 88 = .ok (.iload 4, 2) := by decide +kernel
theorem dX9_spread_90 : decode cX9_spread 90 = .ok (.invokevirtual 271, 3) := by decide +kernel
theorem dX9_spread_93 : decode cX9_spread 93 = .ok (.iastore, 1) := by decide +kernel
theorem dX9_spread_94 : decode cX9_spread 94 = .ok (.iinc 4 1, 3) := by decide +kernel
theorem dX9_spread_97 : decode cX9_spread 97 = .ok (.goto (-25), 3) := by decide +kernel
theorem dX9_spread_100 : decode cX9_spread 100 = .ok (.iconst 0, 1) := by decide +kernel
theorem dX9_spread_101 : decode cX9_spread 101 = .ok (.istore 4, 2) := by decide +kernel
theorem dX9_spread_103 : decode cX9_spread 103 = .ok (.iload 4, 2) := by decide +kernel
theorem dX9_spread_105 : decode cX9_spread 105 = .ok (.sipush 576, 3) := by decide +kernel
theorem dX9_spread_108 : decode cX9_spread 108 = .ok (.if_icmp .ge 17, 3) := by decide +kernel
theorem dX9_spread_111 : decode cX9_spread 111 = .ok (.aload_n 0, 1) := by decide +kernel
theorem dX9_spread_112 : decode cX9_spread 112 = .ok (.getfield 62, 3) := by decide +kernel
theorem dX9_spread_115 : decode cX9_spread 115 = .ok (.iload 4, 2) := by decide +kernel
theorem dX9_spread_117 : decode cX9_spread 117 = .ok (.iconst 0, 1) := by decide +kernel
theorem dX9_spread_118 : decode cX9_spread 118 = .ok (.iastore, 1) := by decide +kernel
theorem dX9_spread_119 : decode cX9_spread 119 = .ok (.iinc 4 1, 3) := by decide +kernel
theorem dX9_spread_122 : decode cX9_spread 122 = .ok (.goto (-19), 3) := by decide +kernel
theorem dX9_spread_125 : decode cX9_spread 125 = .ok (.iconst 0, 1) := by decide +kernel
theorem dX9_spread_126 : decode cX9_spread 126 = .ok (.istore 4, 2) := by decide +kernel
theorem dX9_spread_128 : decode cX9_spread 128 = .ok (.aload_n 0, 1) := by decide +kernel
theorem dX9_spread_129 : decode cX9_spread 129 = .ok (.iconst 0, 1) := by decide +kernel
theorem dX9_spread_130 : decode cX9_spread 130 = .ok (.iload_n 1, 1) := by decide +kernel
theorem dX9_spread_131 : decode cX9_spread 131 = .ok (.invokevirtual 333, 3) := by decide +kernel
theorem dX9_spread_134 : decode cX9_spread 134 = .ok (.istore 5, 2) := by decide +kernel
theorem dX9_spread_136 : decode cX9_spread 136 = .ok (.iconst 1, 1) := by decide +kernel
theorem dX9_spread_137 : decode cX9_spread 137 = .ok (.istore 6, 2) := by decide +kernel
theorem dX9_spread_139 : decode cX9_spread 139 = .ok (.iload 6, 2) := by decide +kernel
theorem dX9_spread_141 : decode cX9_spread 141 = .ok (.iload_n 3, 1) := by decide +kernel
theorem dX9_spread_142 : decode cX9_spread 142 = .ok (.if_icmp .ge 33, 3) := by decide +kernel
theorem dX9_spread_145 : decode cX9_spread 145 = .ok (.aload_n 0, 1) := by decide +kernel
theorem dX9_spread_146 : decode cX9_spread 146 = .ok (.iload 6, 2) := by decide +kernel
theorem dX9_spread_148 : decode cX9_spread 148 = .ok (.iload_n 1, 1) := by decide +kernel
theorem dX9_spread_149 : decode cX9_spread 149 = .ok (.invokevirtual 333, 3) := by decide +kernel
theorem dX9_spread_152 : decode cX9_spread 152 = .ok (.istore 7, 2) := by decide +kernel
theorem dX9_spread_154 : decode cX9_spread 154 = .ok (.iload 7, 2) := by decide +kernel
theorem dX9_spread_156 : decode cX9_spread 156 = .ok (.iload 5, 2) := by decide +kernel
theorem dX9_spread_158 : decode cX9_spread 158 = .ok (.if_icmp .le 11, 3) := by decide +kernel
theorem dX9_spread_161 : decode cX9_spread 161 = .ok (.iload 6, 2) := by decide +kernel
theorem dX9_spread_163 : decode cX9_spread 163 = .ok (.istore 4, 2) := by decide +kernel
theorem dX9_spread_165 : decode cX9_spread 165 = .ok (.iload 7, 2) := by decide +kernel
theorem dX9_spread_167 : decode cX9_spread 167 = .ok (.istore 5, 2) := by decide +kernel
theorem dX9_spread_169 : decode cX9_spread 169 = .ok (.iinc 6 1, 3) := by decide +kernel
theorem dX9_spread_172 : decode cX9_spread 172 = .ok (.goto (-33), 3) := by decide +kernel
theorem dX9_spread_175 : decode cX9_spread 175 = .ok (.iload_n 2, 1) := by decide +kernel
theorem dX9_spread_176 : decode cX9_spread 176 = .ok (.iconst (-1), 1) := by decide +kernel
theorem dX9_spread_177 : decode cX9_spread 177 = .ok (.if_icmp .ne 8, 3) := by decide +kernel
theorem dX9_spread_180 : decode cX9_spread 180 = .ok (.iload 5, 2) := by decide +kernel
theorem dX9_spread_182 : decode cX9_spread 182 = .ok (.goto 10, 3) := by decide +kernel
theorem dX9_spread_185 : decode cX9_spread 185 = .ok (.iload 4, 2) := by decide +kernel
theorem dX9_spread_187 : decode cX9_spread 187 = .ok (.iload_n 1, 1) := by decide +kernel
theorem dX9_spread_188 : decode cX9_spread 188 = .ok (.iload_n 2, 1) := by decide +kernel
theorem dX9_spread_189 : decode cX9_spread 189 = .ok (.invokestatic 327, 3) := by decide +kernel
theorem dX9_spread_192 : decode cX9_spread 192 = .ok (.ireturn, 1) := by decide +kernel
theorem dX9_keepAway_0 : decode cX9_keepAway 0 = .ok (.iload_n 1, 1) := by decide +kernel
theorem dX9_keepAway_1 : decode cX9_keepAway 1 = .ok (.invokestatic 288, 3) := by decide +kernel
theorem dX9_keepAway_4 : decode cX9_keepAway 4 = .ok (.ifCond .ne 6, 3) := by decide +kernel
theorem dX9_keepAway_7 : decode cX9_keepAway 7 = .ok (.bipush (-2), 2) := by decide +kernel
theorem dX9_keepAway_9 : decode cX9_keepAway 9 = .ok (.ireturn, 1) := by decide +kernel
theorem dX9_keepAway_10 : decode cX9_keepAway 10 = .ok (.iconst (-1), 1) := by decide +kernel
theorem dX9_keepAway_11 : decode cX9_keepAway 11 = .ok (.istore_n 2, 1) := by decide +kernel
theorem dX9_keepAway_12 : decode cX9_keepAway 12 = .ok (.iconst 0, 1) := by decide +kernel
theorem dX9_keepAway_13 : decode cX9_keepAway 13 = .ok (.istore_n 3, 1) := by decide +kernel
theorem dX9_keepAway_14 : decode cX9_keepAway 14 = .ok (.iconst 0, 1) := by decide +kernel
theorem dX9_keepAway_15 : decode cX9_keepAway 15 = .ok (.istore 4, 2) := by decide +kernel
theorem dX9_keepAway_17 : decode cX9_keepAway 17 = .ok (.iload 4, 2) := by decide +kernel
theorem dX9_keepAway_19 : decode cX9_keepAway 19 = .ok (.aload_n 0, 1) := by decide +kernel
theorem dX9_keepAway_20 : decode cX9_keepAway 20 = .ok (.getfield 104, 3) := by decide +kernel
theorem dX9_keepAway_23 : decode cX9_keepAway 23 = .ok (.if_icmp .ge 63, 3) := by decide +kernel
theorem dX9_keepAway_26 : decode cX9_keepAway 26 = .ok (.aload_n 0, 1) := by decide +kernel
theorem dX9_keepAway_27 : decode cX9_keepAway 27 = .ok (.getfield 44, 3) := by decide +kernel
theorem dX9_keepAway_30 : decode cX9_keepAway 30 = .ok (.iload 4, 2) := by decide +kernel
theorem dX9_keepAway_32 : decode cX9_keepAway 32 = .ok (.iaload, 1) := by decide +kernel
theorem dX9_keepAway_33 : decode cX9_keepAway 33 = .ok (.iload_n 1, 1) := by decide +kernel
theorem dX9_keepAway_34 : decode cX9_keepAway 34 = .ok (.if_icmp .ne 46, 3) := by decide +kernel
theorem dX9_keepAway_37 : decode cX9_keepAway 37 = .ok (.aload_n 0, 1) := by decide +kernel
theorem dX9_keepAway_38 : decode cX9_keepAway 38 = .ok (.getfield 44, 3) := by decide +kernel
theorem dX9_keepAway_41 : decode cX9_keepAway 41 = .ok (.iload 4, 2) := by decide +kernel
theorem dX9_keepAway_43 : decode cX9_keepAway 43 = .ok (.iconst (-1), 1) := by decide +kernel
theorem dX9_keepAway_44 : decode cX9_keepAway 44 = .ok (.iastore, 1) := by decide +kernel
theorem dX9_keepAway_45 : decode cX9_keepAway 45 = .ok (.aload_n 0, 1) := by decide +kernel
theorem dX9_keepAway_46 : decode cX9_keepAway 46 = .ok (.iload_n 1, 1) := by decide +kernel
theorem dX9_keepAway_47 : decode cX9_keepAway 47 = .ok (.invokevirtual 291, 3) := by decide +kernel
theorem dX9_keepAway_50 : decode cX9_keepAway 50 = .ok (.invokestatic 268, 3) := by decide +kernel
theorem dX9_keepAway_53 : decode cX9_keepAway 53 = .ok (.istore 5, 2) := by decide +kernel
theorem dX9_keepAway_55 : decode cX9_keepAway 55 = .ok (.aload_n 0, 1) := by decide +kernel
theorem dX9_keepAway_56 : decode cX9_keepAway 56 = .ok (.getfield 44, 3) := by decide +kernel
theorem dX9_keepAway_59 : decode cX9_keepAway 59 = .ok (.iload 4, 2) := by decide +kernel
theorem dX9_keepAway_61 : decode cX9_keepAway 61 = .ok (.iload_n 1, 1) := by decide +kernel
theorem dX9_keepAway_62 : decode cX9_keepAway 62 = .ok (.iastore, 1) := by decide +kernel
theorem dX9_keepAway_63 : decode cX9_keepAway 63 = .ok (.iload_n 2, 1) := by decide +kernel
theorem dX9_keepAway_64 : decode cX9_keepAway 64 = .ok (.iconst (-1), 1) := by decide +kernel
theorem dX9_keepAway_65 : decode cX9_keepAway 65 = .ok (.if_icmp .eq 9, 3) := by decide +kernel
theorem dX9_keepAway_68 : decode cX9_keepAway 68 = .ok (.iload 5, 2) := by decide +kernel
theorem dX9_keepAway_70 : decode cX9_keepAway 70 = .ok (.iload_n 3, 1) := by decide +kernel
theorem dX9_keepAway_71 : decode cX9_keepAway 71 = .ok (.if_icmp .le 9, 3) := by decide +kernel
theorem dX9_keepAway_74 : decode cX9_keepAway 74 = .ok (.iload 4, 2) := by decide +kernel
theorem dX9_keepAway_76 : decode cX9_keepAway 76 = .ok (.istore_n 2, 1) := by decide +kernel
theorem dX9_keepAway_77 : decode cX9_keepAway 77 = .ok (.iload 5, 2) := by decide +kernel
theorem dX9_keepAway_79 : decode cX9_keepAway 79 = .ok (.istore_n 3, 1) := by decide +kernel
theorem dX9_keepAway_80 : decode cX9_keepAway 80 = .ok (.iinc 4 1, 3) := by decide +kernel
theorem dX9_keepAway_83 : decode cX9_keepAway 83 = .ok (.goto (-66), 3) := by decide +kernel
theorem dX9_keepAway_86 : decode cX9_keepAway 86 = .ok (.iload_n 2, 1) := by decide +kernel
theorem dX9_keepAway_87 : decode cX9_keepAway 87 = .ok (.ireturn, 1) := by decide +kernel
theorem dX9_send_0 : decode cX9_send 0 = .ok (.aload_n 0, 1) := by decide +kernel
theorem dX9_send_1 : decode cX9_send 1 = .ok (.iload_n 1, 1) := by decide +kernel
theorem dX9_send_2 : decode cX9_send 2 = .ok (.invokevirtual 127, 3) := by decide +kernel
theorem dX9_send_5 : decode cX9_send 5 = .ok (.ifCond .eq 13, 3) := by decide +kernel
theorem dX9_send_8 : decode cX9_send 8 = .ok (.iload_n 2, 1) := by decide +kernel
theorem dX9_send_9 : decode cX9_send 9 = .ok (.i2l, 1) := by decide +kernel
theorem dX9_send_10 : decode cX9_send 10 = .ok (.lconst 0, 1) := by decide +kernel
theorem dX9_send_11 : decode cX9_send 11 = .ok (.lconst 1, 1) := by decide +kernel
theorem dX9_send_12 : decode cX9_send 12 = .ok (.invokestatic 100, 3) := by decide +kernel
theorem dX9_send_15 : decode cX9_send 15 = .ok (.ifCond .ne 6, 3) := by decide +kernel
theorem dX9_send_18 : decode cX9_send 18 = .ok (.bipush (-2), 2) := by decide +kernel
theorem dX9_send_20 : decode cX9_send 20 = .ok (.ireturn, 1) := by decide +kernel
theorem dX9_send_21 : decode cX9_send 21 = .ok (.aload_n 0, 1) := by decide +kernel
theorem dX9_send_22 : decode cX9_send 22 = .ok (.getfield 44, 3) := by decide +kernel
theorem dX9_send_25 : decode cX9_send 25 = .ok (.iload_n 1, 1) := by decide +kernel
theorem dX9_send_26 : decode cX9_send 26 = .ok (.iaload, 1) := by decide +kernel
theorem dX9_send_27 : decode cX9_send 27 = .ok (.istore_n 3, 1) := by decide +kernel
theorem dX9_send_28 : decode cX9_send 28 = .ok (.iconst 0, 1) := by decide +kernel
theorem dX9_send_29 : decode cX9_send 29 = .ok (.istore 4, 2) := by decide +kernel
theorem dX9_send_31 : decode cX9_send 31 = .ok (.iconst (-1), 1) := by decide +kernel
theorem dX9_send_32 : decode cX9_send 32 = .ok (.istore 5, 2) := by decide +kernel
theorem dX9_send_34 : decode cX9_send 34 = .ok (.iconst 0, 1) := by decide +kernel
theorem dX9_send_35 : decode cX9_send 35 = .ok (.istore 6, 2) := by decide +kernel
theorem dX9_send_37 : decode cX9_send 37 = .ok (.iload 6, 2) := by decide +kernel
theorem dX9_send_39 : decode cX9_send 39 = .ok (.iconst 4, 1) := by decide +kernel
theorem dX9_send_40 : decode cX9_send 40 = .ok (.if_icmp .ge 83, 3) := by decide +kernel
theorem dX9_send_43 : decode cX9_send 43 = .ok (.aload_n 0, 1) := by decide +kernel
theorem dX9_send_44 : decode cX9_send 44 = .ok (.getfield 44, 3) := by decide +kernel
theorem dX9_send_47 : decode cX9_send 47 = .ok (.iload_n 1, 1) := by decide +kernel
theorem dX9_send_48 : decode cX9_send 48 = .ok (.iload 6, 2) := by decide +kernel
theorem dX9_send_50 : decode cX9_send 50 = .ok (.iastore, 1) := by decide +kernel
theorem dX9_send_51 : decode cX9_send 51 = .ok (.aload_n 0, 1) := by decide +kernel
theorem dX9_send_52 : decode cX9_send 52 = .ok (.iload 6, 2) := by decide +kernel
theorem dX9_send_54 : decode cX9_send 54 = .ok (.invokevirtual 278, 3) := by decide +kernel
theorem dX9_send_57 : decode cX9_send 57 = .ok (.istore 7, 2) := by decide +kernel
theorem dX9_send_59 : decode cX9_send 59 = .ok (.iconst 0, 1) := by decide +kernel
theorem dX9_send_60 : decode cX9_send 60 = .ok (.istore 8, 2) := by decide +kernel
theorem dX9_send_62 : decode cX9_send 62 = .ok (.iconst 0, 1) := by decide +kernel
theorem dX9_send_63 : decode cX9_send 63 = .ok (.istore 9, 2) := by decide +kernel
theorem dX9_send_65 : decode cX9_send 65 = .ok (.iload 9, 2) := by decide +kernel
theorem dX9_send_67 : decode cX9_send 67 = .ok (.aload_n 0, 1) := by decide +kernel
theorem dX9_send_68 : decode cX9_send 68 = .ok (.getfield 97, 3) := by decide +kernel
theorem dX9_send_71 : decode cX9_send 71 = .ok (.if_icmp .ge 31, 3) := by decide +kernel
theorem dX9_send_74 : decode cX9_send 74 = .ok (.iload 8, 2) := by decide +kernel
theorem dX9_send_76 : decode cX9_send 76 = .ok (.aload_n 0, 1) := by decide +kernel
theorem dX9_send_77 : decode cX9_send 77 = .ok (.iload_n 1, 1) := by decide +kernel
theorem dX9_send_78 : decode cX9_send 78 = .ok (.iload 9, 2) := by decide +kernel
theorem dX9_send_80 : decode cX9_send 80 = .ok (.iload 7, 2) := by decide +kernel
theorem dX9_send_82 : decode cX9_send 82 = .ok (.invokevirtual 281, 3) := by decide +kernel
theorem dX9_send_85 : decode cX9_send 85 = .ok (.ifCond .eq 7, 3) := by decide +kernel
theorem dX9_send_88 : decode cX9_send 88 = .ok (.iconst 1, 1) := by decide +kernel
theorem dX9_send_89 : decode cX9_send 89 = .ok (.goto 4, 3) := by decide +kernel
theorem dX9_send_92 : decode cX9_send 92 = .ok (.iconst 0, 1) := by decide +kernel
theorem dX9_send_93 : decode cX9_send 93 = .ok (.iadd, 1) := by decide +kernel
theorem dX9_send_94 : decode cX9_send 94 = .ok (.istore 8, 2) := by decide +kernel
theorem dX9_send_96 : decode cX9_send 96 = .ok (.iinc 9 1, 3) := by decide +kernel
theorem dX9_send_99 : decode cX9_send 99 = .ok (.goto (-34), 3) := by decide +kernel
theorem dX9_send_102 : decode cX9_send 102 = .ok (.iload 8, 2) := by decide +kernel
theorem dX9_send_104 : decode cX9_send 104 = .ok (.iload 5, 2) := by decide +kernel
theorem dX9_send_106 : decode cX9_send 106 = .ok (.if_icmp .le 11, 3) := by decide +kernel
theorem dX9_send_109 : decode cX9_send 109 = .ok (.iload 6, 2) := by decide +kernel
theorem dX9_send_111 : decode cX9_send 111 = .ok (.istore 4, 2) := by decide +kernel
theorem dX9_send_113 : decode cX9_send 113 = .ok (.iload 8, 2) := by decide +kernel
theorem dX9_send_115 : decode cX9_send 115 = .ok (.istore 5, 2) := by decide +kernel
theorem dX9_send_117 : decode cX9_send 117 = .ok (.iinc 6 1, 3) := by decide +kernel
theorem dX9_send_120 : decode cX9_send 120 = .ok (.goto (-83), 3) := by decide +kernel
theorem dX9_send_123 : decode cX9_send 123 = .ok (.aload_n 0, 1) := by decide +kernel
theorem dX9_send_124 : decode cX9_send 124 = .ok (.getfield 44, 3) := by decide +kernel
theorem dX9_send_127 : decode cX9_send 127 = .ok (.iload_n 1, 1) := by decide +kernel
theorem dX9_send_128 : decode cX9_send 128 = .ok (.iload_n 3, 1) := by decide +kernel
theorem dX9_send_129 : decode cX9_send 129 = .ok (.iastore, 1) := by decide +kernel
theorem dX9_send_130 : decode cX9_send 130 = .ok (.iload_n 2, 1) := by decide +kernel
theorem dX9_send_131 : decode cX9_send 131 = .ok (.ifCond .ne 8, 3) := by decide +kernel
theorem dX9_send_134 : decode cX9_send 134 = .ok (.iload 4, 2) := by decide +kernel
theorem dX9_send_136 : decode cX9_send 136 = .ok (.goto 5, 3) := by decide +kernel
theorem dX9_send_139 : decode cX9_send 139 = .ok (.iload 5, 2) := by decide +kernel
theorem dX9_send_141 : decode cX9_send 141 = .ok (.ireturn, 1) := by decide +kernel
theorem dX9_stranger_0 : decode cX9_stranger 0 = .ok (.iload_n 1, 1) := by decide +kernel
theorem dX9_stranger_1 : decode cX9_stranger 1 = .ok (.invokestatic 288, 3) := by decide +kernel
theorem dX9_stranger_4 : decode cX9_stranger 4 = .ok (.ifCond .eq 27, 3) := by decide +kernel
theorem dX9_stranger_7 : decode cX9_stranger 7 = .ok (.iload_n 2, 1) := by decide +kernel
theorem dX9_stranger_8 : decode cX9_stranger 8 = .ok (.i2l, 1) := by decide +kernel
theorem dX9_stranger_9 : decode cX9_stranger 9 = .ok (.lconst 0, 1) := by decide +kernel
theorem dX9_stranger_10 : decode cX9_stranger 10 = .ok (.ldc2_w 130, 3) := by decide +kernel
theorem dX9_stranger_13 : decode cX9_stranger 13 = .ok (.invokestatic 100, 3) := by decide +kernel
theorem dX9_stranger_16 : decode cX9_stranger 16 = .ok (.ifCond .eq 15, 3) := by decide +kernel
theorem dX9_stranger_19 : decode cX9_stranger 19 = .ok (.iload_n 3, 1) := by decide +kernel
theorem dX9_stranger_20 : decode cX9_stranger 20 = .ok (.i2l, 1) := by decide +kernel
theorem dX9_stranger_21 : decode cX9_stranger 21 = .ok (.lconst 0, 1) := by decide +kernel
theorem dX9_stranger_22 : decode cX9_stranger 22 = .ok (.ldc2_w 123, 3) := by decide +kernel
theorem dX9_stranger_25 : decode cX9_stranger 25 = .ok (.invokestatic 100, 3) := by decide +kernel
theorem dX9_stranger_28 : decode cX9_stranger 28 = .ok (.ifCond .ne 6, 3) := by decide +kernel
theorem dX9_stranger_31 : decode cX9_stranger 31 = .ok (.bipush (-2), 2) := by decide +kernel
theorem dX9_stranger_33 : decode cX9_stranger 33 = .ok (.ireturn, 1) := by decide +kernel
theorem dX9_stranger_34 : decode cX9_stranger 34 = .ok (.aload_n 0, 1) := by decide +kernel
theorem dX9_stranger_35 : decode cX9_stranger 35 = .ok (.iload_n 1, 1) := by decide +kernel
theorem dX9_stranger_36 : decode cX9_stranger 36 = .ok (.invokevirtual 291, 3) := by decide +kernel
theorem dX9_stranger_39 : decode cX9_stranger 39 = .ok (.invokestatic 268, 3) := by decide +kernel
theorem dX9_stranger_42 : decode cX9_stranger 42 = .ok (.istore 4, 2) := by decide +kernel
theorem dX9_stranger_44 : decode cX9_stranger 44 = .ok (.aload_n 0, 1) := by decide +kernel
theorem dX9_stranger_45 : decode cX9_stranger 45 = .ok (.getfield 44, 3) := by decide +kernel
theorem dX9_stranger_48 : decode cX9_stranger 48 = .ok (.aload_n 0, 1) := by decide +kernel
theorem dX9_stranger_49 : decode cX9_stranger 49 = .ok (.getfield 104, 3) := by decide +kernel
theorem dX9_stranger_52 : decode cX9_stranger 52 = .ok (.iload_n 1, 1) := by decide +kernel
theorem dX9_stranger_53 : decode cX9_stranger 53 = .ok (.iastore, 1) := by decide +kernel
theorem dX9_stranger_54 : decode cX9_stranger 54 = .ok (.aload_n 0, 1) := by decide +kernel
theorem dX9_stranger_55 : decode cX9_stranger 55 = .ok (.getfield 35, 3) := by decide +kernel
theorem dX9_stranger_58 : decode cX9_stranger 58 = .ok (.aload_n 0, 1) := by decide +kernel
theorem dX9_stranger_59 : decode cX9_stranger 59 = .ok (.getfield 104, 3) := by decide +kernel
theorem dX9_stranger_62 : decode cX9_stranger 62 = .ok (.iload_n 2, 1) := by decide +kernel
theorem dX9_stranger_63 : decode cX9_stranger 63 = .ok (.iastore, 1) := by decide +kernel
theorem dX9_stranger_64 : decode cX9_stranger 64 = .ok (.aload_n 0, 1) := by decide +kernel
theorem dX9_stranger_65 : decode cX9_stranger 65 = .ok (.getfield 38, 3) := by decide +kernel
theorem dX9_stranger_68 : decode cX9_stranger 68 = .ok (.aload_n 0, 1) := by decide +kernel
theorem dX9_stranger_69 : decode cX9_stranger 69 = .ok (.getfield 104, 3) := by decide +kernel
theorem dX9_stranger_72 : decode cX9_stranger 72 = .ok (.iload_n 3, 1) := by decide +kernel
theorem dX9_stranger_73 : decode cX9_stranger 73 = .ok (.iastore, 1) := by decide +kernel
theorem dX9_stranger_74 : decode cX9_stranger 74 = .ok (.aload_n 0, 1) := by decide +kernel
theorem dX9_stranger_75 : decode cX9_stranger 75 = .ok (.getfield 41, 3) := by decide +kernel
theorem dX9_stranger_78 : decode cX9_stranger 78 = .ok (.aload_n 0, 1) := by decide +kernel
theorem dX9_stranger_79 : decode cX9_stranger 79 = .ok (.getfield 104, 3) := by decide +kernel
theorem dX9_stranger_82 : decode cX9_stranger 82 = .ok (.iconst 0, 1) := by decide +kernel
theorem dX9_stranger_83 : decode cX9_stranger 83 = .ok (.iastore, 1) := by decide +kernel
theorem dX9_stranger_84 : decode cX9_stranger 84 = .ok (.aload_n 0, 1) := by decide +kernel
theorem dX9_stranger_85 : decode cX9_stranger 85 = .ok (.dup, 1) := by decide +kernel
theorem dX9_stranger_86 : decode cX9_stranger 86 = .ok (.getfield 104, 3) := by decide +kernel
theorem dX9_stranger_89 : decode cX9_stranger 89 = .ok (.iconst 1, 1) := by decide +kernel
theorem dX9_stranger_90 : decode cX9_stranger 90 = .ok (.iadd, 1) := by decide +kernel
theorem dX9_stranger_91 : decode cX9_stranger 91 = .ok (.putfield 104, 3) := by decide +kernel
theorem dX9_stranger_94 : decode cX9_stranger 94 = .ok (.aload_n 0, 1) := by decide +kernel
theorem dX9_stranger_95 : decode cX9_stranger 95 = .ok (.iload_n 1, 1) := by decide +kernel
theorem dX9_stranger_96 : decode cX9_stranger 96 = .ok (.invokevirtual 291, 3) := by decide +kernel
theorem dX9_stranger_99 : decode cX9_stranger 99 = .ok (.invokestatic 268, 3) := by decide +kernel
theorem dX9_stranger_102 : decode cX9_stranger 102 = .ok (.istore 5, 2) := by decide +kernel
theorem dX9_stranger_104 : decode cX9_stranger 104 = .ok (.aload_n 0, 1) := by decide +kernel
theorem dX9_stranger_105 : decode cX9_stranger 105 = .ok (.dup, 1) := by decide +kernel
theorem dX9_stranger_106 : decode cX9_stranger 106 = .ok (.getfield 104, 3) := by decide +kernel
theorem dX9_stranger_109 : decode cX9_stranger 109 = .ok (.iconst 1, 1) := by decide +kernel
theorem dX9_stranger_110 : decode cX9_stranger 110 = .ok (.isub, 1) := by decide +kernel
theorem dX9_stranger_111 : decode cX9_stranger 111 = .ok (.putfield 104, 3) := by decide +kernel
theorem dX9_stranger_114 : decode cX9_stranger 114 = .ok (.iload 5, 2) := by decide +kernel
theorem dX9_stranger_116 : decode cX9_stranger 116 = .ok (.iload 4, 2) := by decide +kernel
theorem dX9_stranger_118 : decode cX9_stranger 118 = .ok (.isub, 1) := by decide +kernel
theorem dX9_stranger_119 : decode cX9_stranger 119 = .ok (.ireturn, 1) := by decide +kernel
theorem dX9_left_0 : decode cX9_left 0 = .ok (.iconst 1, 1) := by decide +kernel
theorem dX9_left_1 : decode cX9_left 1 = .ok (.aload_n 0, 1) := by decide +kernel
theorem dX9_left_2 : decode cX9_left 2 = .ok (.getfield 97, 3) := by decide +kernel
theorem dX9_left_5 : decode cX9_left 5 = .ok (.ishl, 1) := by decide +kernel
theorem dX9_left_6 : decode cX9_left 6 = .ok (.iconst 1, 1) := by decide +kernel
theorem dX9_left_7 : decode cX9_left 7 = .ok (.isub, 1) := by decide +kernel
theorem dX9_left_8 : decode cX9_left 8 = .ok (.istore_n 1, 1) := by decide +kernel
theorem dX9_left_9 : decode cX9_left 9 = .ok (.iconst 0, 1) := by decide +kernel
theorem dX9_left_10 : decode cX9_left 10 = .ok (.istore_n 2, 1) := by decide +kernel
theorem dX9_left_11 : decode cX9_left 11 = .ok (.iload_n 2, 1) := by decide +kernel
theorem dX9_left_12 : decode cX9_left 12 = .ok (.aload_n 0, 1) := by decide +kernel
theorem dX9_left_13 : decode cX9_left 13 = .ok (.getfield 104, 3) := by decide +kernel
theorem dX9_left_16 : decode cX9_left 16 = .ok (.if_icmp .ge 19, 3) := by decide +kernel
theorem dX9_left_19 : decode cX9_left 19 = .ok (.iload_n 1, 1) := by decide +kernel
theorem dX9_left_20 : decode cX9_left 20 = .ok (.aload_n 0, 1) := by decide +kernel
theorem dX9_left_21 : decode cX9_left 21 = .ok (.iload_n 2, 1) := by decide +kernel
theorem dX9_left_22 : decode cX9_left 22 = .ok (.invokevirtual 145, 3) := by decide +kernel
theorem dX9_left_25 : decode cX9_left 25 = .ok (.iconst (-1), 1) := by decide +kernel
theorem dX9_left_26 : decode cX9_left 26 = .ok (.ixor, 1) := by decide +kernel
theorem dX9_left_27 : decode cX9_left 27 = .ok (.iand, 1) := by decide +kernel
theorem dX9_left_28 : decode cX9_left 28 = .ok (.istore_n 1, 1) := by decide +kernel
theorem dX9_left_29 : decode cX9_left 29 = .ok (.iinc 2 1, 3) := by decide +kernel
theorem dX9_left_32 : decode cX9_left 32 = .ok (.goto (-21), 3) := by decide +kernel
theorem dX9_left_35 : decode cX9_left 35 = .ok (.iload_n 1, 1) := by decide +kernel
theorem dX9_left_36 : decode cX9_left 36 = .ok (.ireturn, 1) := by decide +kernel
theorem dX9_judge_0 : decode cX9_judge 0 = .ok (.iload_n 1, 1) := by decide +kernel
theorem dX9_judge_1 : decode cX9_judge 1 = .ok (.invokestatic 336, 3) := by decide +kernel
theorem dX9_judge_4 : decode cX9_judge 4 = .ok (.ifCond .ne 6, 3) := by decide +kernel
theorem dX9_judge_7 : decode cX9_judge 7 = .ok (.bipush (-2), 2) := by decide +kernel
theorem dX9_judge_9 : decode cX9_judge 9 = .ok (.ireturn, 1) := by decide +kernel
theorem dX9_judge_10 : decode cX9_judge 10 = .ok (.aload_n 0, 1) := by decide +kernel
theorem dX9_judge_11 : decode cX9_judge 11 = .ok (.getfield 77, 3) := by decide +kernel
theorem dX9_judge_14 : decode cX9_judge 14 = .ok (.iload_n 1, 1) := by decide +kernel
theorem dX9_judge_15 : decode cX9_judge 15 = .ok (.baload, 1) := by decide +kernel
theorem dX9_judge_16 : decode cX9_judge 16 = .ok (.ifCond .ne 6, 3) := by decide +kernel
theorem dX9_judge_19 : decode cX9_judge 19 = .ok (.bipush (-11), 2) := by decide +kernel
theorem dX9_judge_21 : decode cX9_judge 21 = .ok (.ireturn, 1) := by decide +kernel
theorem dX9_judge_22 : decode cX9_judge 22 = .ok (.aload_n 0, 1) := by decide +kernel
theorem dX9_judge_23 : decode cX9_judge 23 = .ok (.getfield 84, 3) := by decide +kernel
theorem dX9_judge_26 : decode cX9_judge 26 = .ok (.iload_n 1, 1) := by decide +kernel
theorem dX9_judge_27 : decode cX9_judge 27 = .ok (.iaload, 1) := by decide +kernel
theorem dX9_judge_28 : decode cX9_judge 28 = .ok (.iconst 2, 1) := by decide +kernel
theorem dX9_judge_29 : decode cX9_judge 29 = .ok (.irem, 1) := by decide +kernel
theorem dX9_judge_30 : decode cX9_judge 30 = .ok (.iconst 1, 1) := by decide +kernel
theorem dX9_judge_31 : decode cX9_judge 31 = .ok (.if_icmp .ne 6, 3) := by decide +kernel
theorem dX9_judge_34 : decode cX9_judge 34 = .ok (.bipush (-2), 2) := by decide +kernel
theorem dX9_judge_36 : decode cX9_judge 36 = .ok (.ireturn, 1) := by decide +kernel
theorem dX9_judge_37 : decode cX9_judge 37 = .ok (.aload_n 0, 1) := by decide +kernel
theorem dX9_judge_38 : decode cX9_judge 38 = .ok (.invokevirtual 318, 3) := by decide +kernel
theorem dX9_judge_41 : decode cX9_judge 41 = .ok (.iconst (-1), 1) := by decide +kernel
theorem dX9_judge_42 : decode cX9_judge 42 = .ok (.istore_n 2, 1) := by decide +kernel
theorem dX9_judge_43 : decode cX9_judge 43 = .ok (.iconst 0, 1) := by decide +kernel
theorem dX9_judge_44 : decode cX9_judge 44 = .ok (.istore_n 3, 1) := by decide +kernel
theorem dX9_judge_45 : decode cX9_judge 45 = .ok (.iload_n 3, 1) := by decide +kernel
theorem dX9_judge_46 : decode cX9_judge 46 = .ok (.aload_n 0, 1) := by decide +kernel
theorem dX9_judge_47 : decode cX9_judge 47 = .ok (.getfield 84, 3) := by decide +kernel
theorem dX9_judge_50 : decode cX9_judge 50 = .ok (.iload_n 1, 1) := by decide +kernel
theorem dX9_judge_51 : decode cX9_judge 51 = .ok (.iaload, 1) := by decide +kernel
theorem dX9_judge_52 : decode cX9_judge 52 = .ok (.iconst 2, 1) := by decide +kernel
theorem dX9_judge_53 : decode cX9_judge 53 = .ok (.idiv, 1) := by decide +kernel
theorem dX9_judge_54 : decode cX9_judge 54 = .ok (.if_icmp .ge 99, 3) := by decide +kernel
theorem dX9_judge_57 : decode cX9_judge 57 = .ok (.iload_n 2, 1) := by decide +kernel
theorem dX9_judge_58 : decode cX9_judge 58 = .ok (.iconst (-1), 1) := by decide +kernel
theorem dX9_judge_59 : decode cX9_judge 59 = .ok (.if_icmp .ne 94, 3) := by decide +kernel
theorem dX9_judge_62 : decode cX9_judge 62 = .ok (.aload_n 0, 1) := by decide +kernel
theorem dX9_judge_63 : decode cX9_judge 63 = .ok (.getfield 87, 3) := by decide +kernel
theorem dX9_judge_66 : decode cX9_judge 66 = .ok (.bipush 40, 2) := by decide +kernel
theorem dX9_judge_68 : decode cX9_judge 68 = .ok (.iload_n 1, 1) := by decide +kernel
theorem dX9_judge_69 : decode cX9_judge 69 = .ok (.imul, 1) := by decide +kernel
theorem dX9_judge_70 : decode cX9_judge 70 = .ok (.iconst 2, 1) := by decide +kernel
theorem dX9_judge_71 : decode cX9_judge 71 = .ok (.iload_n 3, 1) := by decide +kernel
theorem dX9_judge_72 : decode cX9_judge 72 = .ok (.imul, 1) := by decide +kernel
theorem dX9_judge_73 : decode cX9_judge 73 = .ok (.iadd, 1) := by decide +kernel
theorem dX9_judge_74 : decode cX9_judge 74 = .ok (.iaload, 1) := by decide +kernel
theorem dX9_judge_75 : decode cX9_judge 75 = .ok (.istore 4, 2) := by decide +kernel
theorem dX9_judge_77 : decode cX9_judge 77 = .ok (.aload_n 0, 1) := by decide +kernel
theorem dX9_judge_78 : decode cX9_judge 78 = .ok (.getfield 87, 3) := by decide +kernel
theorem dX9_judge_81 : decode cX9_judge 81 = .ok (.bipush 40, 2) := by decide +kernel
theorem dX9_judge_83 : decode cX9_judge 83 = .ok (.iload_n 1, 1) := by decide +kernel
theorem dX9_judge_84 : decode cX9_judge 84 = .ok (.imul, 1) := by decide +kernel
theorem dX9_judge_85 : decode cX9_judge 85 = .ok (.iconst 2, 1) := by decide +kernel
theorem dX9_judge_86 : decode cX9_judge 86 = .ok (.iload_n 3, 1) := by decide +kernel
theorem dX9_judge_87 : decode cX9_judge 87 = .ok (.imul, 1) := by decide +kernel
theorem dX9_judge_88 : decode cX9_judge 88 = .ok (.iadd, 1) := by decide +kernel
theorem dX9_judge_89 : decode cX9_judge 89 = .ok (.iconst 1, 1) := by decide +kernel
theorem dX9_judge_90 : decode cX9_judge 90 = .ok (.iadd, 1) := by decide +kernel
theorem dX9_judge_91 : decode cX9_judge 91 = .ok (.iaload, 1) := by decide +kernel
theorem dX9_judge_92 : decode cX9_judge 92 = .ok (.istore 5, 2) := by decide +kernel
theorem dX9_judge_94 : decode cX9_judge 94 = .ok (.iload 4, 2) := by decide +kernel
theorem dX9_judge_96 : decode cX9_judge 96 = .ok (.invokestatic 288, 3) := by decide +kernel
theorem dX9_judge_99 : decode cX9_judge 99 = .ok (.ifCond .eq 23, 3) := by decide +kernel
theorem dX9_judge_102 : decode cX9_judge 102 = .ok (.aload_n 0, 1) := by decide +kernel
theorem dX9_judge_103 : decode cX9_judge 103 = .ok (.iload 5, 2) := by decide +kernel
theorem dX9_judge_105 : decode cX9_judge 105 = .ok (.invokevirtual 113, 3) := by decide +kernel
theorem dX9_judge_108 : decode cX9_judge 108 = .ok (.ifCond .eq 14, 3) := by decide +kernel
theorem dX9_judge_111 : decode cX9_judge 111 = .ok (.aload_n 0, 1) := by decide +kernel
theorem dX9_judge_112 : decode cX9_judge 112 = .ok (.iload 4, 2) := by decide +kernel
theorem dX9_judge_114 : decode cX9_judge 114 = .ok (.iload 5, 2) := by decide +kernel
theorem dX9_judge_116 : decode cX9_judge 116 = .ok (.invokevirtual 285, 3) := by decide +kernel
theorem dX9_judge_119 : decode cX9_judge 119 = .ok (.goto 4, 3) := by decide +kernel
theorem dX9_judge_122 : decode cX9_judge 122 = .ok (.iconst (-1), 1) := by decide +kernel
theorem dX9_judge_123 : decode cX9_judge 123 = .ok (.istore 6, 2) := by decide +kernel
theorem dX9_judge_125 : decode cX9_judge 125 = .ok (.iload 6, 2) := by decide +kernel
theorem dX9_judge_127 : decode cX9_judge 127 = .ok (.iconst (-1), 1) := by decide +kernel
theorem dX9_judge_128 : decode cX9_judge 128 = .ok (.if_icmp .ne 8, 3) := by decide +kernel
theorem dX9_judge_131 : decode cX9_judge 131 = .ok (.iload_n 3, 1) := by decide +kernel
theorem dX9_judge_132 : decode cX9_judge 132 = .ok (.istore_n 2, 1) := by decide +kernel
theorem dX9_judge_133 : decode cX9_judge 133 = .ok (.goto 14, 3) := by decide +kernel
theorem dX9_judge_136 : decode cX9_judge 136 = .ok (.aload_n 0, 1) := by decide +kernel
theorem dX9_judge_137 : decode cX9_judge 137 = .ok (.iload 4, 2) := by decide +kernel
theorem dX9_judge_139 : decode cX9_judge 139 = .ok (.iload 5, 2) := by decide +kernel
theorem dX9_judge_141 : decode cX9_judge 141 = .ok (.iload 6, 2) := by decide +kernel
theorem dX9_judge_143 : decode cX9_judge 143 = .ok (.invokevirtual 309, 3) := by decide +kernel
theorem dX9_judge_146 : decode cX9_judge 146 = .ok (.pop, 1) := by decide +kernel
theorem dX9_judge_147 : decode cX9_judge 147 = .ok (.iinc 3 1, 3) := by decide +kernel
theorem dX9_judge_150 : decode cX9_judge 150 = .ok (.goto (-105), 3) := by decide +kernel
theorem dX9_judge_153 : decode cX9_judge 153 = .ok (.aload_n 0, 1) := by decide +kernel
theorem dX9_judge_154 : decode cX9_judge 154 = .ok (.invokevirtual 315, 3) := by decide +kernel
theorem dX9_judge_157 : decode cX9_judge 157 = .ok (.iload_n 2, 1) := by decide +kernel
theorem dX9_judge_158 : decode cX9_judge 158 = .ok (.ireturn, 1) := by decide +kernel
theorem dX9_drawn_0 : decode cX9_drawn 0 = .ok (.iload_n 2, 1) := by decide +kernel
theorem dX9_drawn_1 : decode cX9_drawn 1 = .ok (.i2l, 1) := by decide +kernel
theorem dX9_drawn_2 : decode cX9_drawn 2 = .ok (.lconst 0, 1) := by decide +kernel
theorem dX9_drawn_3 : decode cX9_drawn 3 = .ok (.ldc2_w 339, 3) := by decide +kernel
theorem dX9_drawn_6 : decode cX9_drawn 6 = .ok (.invokestatic 100, 3) := by decide +kernel
theorem dX9_drawn_9 : decode cX9_drawn 9 = .ok (.ifCond .ne 6, 3) := by decide +kernel
theorem dX9_drawn_12 : decode cX9_drawn 12 = .ok (.bipush (-2), 2) := by decide +kernel
theorem dX9_drawn_14 : decode cX9_drawn 14 = .ok (.ireturn, 1) := by decide +kernel
theorem dX9_drawn_15 : decode cX9_drawn 15 = .ok (.aload_n 0, 1) := by decide +kernel
theorem dX9_drawn_16 : decode cX9_drawn 16 = .ok (.invokevirtual 318, 3) := by decide +kernel
theorem dX9_drawn_19 : decode cX9_drawn 19 = .ok (.iload_n 1, 1) := by decide +kernel
theorem dX9_drawn_20 : decode cX9_drawn 20 = .ok (.istore_n 3, 1) := by decide +kernel
theorem dX9_drawn_21 : decode cX9_drawn 21 = .ok (.iconst 0, 1) := by decide +kernel
theorem dX9_drawn_22 : decode cX9_drawn 22 = .ok (.istore 4, 2) := by decide +kernel
theorem dX9_drawn_24 : decode cX9_drawn 24 = .ok (.iconst 0, 1) := by decide +kernel
theorem dX9_drawn_25 : decode cX9_drawn 25 = .ok (.istore 5, 2) := by decide +kernel
theorem dX9_drawn_27 : decode cX9_drawn 27 = .ok (.iload 5, 2) := by decide +kernel
theorem dX9_drawn_29 : decode cX9_drawn 29 = .ok (.iload_n 2, 1) := by decide +kernel
theorem dX9_drawn_30 : decode cX9_drawn 30 = .ok (.if_icmp .ge 104, 3) := by decide +kernel
theorem dX9_drawn_33 : decode cX9_drawn 33 = .ok (.iconst 0, 1) := by decide +kernel
theorem dX9_drawn_34 : decode cX9_drawn 34 = .ok (.istore 6, 2) := by decide +kernel
theorem dX9_drawn_36 : decode cX9_drawn 36 = .ok (.iload 6, 2) := by decide +kernel
theorem dX9_drawn_38 : decode cX9_drawn 38 = .ok (.aload_n 0, 1) := by decide +kernel
theorem dX9_drawn_39 : decode cX9_drawn 39 = .ok (.getfield 104, 3) := by decide +kernel
theorem dX9_drawn_42 : decode cX9_drawn 42 = .ok (.if_icmp .ge 32, 3) := by decide +kernel
theorem dX9_drawn_45 : decode cX9_drawn 45 = .ok (.iload_n 3, 1) := by decide +kernel
theorem dX9_drawn_46 : decode cX9_drawn 46 = .ok (.ldc_w 341, 3) := by decide +kernel
theorem dX9_drawn_49 : decode cX9_drawn 49 = .ok (.imul, 1) := by decide +kernel
theorem dX9_drawn_50 : decode cX9_drawn 50 = .ok (.sipush 12345, 3) := by decide +kernel
theorem dX9_drawn_53 : decode cX9_drawn 53 = .ok (.iadd, 1) := by decide +kernel
theorem dX9_drawn_54 : decode cX9_drawn 54 = .ok (.istore_n 3, 1) := by decide +kernel
theorem dX9_drawn_55 : decode cX9_drawn 55 = .ok (.aload_n 0, 1) := by decide +kernel
theorem dX9_drawn_56 : decode cX9_drawn 56 = .ok (.getfield 44, 3) := by decide +kernel
theorem dX9_drawn_59 : decode cX9_drawn 59 = .ok (.iload 6, 2) := by decide +kernel
theorem dX9_drawn_61 : decode cX9_drawn 61 = .ok (.iload_n 3, 1) := by decide +kernel
theorem dX9_drawn_62 : decode cX9_drawn 62 = .ok (.bipush 8, 2) := by decide +kernel
theorem dX9_drawn_64 : decode cX9_drawn 64 = .ok (.iushr, 1) := by decide +kernel
theorem dX9_drawn_65 : decode cX9_drawn 65 = .ok (.iconst 4, 1) := by decide +kernel
theorem dX9_drawn_66 : decode cX9_drawn 66 = .ok (.irem, 1) := by decide +kernel
theorem dX9_drawn_67 : decode cX9_drawn 67 = .ok (.iastore, 1) := by decide +kernel
theorem dX9_drawn_68 : decode cX9_drawn 68 = .ok (.iinc 6 1, 3) := by decide +kernel
theorem dX9_drawn_71 : decode cX9_drawn 71 = .ok (.goto (-35), 3) := by decide +kernel
theorem dX9_drawn_74 : decode cX9_drawn 74 = .ok (.iconst 0, 1) := by decide +kernel
theorem dX9_drawn_75 : decode cX9_drawn 75 = .ok (.istore 6, 2) := by decide +kernel
theorem dX9_drawn_77 : decode cX9_drawn 77 = .ok (.iload 6, 2) := by decide +kernel
theorem dX9_drawn_79 : decode cX9_drawn 79 = .ok (.iconst 4, 1) := by decide +kernel
theorem dX9_drawn_80 : decode cX9_drawn 80 = .ok (.if_icmp .ge 43, 3) := by decide +kernel
theorem dX9_drawn_83 : decode cX9_drawn 83 = .ok (.aload_n 0, 1) := by decide +kernel
theorem dX9_drawn_84 : decode cX9_drawn 84 = .ok (.iload 6, 2) := by decide +kernel
theorem dX9_drawn_86 : decode cX9_drawn 86 = .ok (.invokevirtual 306, 3) := by decide +kernel
theorem dX9_drawn_89 : decode cX9_drawn 89 = .ok (.istore 7, 2) := by decide +kernel
theorem dX9_drawn_91 : decode cX9_drawn 91 = .ok (.iload 7, 2) := by decide +kernel
theorem dX9_drawn_93 : decode cX9_drawn 93 = .ok (.iconst (-1), 1) := by decide +kernel
theorem dX9_drawn_94 : decode cX9_drawn 94 = .ok (.if_icmp .eq 23, 3) := by decide +kernel
theorem dX9_drawn_97 : decode cX9_drawn 97 = .ok (.aload_n 0, 1) := by decide +kernel
theorem dX9_drawn_98 : decode cX9_drawn 98 = .ok (.iload 6, 2) := by decide +kernel
theorem dX9_drawn_100 : decode cX9_drawn 100 = .ok (.iload 7, 2) := by decide +kernel
theorem dX9_drawn_102 : decode cX9_drawn 102 = .ok (.aload_n 0, 1) := by decide +kernel
theorem dX9_drawn_103 : decode cX9_drawn 103 = .ok (.iload 6, 2) := by decide +kernel
theorem dX9_drawn_105 : decode cX9_drawn 105 = .ok (.iload 7, 2) := by decide +kernel
theorem dX9_drawn_107 : decode cX9_drawn 107 = .ok (.invokevirtual 285, 3) := by decide +kernel
theorem dX9_drawn_110 : decode cX9_drawn 110 = .ok (.invokevirtual 309, 3) := by decide +kernel
theorem dX9_drawn_113 : decode cX9_drawn 113 = .ok (.pop, 1) := by decide +kernel
theorem dX9_drawn_114 : decode cX9_drawn 114 = .ok (.iinc 4 1, 3) := by decide +kernel
theorem dX9_drawn_117 : decode cX9_drawn 117 = .ok (.iinc 6 1, 3) := by decide +kernel
theorem dX9_drawn_120 : decode cX9_drawn 120 = .ok (.goto (-43), 3) := by decide +kernel
theorem dX9_drawn_123 : decode cX9_drawn 123 = .ok (.aload_n 0, 1) := by decide +kernel
theorem dX9_drawn_124 : decode cX9_drawn 124 = .ok (.invokevirtual 342, 3) := by decide +kernel
theorem dX9_drawn_127 : decode cX9_drawn 127 = .ok (.pop, 1) := by decide +kernel
theorem dX9_drawn_128 : decode cX9_drawn 128 = .ok (.iinc 5 1, 3) := by decide +kernel
theorem dX9_drawn_131 : decode cX9_drawn 131 = .ok (.goto (-104), 3) := by decide +kernel
theorem dX9_drawn_134 : decode cX9_drawn 134 = .ok (.aload_n 0, 1) := by decide +kernel
theorem dX9_drawn_135 : decode cX9_drawn 135 = .ok (.invokevirtual 315, 3) := by decide +kernel
theorem dX9_drawn_138 : decode cX9_drawn 138 = .ok (.iload 4, 2) := by decide +kernel
theorem dX9_drawn_140 : decode cX9_drawn 140 = .ok (.ireturn, 1) := by decide +kernel
theorem dX9_image_0 : decode cX9_image 0 = .ok (.iconst 0, 1) := by decide +kernel
theorem dX9_image_1 : decode cX9_image 1 = .ok (.istore_n 1, 1) := by decide +kernel
theorem dX9_image_2 : decode cX9_image 2 = .ok (.iload_n 1, 1) := by decide +kernel
theorem dX9_image_3 : decode cX9_image 3 = .ok (.bipush 8, 2) := by decide +kernel
theorem dX9_image_5 : decode cX9_image 5 = .ok (.if_icmp .ge 33, 3) := by decide +kernel
theorem dX9_image_8 : decode cX9_image 8 = .ok (.aload_n 0, 1) := by decide +kernel
theorem dX9_image_9 : decode cX9_image 9 = .ok (.getfield 65, 3) := by decide +kernel
theorem dX9_image_12 : decode cX9_image 12 = .ok (.iload_n 1, 1) := by decide +kernel
theorem dX9_image_13 : decode cX9_image 13 = .ok (.aload_n 0, 1) := by decide +kernel
theorem dX9_image_14 : decode cX9_image 14 = .ok (.getfield 41, 3) := by decide +kernel
theorem dX9_image_17 : decode cX9_image 17 = .ok (.iload_n 1, 1) := by decide +kernel
theorem dX9_image_18 : decode cX9_image 18 = .ok (.iaload, 1) := by decide +kernel
theorem dX9_image_19 : decode cX9_image 19 = .ok (.iastore, 1) := by decide +kernel
theorem dX9_image_20 : decode cX9_image 20 = .ok (.aload_n 0, 1) := by decide +kernel
theorem dX9_image_21 : decode cX9_image 21 = .ok (.getfield 68, 3) := by decide +kernel
theorem dX9_image_24 : decode cX9_image 24 = .ok (.iload_n 1, 1) := by decide +kernel
theorem dX9_image_25 : decode cX9_image 25 = .ok (.aload_n 0, 1) := by decide +kernel
theorem dX9_image_26 : decode cX9_image 26 = .ok (.getfield 44, 3) := by decide +kernel
theorem dX9_image_29 : decode cX9_image 29 = .ok (.iload_n 1, 1) := by decide +kernel
theorem dX9_image_30 : decode cX9_image 30 = .ok (.iaload, 1) := by decide +kernel
theorem dX9_image_31 : decode cX9_image 31 = .ok (.iastore, 1) := by decide +kernel
theorem dX9_image_32 : decode cX9_image 32 = .ok (.iinc 1 1, 3) := by decide +kernel
theorem dX9_image_35 : decode cX9_image 35 = .ok (.goto (-33), 3) := by decide +kernel
theorem dX9_image_38 : decode cX9_image 38 = .ok (.iconst 0, 1) := by decide +kernel
theorem dX9_image_39 : decode cX9_image 39 = .ok (.istore_n 1, 1) := by decide +kernel
theorem dX9_image_40 : decode cX9_image 40 = .ok (.iload_n 1, 1) := by decide +kernel
theorem dX9_image_41 : decode cX9_image 41 = .ok (.bipush 64, 2) := by decide +kernel
theorem dX9_image_43 : decode cX9_image 43 = .ok (.if_icmp .ge 21, 3) := by decide +kernel
theorem dX9_image_46 : decode cX9_image 46 = .ok (.aload_n 0, 1) := by decide +kernel
theorem dX9_image_47 : decode cX9_image 47 = .ok (.getfield 71, 3) := by decide +kernel
theorem dX9_image_50 : decode cX9_image 50 = .ok (.iload_n 1, 1) := by decide +kernel
theorem dX9_image_51 : decode cX9_image 51 = .ok (.aload_n 0, 1) := by decide +kernel
theorem dX9_image_52 : decode cX9_image 52 = .ok (.getfield 47, 3) := by decide +kernel
theorem dX9_image_55 : decode cX9_image 55 = .ok (.iload_n 1, 1) := by decide +kernel
theorem dX9_image_56 : decode cX9_image 56 = .ok (.iaload, 1) := by decide +kernel
theorem dX9_image_57 : decode cX9_image 57 = .ok (.iastore, 1) := by decide +kernel
theorem dX9_image_58 : decode cX9_image 58 = .ok (.iinc 1 1, 3) := by decide +kernel
theorem dX9_image_61 : decode cX9_image 61 = .ok (.goto (-21), 3) := by decide +kernel
theorem dX9_image_64 : decode cX9_image 64 = .ok (.aload_n 0, 1) := by decide +kernel
theorem dX9_image_65 : decode cX9_image 65 = .ok (.aload_n 0, 1) := by decide +kernel
theorem dX9_image_66 : decode cX9_image 66 = .ok (.getfield 104, 3) := by decide +kernel
theorem dX9_image_69 : decode cX9_image 69 = .ok (.putfield 74, 3) := by decide +kernel
theorem dX9_image_72 : decode cX9_image 72 = .ok (.aload_n 0, 1) := by decide +kernel
theorem dX9_image_73 : decode cX9_image 73 = .ok (.aload_n 0, 1) := by decide +kernel
theorem dX9_image_74 : decode cX9_image 74 = .ok (.getfield 132, 3) := by decide +kernel
theorem dX9_image_77 : decode cX9_image 77 = .ok (.putfield 345, 3) := by decide +kernel
theorem dX9_image_80 : decode cX9_image 80 = .ok (.aload_n 0, 1) := by decide +kernel
theorem dX9_image_81 : decode cX9_image 81 = .ok (.aload_n 0, 1) := by decide +kernel
theorem dX9_image_82 : decode cX9_image 82 = .ok (.getfield 265, 3) := by decide +kernel
theorem dX9_image_85 : decode cX9_image 85 = .ok (.putfield 348, 3) := by decide +kernel
theorem dX9_image_88 : decode cX9_image 88 = .ok (.aload_n 0, 1) := by decide +kernel
theorem dX9_image_89 : decode cX9_image 89 = .ok (.getfield 132, 3) := by decide +kernel
theorem dX9_image_92 : decode cX9_image 92 = .ok (.ireturn, 1) := by decide +kernel
theorem dX9_back_0 : decode cX9_back 0 = .ok (.aload_n 0, 1) := by decide +kernel
theorem dX9_back_1 : decode cX9_back 1 = .ok (.getfield 74, 3) := by decide +kernel
theorem dX9_back_4 : decode cX9_back 4 = .ok (.iconst (-1), 1) := by decide +kernel
theorem dX9_back_5 : decode cX9_back 5 = .ok (.if_icmp .ne 6, 3) := by decide +kernel
theorem dX9_back_8 : decode cX9_back 8 = .ok (.bipush (-3), 2) := by decide +kernel
theorem dX9_back_10 : decode cX9_back 10 = .ok (.ireturn, 1) := by decide +kernel
theorem dX9_back_11 : decode cX9_back 11 = .ok (.iconst 0, 1) := by decide +kernel
theorem dX9_back_12 : decode cX9_back 12 = .ok (.istore_n 1, 1) := by decide +kernel
theorem dX9_back_13 : decode cX9_back 13 = .ok (.iload_n 1, 1) := by decide +kernel
theorem dX9_back_14 : decode cX9_back 14 = .ok (.aload_n 0, 1) := by decide +kernel
theorem dX9_back_15 : decode cX9_back 15 = .ok (.getfield 74, 3) := by decide +kernel
theorem dX9_back_18 : decode cX9_back 18 = .ok (.if_icmp .ge 33, 3) := by decide +kernel
theorem dX9_back_21 : decode cX9_back 21 = .ok (.aload_n 0, 1) := by decide +kernel
theorem dX9_back_22 : decode cX9_back 22 = .ok (.getfield 41, 3) := by decide +kernel
theorem dX9_back_25 : decode cX9_back 25 = .ok (.iload_n 1, 1) := by decide +kernel
theorem dX9_back_26 : decode cX9_back 26 = .ok (.aload_n 0, 1) := by decide +kernel
theorem dX9_back_27 : decode cX9_back 27 = .ok (.getfield 65, 3) := by decide +kernel
theorem dX9_back_30 : decode cX9_back 30 = .ok (.iload_n 1, 1) := by decide +kernel
theorem dX9_back_31 : decode cX9_back 31 = .ok (.iaload, 1) := by decide +kernel
theorem dX9_back_32 : decode cX9_back 32 = .ok (.iastore, 1) := by decide +kernel
theorem dX9_back_33 : decode cX9_back 33 = .ok (.aload_n 0, 1) := by decide +kernel
theorem dX9_back_34 : decode cX9_back 34 = .ok (.getfield 44, 3) := by decide +kernel
theorem dX9_back_37 : decode cX9_back 37 = .ok (.iload_n 1, 1) := by decide +kernel
theorem dX9_back_38 : decode cX9_back 38 = .ok (.aload_n 0, 1) := by decide +kernel
theorem dX9_back_39 : decode cX9_back 39 = .ok (.getfield 68, 3) := by decide +kernel
theorem dX9_back_42 : decode cX9_back 42 = .ok (.iload_n 1, 1) := by decide +kernel
theorem dX9_back_43 : decode cX9_back 43 = .ok (.iaload, 1) := by decide +kernel
theorem dX9_back_44 : decode cX9_back 44 = .ok (.iastore, 1) := by decide +kernel
theorem dX9_back_45 : decode cX9_back 45 = .ok (.iinc 1 1, 3) := by decide +kernel
theorem dX9_back_48 : decode cX9_back 48 = .ok (.goto (-35), 3) := by decide +kernel
theorem dX9_back_51 : decode cX9_back 51 = .ok (.iconst 0, 1) := by decide +kernel
theorem dX9_back_52 : decode cX9_back 52 = .ok (.istore_n 1, 1) := by decide +kernel
theorem dX9_back_53 : decode cX9_back 53 = .ok (.iload_n 1, 1) := by decide +kernel
theorem dX9_back_54 : decode cX9_back 54 = .ok (.bipush 8, 2) := by decide +kernel
theorem dX9_back_56 : decode cX9_back 56 = .ok (.aload_n 0, 1) := by decide +kernel
theorem dX9_back_57 : decode cX9_back 57 = .ok (.getfield 74, 3) := by decide +kernel
theorem dX9_back_60 : decode cX9_back 60 = .ok (.imul, 1) := by decide +kernel
theorem dX9_back_61 : decode cX9_back 61 = .ok (.if_icmp .ge 21, 3) := by decide +kernel
theorem dX9_back_64 : decode cX9_back 64 = .ok (.aload_n 0, 1) := by decide +kernel
theorem dX9_back_65 : decode cX9_back 65 = .ok (.getfield 47, 3) := by decide +kernel
theorem dX9_back_68 : decode cX9_back 68 = .ok (.iload_n 1, 1) := by decide +kernel
theorem dX9_back_69 : decode cX9_back 69 = .ok (.aload_n 0, 1) := by decide +kernel
theorem dX9_back_70 : decode cX9_back 70 = .ok (.getfield 71, 3) := by decide +kernel
theorem dX9_back_73 : decode cX9_back 73 = .ok (.iload_n 1, 1) := by decide +kernel
theorem dX9_back_74 : decode cX9_back 74 = .ok (.iaload, 1) := by decide +kernel
theorem dX9_back_75 : decode cX9_back 75 = .ok (.iastore, 1) := by decide +kernel
theorem dX9_back_76 : decode cX9_back 76 = .ok (.iinc 1 1, 3) := by decide +kernel
theorem dX9_back_79 : decode cX9_back 79 = .ok (.goto (-26), 3) := by decide +kernel
theorem dX9_back_82 : decode cX9_back 82 = .ok (.aload_n 0, 1) := by decide +kernel
theorem dX9_back_83 : decode cX9_back 83 = .ok (.aload_n 0, 1) := by decide +kernel
theorem dX9_back_84 : decode cX9_back 84 = .ok (.getfield 345, 3) := by decide +kernel
theorem dX9_back_87 : decode cX9_back 87 = .ok (.putfield 132, 3) := by decide +kernel
theorem dX9_back_90 : decode cX9_back 90 = .ok (.aload_n 0, 1) := by decide +kernel
theorem dX9_back_91 : decode cX9_back 91 = .ok (.aload_n 0, 1) := by decide +kernel
theorem dX9_back_92 : decode cX9_back 92 = .ok (.getfield 348, 3) := by decide +kernel
theorem dX9_back_95 : decode cX9_back 95 = .ok (.putfield 265, 3) := by decide +kernel
theorem dX9_back_98 : decode cX9_back 98 = .ok (.aload_n 0, 1) := by decide +kernel
theorem dX9_back_99 : decode cX9_back 99 = .ok (.getfield 132, 3) := by decide +kernel
theorem dX9_back_102 : decode cX9_back 102 = .ok (.ireturn, 1) := by decide +kernel
theorem dX9_count_0 : decode cX9_count 0 = .ok (.iload_n 1, 1) := by decide +kernel
theorem dX9_count_1 : decode cX9_count 1 = .ok (.i2l, 1) := by decide +kernel
theorem dX9_count_2 : decode cX9_count 2 = .ok (.lconst 0, 1) := by decide +kernel
theorem dX9_count_3 : decode cX9_count 3 = .ok (.ldc2_w 109, 3) := by decide +kernel
theorem dX9_count_6 : decode cX9_count 6 = .ok (.invokestatic 100, 3) := by decide +kernel
theorem dX9_count_9 : decode cX9_count 9 = .ok (.ifCond .ne 6, 3) := by decide +kernel
theorem dX9_count_12 : decode cX9_count 12 = .ok (.bipush (-2), 2) := by decide +kernel
theorem dX9_count_14 : decode cX9_count 14 = .ok (.ireturn, 1) := by decide +kernel
theorem dX9_count_15 : decode cX9_count 15 = .ok (.iload_n 1, 1) := by decide +kernel
theorem dX9_count_16 : decode cX9_count 16 = .ok (.iconst 3, 1) := by decide +kernel
theorem dX9_count_17 : decode cX9_count 17 = .ok (.if_icmp .ge 31, 3) := by decide +kernel
theorem dX9_count_20 : decode cX9_count 20 = .ok (.iload_n 1, 1) := by decide +kernel
theorem dX9_count_21 : decode cX9_count 21 = .ok (.ifCond .ne 10, 3) := by decide +kernel
theorem dX9_count_24 : decode cX9_count 24 = .ok (.aload_n 0, 1) := by decide +kernel
theorem dX9_count_25 : decode cX9_count 25 = .ok (.getfield 97, 3) := by decide +kernel
theorem dX9_count_28 : decode cX9_count 28 = .ok (.goto 19, 3) := by decide +kernel
theorem dX9_count_31 : decode cX9_count 31 = .ok (.iload_n 1, 1) := by decide +kernel
theorem dX9_count_32 : decode cX9_count 32 = .ok (.iconst 1, 1) := by decide +kernel
theorem dX9_count_33 : decode cX9_count 33 = .ok (.if_icmp .ne 10, 3) := by decide +kernel
theorem dX9_count_36 : decode cX9_count 36 = .ok (.aload_n 0, 1) := by decide +kernel
theorem dX9_count_37 : decode cX9_count 37 = .ok (.getfield 104, 3) := by decide +kernel
theorem dX9_count_40 : decode cX9_count 40 = .ok (.goto 7, 3) := by decide +kernel
theorem dX9_count_43 : decode cX9_count 43 = .ok (.aload_n 0, 1) := by decide +kernel
theorem dX9_count_44 : decode cX9_count 44 = .ok (.getfield 132, 3) := by decide +kernel
theorem dX9_count_47 : decode cX9_count 47 = .ok (.ireturn, 1) := by decide +kernel
theorem dX9_count_48 : decode cX9_count 48 = .ok (.iload_n 1, 1) := by decide +kernel
theorem dX9_count_49 : decode cX9_count 49 = .ok (.iconst 3, 1) := by decide +kernel
theorem dX9_count_50 : decode cX9_count 50 = .ok (.if_icmp .ne 10, 3) := by decide +kernel
theorem dX9_count_53 : decode cX9_count 53 = .ok (.aload_n 0, 1) := by decide +kernel
theorem dX9_count_54 : decode cX9_count 54 = .ok (.getfield 94, 3) := by decide +kernel
theorem dX9_count_57 : decode cX9_count 57 = .ok (.goto 19, 3) := by decide +kernel
theorem dX9_count_60 : decode cX9_count 60 = .ok (.iload_n 1, 1) := by decide +kernel
theorem dX9_count_61 : decode cX9_count 61 = .ok (.iconst 4, 1) := by decide +kernel
theorem dX9_count_62 : decode cX9_count 62 = .ok (.if_icmp .ne 10, 3) := by decide +kernel
theorem dX9_count_65 : decode cX9_count 65 = .ok (.aload_n 0, 1) := by decide +kernel
theorem dX9_count_66 : decode cX9_count 66 = .ok (.getfield 148, 3) := by decide +kernel
theorem dX9_count_69 : decode cX9_count 69 = .ok (.goto 7, 3) := by decide +kernel
theorem dX9_count_72 : decode cX9_count 72 = .ok (.aload_n 0, 1) := by decide +kernel
theorem dX9_count_73 : decode cX9_count 73 = .ok (.getfield 265, 3) := by decide +kernel
theorem dX9_count_76 : decode cX9_count 76 = .ok (.ireturn, 1) := by decide +kernel
theorem dX9_isSheet_0 : decode cX9_isSheet 0 = .ok (.iload_n 0, 1) := by decide +kernel
theorem dX9_isSheet_1 : decode cX9_isSheet 1 = .ok (.i2l, 1) := by decide +kernel
theorem dX9_isSheet_2 : decode cX9_isSheet 2 = .ok (.lconst 0, 1) := by decide +kernel
theorem dX9_isSheet_3 : decode cX9_isSheet 3 = .ok (.ldc2_w 107, 3) := by decide +kernel
theorem dX9_isSheet_6 : decode cX9_isSheet 6 = .ok (.invokestatic 100, 3) := by decide +kernel
theorem dX9_isSheet_9 : decode cX9_isSheet 9 = .ok (.ireturn, 1) := by decide +kernel
theorem dX9_sheet_0 : decode cX9_sheet 0 = .ok (.iload_n 1, 1) := by decide +kernel
theorem dX9_sheet_1 : decode cX9_sheet 1 = .ok (.invokestatic 336, 3) := by decide +kernel
theorem dX9_sheet_4 : decode cX9_sheet 4 = .ok (.ifCond .eq 27, 3) := by decide +kernel
theorem dX9_sheet_7 : decode cX9_sheet 7 = .ok (.iload_n 2, 1) := by decide +kernel
theorem dX9_sheet_8 : decode cX9_sheet 8 = .ok (.i2l, 1) := by decide +kernel
theorem dX9_sheet_9 : decode cX9_sheet 9 = .ok (.ldc2_w 351, 3) := by decide +kernel
theorem dX9_sheet_12 : decode cX9_sheet 12 = .ok (.ldc2_w 125, 3) := by decide +kernel
theorem dX9_sheet_15 : decode cX9_sheet 15 = .ok (.invokestatic 100, 3) := by decide +kernel
theorem dX9_sheet_18 : decode cX9_sheet 18 = .ok (.ifCond .eq 13, 3) := by decide +kernel
theorem dX9_sheet_21 : decode cX9_sheet 21 = .ok (.iload_n 2, 1) := by decide +kernel
theorem dX9_sheet_22 : decode cX9_sheet 22 = .ok (.ifCond .lt 12, 3) := by decide +kernel
theorem dX9_sheet_25 : decode cX9_sheet 25 = .ok (.iload_n 3, 1) := by decide +kernel
theorem dX9_sheet_26 : decode cX9_sheet 26 = .ok (.bipush 40, 2) := by decide +kernel
theorem dX9_sheet_28 : decode cX9_sheet 28 = .ok (.if_icmp .le 6, 3) := by decide +kernel
theorem dX9_sheet_31 : decode cX9_sheet 31 = .ok (.bipush (-2), 2) := by decide +kernel
theorem dX9_sheet_33 : decode cX9_sheet 33 = .ok (.ireturn, 1) := by decide +kernel
theorem dX9_sheet_34 : decode cX9_sheet 34 = .ok (.iload_n 2, 1) := by decide +kernel
theorem dX9_sheet_35 : decode cX9_sheet 35 = .ok (.ifCond .lt 10, 3) := by decide +kernel
theorem dX9_sheet_38 : decode cX9_sheet 38 = .ok (.iload_n 3, 1) := by decide +kernel
theorem dX9_sheet_39 : decode cX9_sheet 39 = .ok (.ifCond .ge 6, 3) := by decide +kernel
theorem dX9_sheet_42 : decode cX9_sheet 42 = .ok (.bipush (-14), 2) := by decide +kernel
theorem dX9_sheet_44 : decode cX9_sheet 44 = .ok (.ireturn, 1) := by decide +kernel
theorem dX9_sheet_45 : decode cX9_sheet 45 = .ok (.aload_n 0, 1) := by decide +kernel
theorem dX9_sheet_46 : decode cX9_sheet 46 = .ok (.getfield 77, 3) := by decide +kernel
theorem dX9_sheet_49 : decode cX9_sheet 49 = .ok (.iload_n 1, 1) := by decide +kernel
theorem dX9_sheet_50 : decode cX9_sheet 50 = .ok (.iload_n 2, 1) := by decide +kernel
theorem dX9_sheet_51 : decode cX9_sheet 51 = .ok (.ifCond .lt 7, 3) := by decide +kernel
theorem dX9_sheet_54 : decode cX9_sheet 54 = .ok (.iconst 1, 1) := by decide +kernel
theorem dX9_sheet_55 : decode cX9_sheet 55 = .ok (.goto 4, 3) := by decide +kernel
theorem dX9_sheet_58 : decode cX9_sheet 58 = .ok (.iconst 0, 1) := by decide +kernel
theorem dX9_sheet_59 : decode cX9_sheet 59 = .ok (.bastore, 1) := by decide +kernel
theorem dX9_sheet_60 : decode cX9_sheet 60 = .ok (.aload_n 0, 1) := by decide +kernel
theorem dX9_sheet_61 : decode cX9_sheet 61 = .ok (.getfield 81, 3) := by decide +kernel
theorem dX9_sheet_64 : decode cX9_sheet 64 = .ok (.iload_n 1, 1) := by decide +kernel
theorem dX9_sheet_65 : decode cX9_sheet 65 = .ok (.iload_n 2, 1) := by decide +kernel
theorem dX9_sheet_66 : decode cX9_sheet 66 = .ok (.iastore, 1) := by decide +kernel
theorem dX9_sheet_67 : decode cX9_sheet 67 = .ok (.aload_n 0, 1) := by decide +kernel
theorem dX9_sheet_68 : decode cX9_sheet 68 = .ok (.getfield 84, 3) := by decide +kernel
theorem dX9_sheet_71 : decode cX9_sheet 71 = .ok (.iload_n 1, 1) := by decide +kernel
theorem dX9_sheet_72 : decode cX9_sheet 72 = .ok (.iload_n 3, 1) := by decide +kernel
theorem dX9_sheet_73 : decode cX9_sheet 73 = .ok (.iastore, 1) := by decide +kernel
theorem dX9_sheet_74 : decode cX9_sheet 74 = .ok (.iconst 0, 1) := by decide +kernel
theorem dX9_sheet_75 : decode cX9_sheet 75 = .ok (.istore 4, 2) := by decide +kernel
theorem dX9_sheet_77 : decode cX9_sheet 77 = .ok (.iload 4, 2) := by decide +kernel
theorem dX9_sheet_79 : decode cX9_sheet 79 = .ok (.iload_n 3, 1) := by decide +kernel
theorem dX9_sheet_80 : decode cX9_sheet 80 = .ok (.if_icmp .ge 26, 3) := by decide +kernel
theorem dX9_sheet_83 : decode cX9_sheet 83 = .ok (.iload_n 2, 1) := by decide +kernel
theorem dX9_sheet_84 : decode cX9_sheet 84 = .ok (.ifCond .lt 22, 3) := by decide +kernel
theorem dX9_sheet_87 : decode cX9_sheet 87 = .ok (.aload_n 0, 1) := by decide +kernel
theorem dX9_sheet_88 : decode cX9_sheet 88 = .ok (.getfield 87, 3) := by decide +kernel
theorem dX9_sheet_91 : decode cX9_sheet 91 = .ok (.bipush 40, 2) := by decide +kernel
theorem dX9_sheet_93 : decode cX9_sheet 93 = .ok (.iload_n 1, 1) := by decide +kernel
theorem dX9_sheet_94 : decode cX9_sheet 94 = .ok (.imul, 1) := by decide +kernel
theorem dX9_sheet_95 : decode cX9_sheet 95 = .ok (.iload 4, 2) := by decide +kernel
theorem dX9_sheet_97 : decode cX9_sheet 97 = .ok (.iadd, 1) := by decide +kernel
theorem dX9_sheet_98 : decode cX9_sheet 98 = .ok (.iconst 0, 1) := by decide +kernel
theorem dX9_sheet_99 : decode cX9_sheet 99 = .ok (.iastore, 1) := by decide +kernel
theorem dX9_sheet_100 : decode cX9_sheet 100 = .ok (.iinc 4 1, 3) := by decide +kernel
theorem dX9_sheet_103 : decode cX9_sheet 103 = .ok (.goto (-26), 3) := by decide +kernel
theorem dX9_sheet_106 : decode cX9_sheet 106 = .ok (.iconst 1, 1) := by decide +kernel
theorem dX9_sheet_107 : decode cX9_sheet 107 = .ok (.ireturn, 1) := by decide +kernel
theorem dX9_cell_0 : decode cX9_cell 0 = .ok (.iload_n 1, 1) := by decide +kernel
theorem dX9_cell_1 : decode cX9_cell 1 = .ok (.invokestatic 336, 3) := by decide +kernel
theorem dX9_cell_4 : decode cX9_cell 4 = .ok (.ifCond .ne 6, 3) := by decide +kernel
theorem dX9_cell_7 : decode cX9_cell 7 = .ok (.bipush (-2), 2) := by decide +kernel
theorem dX9_cell_9 : decode cX9_cell 9 = .ok (.ireturn, 1) := by decide +kernel
theorem dX9_cell_10 : decode cX9_cell 10 = .ok (.aload_n 0, 1) := by decide +kernel
theorem dX9_cell_11 : decode cX9_cell 11 = .ok (.getfield 77, 3) := by decide +kernel
theorem dX9_cell_14 : decode cX9_cell 14 = .ok (.iload_n 1, 1) := by decide +kernel
theorem dX9_cell_15 : decode cX9_cell 15 = .ok (.baload, 1) := by decide +kernel
theorem dX9_cell_16 : decode cX9_cell 16 = .ok (.ifCond .ne 6, 3) := by decide +kernel
theorem dX9_cell_19 : decode cX9_cell 19 = .ok (.bipush (-11), 2) := by decide +kernel
theorem dX9_cell_21 : decode cX9_cell 21 = .ok (.ireturn, 1) := by decide +kernel
theorem dX9_cell_22 : decode cX9_cell 22 = .ok (.iload_n 2, 1) := by decide +kernel
theorem dX9_cell_23 : decode cX9_cell 23 = .ok (.i2l, 1) := by decide +kernel
theorem dX9_cell_24 : decode cX9_cell 24 = .ok (.lconst 0, 1) := by decide +kernel
theorem dX9_cell_25 : decode cX9_cell 25 = .ok (.aload_n 0, 1) := by decide +kernel
theorem dX9_cell_26 : decode cX9_cell 26 = .ok (.getfield 84, 3) := by decide +kernel
theorem dX9_cell_29 : decode cX9_cell 29 = .ok (.iload_n 1, 1) := by decide +kernel
theorem dX9_cell_30 : decode cX9_cell 30 = .ok (.iaload, 1) := by decide +kernel
theorem dX9_cell_31 : decode cX9_cell 31 = .ok (.iconst 1, 1) := by decide +kernel
theorem dX9_cell_32 : decode cX9_cell 32 = .ok (.isub, 1) := by decide +kernel
theorem dX9_cell_33 : decode cX9_cell 33 = .ok (.i2l, 1) := by decide +kernel
theorem dX9_cell_34 : decode cX9_cell 34 = .ok (.invokestatic 100, 3) := by decide +kernel
theorem dX9_cell_37 : decode cX9_cell 37 = .ok (.ifCond .ne 6, 3) := by decide +kernel
theorem dX9_cell_40 : decode cX9_cell 40 = .ok (.bipush (-12), 2) := by decide +kernel
theorem dX9_cell_42 : decode cX9_cell 42 = .ok (.ireturn, 1) := by decide +kernel
theorem dX9_cell_43 : decode cX9_cell 43 = .ok (.aload_n 0, 1) := by decide +kernel
theorem dX9_cell_44 : decode cX9_cell 44 = .ok (.getfield 87, 3) := by decide +kernel
theorem dX9_cell_47 : decode cX9_cell 47 = .ok (.bipush 40, 2) := by decide +kernel
theorem dX9_cell_49 : decode cX9_cell 49 = .ok (.iload_n 1, 1) := by decide +kernel
theorem dX9_cell_50 : decode cX9_cell 50 = .ok (.imul, 1) := by decide +kernel
theorem dX9_cell_51 : decode cX9_cell 51 = .ok (.iload_n 2, 1) := by decide +kernel
theorem dX9_cell_52 : decode cX9_cell 52 = .ok (.iadd, 1) := by decide +kernel
theorem dX9_cell_53 : decode cX9_cell 53 = .ok (.aload_n 0, 1) := by decide +kernel
theorem dX9_cell_54 : decode cX9_cell 54 = .ok (.getfield 81, 3) := by decide +kernel
theorem dX9_cell_57 : decode cX9_cell 57 = .ok (.iload_n 1, 1) := by decide +kernel
theorem dX9_cell_58 : decode cX9_cell 58 = .ok (.iaload, 1) := by decide +kernel
theorem dX9_cell_59 : decode cX9_cell 59 = .ok (.ifCond .ne 8, 3) := by decide +kernel
theorem dX9_cell_62 : decode cX9_cell 62 = .ok (.iload_n 3, 1) := by decide +kernel
theorem dX9_cell_63 : decode cX9_cell 63 = .ok (.i2b, 1) := by decide +kernel
theorem dX9_cell_64 : decode cX9_cell 64 = .ok (.goto 19, 3) := by decide +kernel
theorem dX9_cell_67 : decode cX9_cell 67 = .ok (.aload_n 0, 1) := by decide +kernel
theorem dX9_cell_68 : decode cX9_cell 68 = .ok (.getfield 81, 3) := by decide +kernel
theorem dX9_cell_71 : decode cX9_cell 71 = .ok (.iload_n 1, 1) := by decide +kernel
theorem dX9_cell_72 : decode cX9_cell 72 = .ok (.iaload, 1) := by decide +kernel
theorem dX9_cell_73 : decode cX9_cell 73 = .ok (.iconst 1, 1) := by decide +kernel
theorem dX9_cell_74 : decode cX9_cell 74 = .ok (.if_icmp .ne 8, 3) := by decide +kernel
theorem dX9_cell_77 : decode cX9_cell 77 = .ok (.iload_n 3, 1) := by decide +kernel
theorem dX9_cell_78 : decode cX9_cell 78 = .ok (.i2s, 1) := by decide +kernel
theorem dX9_cell_79 : decode cX9_cell 79 = .ok (.goto 4, 3) := by decide +kernel
theorem dX9_cell_82 : decode cX9_cell 82 = .ok (.iload_n 3, 1) := by decide +kernel
theorem dX9_cell_83 : decode cX9_cell 83 = .ok (.iastore, 1) := by decide +kernel
theorem dX9_cell_84 : decode cX9_cell 84 = .ok (.iconst 1, 1) := by decide +kernel
theorem dX9_cell_85 : decode cX9_cell 85 = .ok (.ireturn, 1) := by decide +kernel
theorem dX9_copy_0 : decode cX9_copy 0 = .ok (.iload_n 1, 1) := by decide +kernel
theorem dX9_copy_1 : decode cX9_copy 1 = .ok (.invokestatic 336, 3) := by decide +kernel
theorem dX9_copy_4 : decode cX9_copy 4 = .ok (.ifCond .eq 10, 3) := by decide +kernel
theorem dX9_copy_7 : decode cX9_copy 7 = .ok (.iload_n 3, 1) := by decide +kernel
theorem dX9_copy_8 : decode cX9_copy 8 = .ok (.invokestatic 336, 3) := by decide +kernel
theorem dX9_copy_11 : decode cX9_copy 11 = .ok (.ifCond .ne 6, 3) := by decide +kernel
theorem dX9_copy_14 : decode cX9_copy 14 = .ok (.bipush (-2), 2) := by decide +kernel
theorem dX9_copy_16 : decode cX9_copy 16 = .ok (.ireturn, 1) := by decide +kernel
theorem dX9_copy_17 : decode cX9_copy 17 = .ok (.aload_n 0, 1) := by decide +kernel
theorem dX9_copy_18 : decode cX9_copy 18 = .ok (.getfield 77, 3) := by decide +kernel
theorem dX9_copy_21 : decode cX9_copy 21 = .ok (.iload_n 1, 1) := by decide +kernel
theorem dX9_copy_22 : decode cX9_copy 22 = .ok (.baload, 1) := by decide +kernel
theorem dX9_copy_23 : decode cX9_copy 23 = .ok (.ifCond .eq 12, 3) := by decide +kernel
theorem dX9_copy_26 : decode cX9_copy 26 = .ok (.aload_n 0, 1) := by decide +kernel
theorem dX9_copy_27 : decode cX9_copy 27 = .ok (.getfield 77, 3) := by decide +kernel
theorem dX9_copy_30 : decode cX9_copy 30 = .ok (.iload_n 3, 1) := by decide +kernel
theorem dX9_copy_31 : decode cX9_copy 31 = .ok (.baload, 1) := by decide +kernel
theorem dX9_copy_32 : decode cX9_copy 32 = .ok (.ifCond .ne 6, 3) := by decide +kernel
theorem dX9_copy_35 : decode cX9_copy 35 = .ok (.bipush (-11), 2) := by decide +kernel
theorem dX9_copy_37 : decode cX9_copy 37 = .ok (.ireturn, 1) := by decide +kernel
theorem dX9_copy_38 : decode cX9_copy 38 = .ok (.aload_n 0, 1) := by decide +kernel
theorem dX9_copy_39 : decode cX9_copy 39 = .ok (.getfield 81, 3) := by decide +kernel
theorem dX9_copy_42 : decode cX9_copy 42 = .ok (.iload_n 1, 1) := by decide +kernel
theorem dX9_copy_43 : decode cX9_copy 43 = .ok (.iaload, 1) := by decide +kernel
theorem dX9_copy_44 : decode cX9_copy 44 = .ok (.aload_n 0, 1) := by decide +kernel
theorem dX9_copy_45 : decode cX9_copy 45 = .ok (.getfield 81, 3) := by decide +kernel
theorem dX9_copy_48 : decode cX9_copy 48 = .ok (.iload_n 3, 1) := by decide +kernel
theorem dX9_copy_49 : decode cX9_copy 49 = .ok (.iaload, 1) := by decide +kernel
theorem dX9_copy_50 : decode cX9_copy 50 = .ok (.if_icmp .eq 6, 3) := by decide +kernel
theorem dX9_copy_53 : decode cX9_copy 53 = .ok (.bipush (-13), 2) := by decide +kernel
theorem dX9_copy_55 : decode cX9_copy 55 = .ok (.ireturn, 1) := by decide +kernel
theorem dX9_copy_56 : decode cX9_copy 56 = .ok (.iload 5, 2) := by decide +kernel
theorem dX9_copy_58 : decode cX9_copy 58 = .ok (.ifCond .lt 39, 3) := by decide +kernel
theorem dX9_copy_61 : decode cX9_copy 61 = .ok (.iload_n 2, 1) := by decide +kernel
theorem dX9_copy_62 : decode cX9_copy 62 = .ok (.ifCond .lt 35, 3) := by decide +kernel
theorem dX9_copy_65 : decode cX9_copy 65 = .ok (.iload 4, 2) := by decide +kernel
theorem dX9_copy_67 : decode cX9_copy 67 = .ok (.ifCond .lt 30, 3) := by decide +kernel
theorem dX9_copy_70 : decode cX9_copy 70 = .ok (.iload_n 2, 1) := by decide +kernel
theorem dX9_copy_71 : decode cX9_copy 71 = .ok (.aload_n 0, 1) := by decide +kernel
theorem dX9_copy_72 : decode cX9_copy 72 = .ok (.getfield 84, 3) := by decide +kernel
theorem dX9_copy_75 : decode cX9_copy 75 = .ok (.iload_n 1, 1) := by decide +kernel
theorem dX9_copy_76 : decode cX9_copy 76 = .ok (.iaload, 1) := by decide +kernel
theorem dX9_copy_77 : decode cX9_copy 77 = .ok (.iload 5, 2) := by decide +kernel
theorem dX9_copy_79 : decode cX9_copy 79 = .ok (.isub, 1) := by decide +kernel
theorem dX9_copy_80 : decode cX9_copy 80 = .ok (.if_icmp .gt 17, 3) := by decide +kernel
theorem dX9_copy_83 : decode cX9_copy 83 = .ok (.iload 4, 2) := by decide +kernel
theorem dX9_copy_85 : decode cX9_copy 85 = .ok (.aload_n 0, 1) := by decide +kernel
theorem dX9_copy_86 : decode cX9_copy 86 = .ok (.getfield 84, 3) := by decide +kernel
theorem dX9_copy_89 : decode cX9_copy 89 = .ok (.iload_n 3, 1) := by decide +kernel
theorem dX9_copy_90 : decode cX9_copy 90 = .ok (.iaload, 1) := by decide +kernel
theorem dX9_copy_91 : decode cX9_copy 91 = .ok (.iload 5, 2) := by decide +kernel
theorem dX9_copy_93 : decode cX9_copy 93 = .ok (.isub, 1) := by decide +kernel
theorem dX9_copy_94 : decode cX9_copy 94 = .ok (.if_icmp .le 6, 3) := by decide +kernel
theorem dX9_copy_97 : decode cX9_copy 97 = .ok (.bipush (-12), 2) := by decide +kernel
theorem dX9_copy_99 : decode cX9_copy 99 = .ok (.ireturn, 1) := by decide +kernel
theorem dX9_copy_100 : decode cX9_copy 100 = .ok (.iload_n 1, 1) := by decide +kernel
theorem dX9_copy_101 : decode cX9_copy 101 = .ok (.iload_n 3, 1) := by decide +kernel
theorem dX9_copy_102 : decode cX9_copy 102 = .ok (.if_icmp .ne 13, 3) := by decide +kernel
theorem dX9_copy_105 : decode cX9_copy 105 = .ok (.iload_n 2, 1) := by decide +kernel
theorem dX9_copy_106 : decode cX9_copy 106 = .ok (.iload 4, 2) := by decide +kernel
theorem dX9_copy_108 : decode cX9_copy 108 = .ok (.if_icmp .ge 7, 3) := by decide +kernel
theorem dX9_copy_111 : decode cX9_copy 111 = .ok (.iconst 1, 1) := by decide +kernel
theorem dX9_copy_112 : decode cX9_copy 112 = .ok (.goto 4, 3) := by decide +kernel
theorem dX9_copy_115 : decode cX9_copy 115 = .ok (.iconst 0, 1) := by decide +kernel
theorem dX9_copy_116 : decode cX9_copy 116 = .ok (.istore 6, 2) := by decide +kernel
theorem dX9_copy_118 : decode cX9_copy 118 = .ok (.iconst 0, 1) := by decide +kernel
theorem dX9_copy_119 : decode cX9_copy 119 = .ok (.istore 7, 2) := by decide +kernel
theorem dX9_copy_121 : decode cX9_copy 121 = .ok (.iload 7, 2) := by decide +kernel
theorem dX9_copy_123 : decode cX9_copy 123 = .ok (.iload 5, 2) := by decide +kernel
theorem dX9_copy_125 : decode cX9_copy 125 = .ok (.if_icmp .ge 57, 3) := by decide +kernel
theorem dX9_copy_128 : decode cX9_copy 128 = .ok (.iload 6, 2) := by decide +kernel
theorem dX9_copy_130 : decode cX9_copy 130 = .ok (.ifCond .eq 13, 3) := by decide +kernel
theorem dX9_copy_133 : decode cX9_copy 133 = .ok (.iload 5, 2) := by decide +kernel
theorem dX9_copy_135 : decode cX9_copy 135 = .ok (.iconst 1, 1) := by decide +kernel
theorem dX9_copy_136 : decode cX9_copy 136 = .ok (.isub, 1) := by decide +kernel
theorem dX9_copy_137 : decode cX9_copy 137 = .ok (.iload 7, 2) := by decide +kernel
theorem dX9_copy_139 : decode cX9_copy 139 = .ok (.isub, 1) := by decide +kernel
theorem dX9_copy_140 : decode cX9_copy 140 = .ok (.goto 5, 3) := by decide +kernel
theorem dX9_copy_143 : decode cX9_copy 143 = .ok (.iload 7, 2) := by decide +kernel
theorem dX9_copy_145 : decode cX9_copy 145 = .ok (.istore 8, 2) := by decide +kernel
theorem dX9_copy_147 : decode cX9_copy 147 = .ok (.aload_n 0, 1) := by decide +kernel
theorem dX9_copy_148 : decode cX9_copy 148 = .ok (.getfield 87, 3) := by decide +kernel
theorem dX9_copy_151 : decode cX9_copy 151 = .ok (.bipush 40, 2) := by decide +kernel
theorem dX9_copy_153 : decode cX9_copy 153 = .ok (.iload_n 3, 1) := by decide +kernel
theorem dX9_copy_154 : decode cX9_copy 154 = .ok (.imul, 1) := by decide +kernel
theorem dX9_copy_155 : decode cX9_copy 155 = .ok (.iload 4, 2) := by decide +kernel
theorem dX9_copy_157 : decode cX9_copy 157 = .ok (.iadd, 1) := by decide +kernel
theorem dX9_copy_158 : decode cX9_copy 158 = .ok (.iload 8, 2) := by decide +kernel
theorem dX9_copy_160 : decode cX9_copy 160 = .ok (.iadd, 1) := by decide +kernel
theorem dX9_copy_161 : decode cX9_copy 161 = .ok (.aload_n 0, 1) := by decide +kernel
theorem dX9_copy_162 : decode cX9_copy 162 = .ok (.getfield 87, 3) := by decide +kernel
theorem dX9_copy_165 : decode cX9_copy 165 = .ok (.bipush 40, 2) := by decide +kernel
theorem dX9_copy_167 : decode cX9_copy 167 = .ok (.iload_n 1, 1) := by decide +kernel
theorem dX9_copy_168 : decode cX9_copy 168 = .ok (.imul, 1) := by decide +kernel
theorem dX9_copy_169 : decode cX9_copy 169 = .ok (.iload_n 2, 1) := by decide +kernel
theorem dX9_copy_170 : decode cX9_copy 170 = .ok (.iadd, 1) := by decide +kernel
theorem dX9_copy_171 : decode cX9_copy 171 = .ok (.iload 8, 2) := by decide +kernel
theorem dX9_copy_173 : decode cX9_copy 173 = .ok (.iadd, 1) := by decide +kernel
theorem dX9_copy_174 : decode cX9_copy 174 = .ok (.iaload, 1) := by decide +kernel
theorem dX9_copy_175 : decode cX9_copy 175 = .ok (.iastore, 1) := by decide +kernel
theorem dX9_copy_176 : decode cX9_copy 176 = .ok (.iinc 7 1, 3) := by decide +kernel
theorem dX9_copy_179 : decode cX9_copy 179 = .ok (.goto (-58), 3) := by decide +kernel
theorem dX9_copy_182 : decode cX9_copy 182 = .ok (.iload 5, 2) := by decide +kernel
theorem dX9_copy_184 : decode cX9_copy 184 = .ok (.ireturn, 1) := by decide +kernel
theorem dX9_people_0 : decode cX9_people 0 = .ok (.iload_n 1, 1) := by decide +kernel
theorem dX9_people_1 : decode cX9_people 1 = .ok (.invokestatic 336, 3) := by decide +kernel
theorem dX9_people_4 : decode cX9_people 4 = .ok (.ifCond .eq 28, 3) := by decide +kernel
theorem dX9_people_7 : decode cX9_people 7 = .ok (.iload_n 2, 1) := by decide +kernel
theorem dX9_people_8 : decode cX9_people 8 = .ok (.i2l, 1) := by decide +kernel
theorem dX9_people_9 : decode cX9_people 9 = .ok (.lconst 0, 1) := by decide +kernel
theorem dX9_people_10 : decode cX9_people 10 = .ok (.ldc2_w 125, 3) := by decide +kernel
theorem dX9_people_13 : decode cX9_people 13 = .ok (.invokestatic 100, 3) := by decide +kernel
theorem dX9_people_16 : decode cX9_people 16 = .ok (.ifCond .eq 16, 3) := by decide +kernel
theorem dX9_people_19 : decode cX9_people 19 = .ok (.iload 4, 2) := by decide +kernel
theorem dX9_people_21 : decode cX9_people 21 = .ok (.i2l, 1) := by decide +kernel
theorem dX9_people_22 : decode cX9_people 22 = .ok (.lconst 0, 1) := by decide +kernel
theorem dX9_people_23 : decode cX9_people 23 = .ok (.ldc2_w 353, 3) := by decide +kernel
theorem dX9_people_26 : decode cX9_people 26 = .ok (.invokestatic 100, 3) := by decide +kernel
theorem dX9_people_29 : decode cX9_people 29 = .ok (.ifCond .ne 6, 3) := by decide +kernel
theorem dX9_people_32 : decode cX9_people 32 = .ok (.bipush (-2), 2) := by decide +kernel
theorem dX9_people_34 : decode cX9_people 34 = .ok (.ireturn, 1) := by decide +kernel
theorem dX9_people_35 : decode cX9_people 35 = .ok (.aload_n 0, 1) := by decide +kernel
theorem dX9_people_36 : decode cX9_people 36 = .ok (.getfield 77, 3) := by decide +kernel
theorem dX9_people_39 : decode cX9_people 39 = .ok (.iload_n 1, 1) := by decide +kernel
theorem dX9_people_40 : decode cX9_people 40 = .ok (.baload, 1) := by decide +kernel
theorem dX9_people_41 : decode cX9_people 41 = .ok (.ifCond .eq 16, 3) := by decide +kernel
theorem dX9_people_44 : decode cX9_people 44 = .ok (.aload_n 0, 1) := by decide +kernel
theorem dX9_people_45 : decode cX9_people 45 = .ok (.getfield 81, 3) := by decide +kernel
theorem dX9_people_48 : decode cX9_people 48 = .ok (.iload_n 1, 1) := by decide +kernel
theorem dX9_people_49 : decode cX9_people 49 = .ok (.iaload, 1) := by decide +kernel
theorem dX9_people_50 : decode cX9_people 50 = .ok (.iload_n 2, 1) := by decide +kernel
theorem dX9_people_51 : decode cX9_people 51 = .ok (.if_icmp .eq 6, 3) := by decide +kernel
theorem dX9_people_54 : decode cX9_people 54 = .ok (.bipush (-13), 2) := by decide +kernel
theorem dX9_people_56 : decode cX9_people 56 = .ok (.ireturn, 1) := by decide +kernel
theorem dX9_people_57 : decode cX9_people 57 = .ok (.aload_n 0, 1) := by decide +kernel
theorem dX9_people_58 : decode cX9_people 58 = .ok (.getfield 77, 3) := by decide +kernel
theorem dX9_people_61 : decode cX9_people 61 = .ok (.iload_n 1, 1) := by decide +kernel
theorem dX9_people_62 : decode cX9_people 62 = .ok (.baload, 1) := by decide +kernel
theorem dX9_people_63 : decode cX9_people 63 = .ok (.ifCond .ne 6, 3) := by decide +kernel
theorem dX9_people_66 : decode cX9_people 66 = .ok (.bipush (-11), 2) := by decide +kernel
theorem dX9_people_68 : decode cX9_people 68 = .ok (.ireturn, 1) := by decide +kernel
theorem dX9_people_69 : decode cX9_people 69 = .ok (.iconst 0, 1) := by decide +kernel
theorem dX9_people_70 : decode cX9_people 70 = .ok (.istore 5, 2) := by decide +kernel
theorem dX9_people_72 : decode cX9_people 72 = .ok (.iconst 0, 1) := by decide +kernel
theorem dX9_people_73 : decode cX9_people 73 = .ok (.istore 6, 2) := by decide +kernel
theorem dX9_people_75 : decode cX9_people 75 = .ok (.iload 6, 2) := by decide +kernel
theorem dX9_people_77 : decode cX9_people 77 = .ok (.iload 4, 2) := by decide +kernel
theorem dX9_people_79 : decode cX9_people 79 = .ok (.if_icmp .ge 79, 3) := by decide +kernel
theorem dX9_people_82 : decode cX9_people 82 = .ok (.iload_n 3, 1) := by decide +kernel
theorem dX9_people_83 : decode cX9_people 83 = .ok (.ifCond .lt 20, 3) := by decide +kernel
theorem dX9_people_86 : decode cX9_people 86 = .ok (.iload_n 3, 1) := by decide +kernel
theorem dX9_people_87 : decode cX9_people 87 = .ok (.aload_n 0, 1) := by decide +kernel
theorem dX9_people_88 : decode cX9_people 88 = .ok (.getfield 84, 3) := by decide +kernel
theorem dX9_people_91 : decode cX9_people 91 = .ok (.iload_n 1, 1) := by decide +kernel
theorem dX9_people_92 : decode cX9_people 92 = .ok (.iaload, 1) := by decide +kernel
theorem dX9_people_93 : decode cX9_people 93 = .ok (.iconst 2, 1) := by decide +kernel
theorem dX9_people_94 : decode cX9_people 94 = .ok (.iload 6, 2) := by decide +kernel
theorem dX9_people_96 : decode cX9_people 96 = .ok (.imul, 1) := by decide +kernel
theorem dX9_people_97 : decode cX9_people 97 = .ok (.isub, 1) := by decide +kernel
theorem dX9_people_98 : decode cX9_people 98 = .ok (.iconst 2, 1) := by decide +kernel
theorem dX9_people_99 : decode cX9_people 99 = .ok (.isub, 1) := by decide +kernel
theorem dX9_people_100 : decode cX9_people 100 = .ok (.if_icmp .le 6, 3) := by decide +kernel
theorem dX9_people_103 : decode cX9_people 103 = .ok (.bipush (-12), 2) := by decide +kernel
theorem dX9_people_105 : decode cX9_people 105 = .ok (.ireturn, 1) := by decide +kernel
theorem dX9_people_106 : decode cX9_people 106 = .ok (.bipush 40, 2) := by decide +kernel
theorem dX9_people_108 : decode cX9_people 108 = .ok (.iload_n 1, 1) := by decide +kernel
theorem dX9_people_109 : decode cX9_people 109 = .ok (.imul, 1) := by decide +kernel
theorem dX9_people_110 : decode cX9_people 110 = .ok (.iload_n 3, 1) := by decide +kernel
theorem dX9_people_111 : decode cX9_people 111 = .ok (.iadd, 1) := by decide +kernel
theorem dX9_people_112 : decode cX9_people 112 = .ok (.iconst 2, 1) := by decide +kernel
theorem dX9_people_113 : decode cX9_people 113 = .ok (.iload 6, 2) := by decide +kernel
theorem dX9_people_115 : decode cX9_people 115 = .ok (.imul, 1) := by decide +kernel
theorem dX9_people_116 : decode cX9_people 116 = .ok (.iadd, 1) := by decide +kernel
theorem dX9_people_117 : decode cX9_people 117 = .ok (.istore 7, 2) := by decide +kernel
theorem dX9_people_119 : decode cX9_people 119 = .ok (.iload 5, 2) := by decide +kernel
theorem dX9_people_121 : decode cX9_people 121 = .ok (.aload_n 0, 1) := by decide +kernel
theorem dX9_people_122 : decode cX9_people 122 = .ok (.aload_n 0, 1) := by decide +kernel
theorem dX9_people_123 : decode cX9_people 123 = .ok (.getfield 87, 3) := by decide +kernel
theorem dX9_people_126 : decode cX9_people 126 = .ok (.iload 7, 2) := by decide +kernel
theorem dX9_people_128 : decode cX9_people 128 = .ok (.iaload, 1) := by decide +kernel
theorem dX9_people_129 : decode cX9_people 129 = .ok (.aload_n 0, 1) := by decide +kernel
theorem dX9_people_130 : decode cX9_people 130 = .ok (.getfield 87, 3) := by decide +kernel
theorem dX9_people_133 : decode cX9_people 133 = .ok (.iload 7, 2) := by decide +kernel
theorem dX9_people_135 : decode cX9_people 135 = .ok (.iconst 1, 1) := by decide +kernel
theorem dX9_people_136 : decode cX9_people 136 = .ok (.iadd, 1) := by decide +kernel
theorem dX9_people_137 : decode cX9_people 137 = .ok (.iaload, 1) := by decide +kernel
theorem dX9_people_138 : decode cX9_people 138 = .ok (.invokevirtual 355, 3) := by decide +kernel
theorem dX9_people_141 : decode cX9_people 141 = .ok (.ifCond .lt 7, 3) := by decide +kernel
theorem dX9_people_144 : decode cX9_people 144 = .ok (.iconst 1, 1) := by decide +kernel
theorem dX9_people_145 : decode cX9_people 145 = .ok (.goto 4, 3) := by decide +kernel
theorem dX9_people_148 : decode cX9_people 148 = .ok (.iconst 0, 1) := by decide +kernel
theorem dX9_people_149 : decode cX9_people 149 = .ok (.iadd, 1) := by decide +kernel
theorem dX9_people_150 : decode cX9_people 150 = .ok (.istore 5, 2) := by decide +kernel
theorem dX9_people_152 : decode cX9_people 152 = .ok (.iinc 6 1, 3) := by decide +kernel
theorem dX9_people_155 : decode cX9_people 155 = .ok (.goto (-80), 3) := by decide +kernel
theorem dX9_people_158 : decode cX9_people 158 = .ok (.iload 5, 2) := by decide +kernel
theorem dX9_people_160 : decode cX9_people 160 = .ok (.ireturn, 1) := by decide +kernel
theorem dX9_over_0 : decode cX9_over 0 = .ok (.iload_n 0, 1) := by decide +kernel
theorem dX9_over_1 : decode cX9_over 1 = .ok (.ifCond .ne 7, 3) := by decide +kernel
theorem dX9_over_4 : decode cX9_over 4 = .ok (.iconst (-1), 1) := by decide +kernel
theorem dX9_over_5 : decode cX9_over 5 = .ok (.goto 27, 3) := by decide +kernel
theorem dX9_over_8 : decode cX9_over 8 = .ok (.iload_n 0, 1) := by decide +kernel
theorem dX9_over_9 : decode cX9_over 9 = .ok (.iconst 1, 1) := by decide +kernel
theorem dX9_over_10 : decode cX9_over 10 = .ok (.if_icmp .eq 8, 3) := by decide +kernel
theorem dX9_over_13 : decode cX9_over 13 = .ok (.iload_n 0, 1) := by decide +kernel
theorem dX9_over_14 : decode cX9_over 14 = .ok (.iconst 2, 1) := by decide +kernel
theorem dX9_over_15 : decode cX9_over 15 = .ok (.if_icmp .ne 7, 3) := by decide +kernel
theorem dX9_over_18 : decode cX9_over 18 = .ok (.iconst 0, 1) := by decide +kernel
theorem dX9_over_19 : decode cX9_over 19 = .ok (.goto 13, 3) := by decide +kernel
theorem dX9_over_22 : decode cX9_over 22 = .ok (.iload_n 0, 1) := by decide +kernel
theorem dX9_over_23 : decode cX9_over 23 = .ok (.iconst 4, 1) := by decide +kernel
theorem dX9_over_24 : decode cX9_over 24 = .ok (.if_icmp .ne 7, 3) := by decide +kernel
theorem dX9_over_27 : decode cX9_over 27 = .ok (.iconst 2, 1) := by decide +kernel
theorem dX9_over_28 : decode cX9_over 28 = .ok (.goto 4, 3) := by decide +kernel
theorem dX9_over_31 : decode cX9_over 31 = .ok (.iconst 1, 1) := by decide +kernel
theorem dX9_over_32 : decode cX9_over 32 = .ok (.ireturn, 1) := by decide +kernel
theorem dX9_taken_0 : decode cX9_taken 0 = .ok (.iload_n 2, 1) := by decide +kernel
theorem dX9_taken_1 : decode cX9_taken 1 = .ok (.i2l, 1) := by decide +kernel
theorem dX9_taken_2 : decode cX9_taken 2 = .ok (.lconst 0, 1) := by decide +kernel
theorem dX9_taken_3 : decode cX9_taken 3 = .ok (.ldc2_w 109, 3) := by decide +kernel
theorem dX9_taken_6 : decode cX9_taken 6 = .ok (.invokestatic 100, 3) := by decide +kernel
theorem dX9_taken_9 : decode cX9_taken 9 = .ok (.ifCond .ne 6, 3) := by decide +kernel
theorem dX9_taken_12 : decode cX9_taken 12 = .ok (.bipush (-2), 2) := by decide +kernel
theorem dX9_taken_14 : decode cX9_taken 14 = .ok (.ireturn, 1) := by decide +kernel
theorem dX9_taken_15 : decode cX9_taken 15 = .ok (.aload_n 0, 1) := by decide +kernel
theorem dX9_taken_16 : decode cX9_taken 16 = .ok (.iload_n 1, 1) := by decide +kernel
theorem dX9_taken_17 : decode cX9_taken 17 = .ok (.invokevirtual 113, 3) := by decide +kernel
theorem dX9_taken_20 : decode cX9_taken 20 = .ok (.ifCond .ne 6, 3) := by decide +kernel
theorem dX9_taken_23 : decode cX9_taken 23 = .ok (.bipush (-11), 2) := by decide +kernel
theorem dX9_taken_25 : decode cX9_taken 25 = .ok (.ireturn, 1) := by decide +kernel
theorem dX9_taken_26 : decode cX9_taken 26 = .ok (.aload_n 0, 1) := by decide +kernel
theorem dX9_taken_27 : decode cX9_taken 27 = .ok (.getfield 23, 3) := by decide +kernel
theorem dX9_taken_30 : decode cX9_taken 30 = .ok (.iload_n 1, 1) := by decide +kernel
theorem dX9_taken_31 : decode cX9_taken 31 = .ok (.iaload, 1) := by decide +kernel
theorem dX9_taken_32 : decode cX9_taken 32 = .ok (.istore_n 3, 1) := by decide +kernel
theorem dX9_taken_33 : decode cX9_taken 33 = .ok (.iload_n 3, 1) := by decide +kernel
theorem dX9_taken_34 : decode cX9_taken 34 = .ok (.iconst (-1), 1) := by decide +kernel
theorem dX9_taken_35 : decode cX9_taken 35 = .ok (.if_icmp .eq 16, 3) := by decide +kernel
theorem dX9_taken_38 : decode cX9_taken 38 = .ok (.iload_n 3, 1) := by decide +kernel
theorem dX9_taken_39 : decode cX9_taken 39 = .ok (.iload_n 2, 1) := by decide +kernel
theorem dX9_taken_40 : decode cX9_taken 40 = .ok (.if_icmp .eq 11, 3) := by decide +kernel
theorem dX9_taken_43 : decode cX9_taken 43 = .ok (.iload_n 3, 1) := by decide +kernel
theorem dX9_taken_44 : decode cX9_taken 44 = .ok (.invokestatic 358, 3) := by decide +kernel
theorem dX9_taken_47 : decode cX9_taken 47 = .ok (.istore_n 3, 1) := by decide +kernel
theorem dX9_taken_48 : decode cX9_taken 48 = .ok (.goto (-15), 3) := by decide +kernel
theorem dX9_taken_51 : decode cX9_taken 51 = .ok (.iload_n 3, 1) := by decide +kernel
theorem dX9_taken_52 : decode cX9_taken 52 = .ok (.iload_n 2, 1) := by decide +kernel
theorem dX9_taken_53 : decode cX9_taken 53 = .ok (.if_icmp .ne 12, 3) := by decide +kernel
theorem dX9_taken_56 : decode cX9_taken 56 = .ok (.aload_n 0, 1) := by decide +kernel
theorem dX9_taken_57 : decode cX9_taken 57 = .ok (.getfield 29, 3) := by decide +kernel
theorem dX9_taken_60 : decode cX9_taken 60 = .ok (.iload_n 1, 1) := by decide +kernel
theorem dX9_taken_61 : decode cX9_taken 61 = .ok (.iaload, 1) := by decide +kernel
theorem dX9_taken_62 : decode cX9_taken 62 = .ok (.goto 5, 3) := by decide +kernel
theorem dX9_taken_65 : decode cX9_taken 65 = .ok (.bipush (-13), 2) := by decide +kernel
theorem dX9_taken_67 : decode cX9_taken 67 = .ok (.ireturn, 1) := by decide +kernel
