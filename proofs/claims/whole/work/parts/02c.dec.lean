theorem dX8_init_0 : decode cX8_init 0 = .ok (.aload_n 0, 1) := by decide +kernel
theorem dX8_init_1 : decode cX8_init 1 = .ok (.invokespecial 3, 3) := by decide +kernel
theorem dX8_init_4 : decode cX8_init 4 = .ok (.aload_n 0, 1) := by decide +kernel
theorem dX8_init_5 : decode cX8_init 5 = .ok (.new 9, 3) := by decide +kernel
theorem dX8_init_8 : decode cX8_init 8 = .ok (.dup, 1) := by decide +kernel
theorem dX8_init_9 : decode cX8_init 9 = .ok (.invokespecial 11, 3) := by decide +kernel
theorem dX8_init_12 : decode cX8_init 12 = .ok (.putfield 12, 3) := by decide +kernel
theorem dX8_init_15 : decode cX8_init 15 = .ok (.aload_n 0, 1) := by decide +kernel
theorem dX8_init_16 : decode cX8_init 16 = .ok (.new 16, 3) := by decide +kernel
theorem dX8_init_19 : decode cX8_init 19 = .ok (.dup, 1) := by decide +kernel
theorem dX8_init_20 : decode cX8_init 20 = .ok (.invokespecial 18, 3) := by decide +kernel
theorem dX8_init_23 : decode cX8_init 23 = .ok (.putfield 19, 3) := by decide +kernel
theorem dX8_init_26 : decode cX8_init 26 = .ok (.aload_n 0, 1) := by decide +kernel
theorem dX8_init_27 : decode cX8_init 27 = .ok (.new 23, 3) := by decide +kernel
theorem dX8_init_30 : decode cX8_init 30 = .ok (.dup, 1) := by decide +kernel
theorem dX8_init_31 : decode cX8_init 31 = .ok (.invokespecial 25, 3) := by decide +kernel
theorem dX8_init_34 : decode cX8_init 34 = .ok (.putfield 26, 3) := by decide +kernel
theorem dX8_init_37 : decode cX8_init 37 = .ok (.aload_n 0, 1) := by decide +kernel
theorem dX8_init_38 : decode cX8_init 38 = .ok (.getfield 26, 3) := by decide +kernel
theorem dX8_init_41 : decode cX8_init 41 = .ok (.invokevirtual 30, 3) := by decide +kernel
theorem dX8_init_44 : decode cX8_init 44 = .ok (.aload_n 0, 1) := by decide +kernel
theorem dX8_init_45 : decode cX8_init 45 = .ok (.getfield 26, 3) := by decide +kernel
theorem dX8_init_48 : decode cX8_init 48 = .ok (.invokevirtual 33, 3) := by decide +kernel
theorem dX8_init_51 : decode cX8_init 51 = .ok (.ifCond .eq 18, 3) := by decide +kernel
theorem dX8_init_54 : decode cX8_init 54 = .ok (.aload_n 0, 1) := by decide +kernel
theorem dX8_init_55 : decode cX8_init 55 = .ok (.getfield 19, 3) := by decide +kernel
theorem dX8_init_58 : decode cX8_init 58 = .ok (.aload_n 0, 1) := by decide +kernel
theorem dX8_init_59 : decode cX8_init 59 = .ok (.getfield 26, 3) := by decide +kernel
theorem dX8_init_62 : decode cX8_init 62 = .ok (.invokevirtual 37, 3) := by decide +kernel
theorem dX8_init_65 : decode cX8_init 65 = .ok (.invokevirtual 41, 3) := by decide +kernel
theorem dX8_init_68 : decode cX8_init 68 = .ok (.pop, 1) := by decide +kernel
theorem dX8_init_69 : decode cX8_init 69 = .ok (.aload_n 0, 1) := by decide +kernel
theorem dX8_init_70 : decode cX8_init 70 = .ok (.getfield 26, 3) := by decide +kernel
theorem dX8_init_73 : decode cX8_init 73 = .ok (.invokevirtual 45, 3) := by decide +kernel
theorem dX8_init_76 : decode cX8_init 76 = .ok (.aload_n 0, 1) := by decide +kernel
theorem dX8_init_77 : decode cX8_init 77 = .ok (.new 48, 3) := by decide +kernel
theorem dX8_init_80 : decode cX8_init 80 = .ok (.dup, 1) := by decide +kernel
theorem dX8_init_81 : decode cX8_init 81 = .ok (.aload_n 0, 1) := by decide +kernel
theorem dX8_init_82 : decode cX8_init 82 = .ok (.getfield 12, 3) := by decide +kernel
theorem dX8_init_85 : decode cX8_init 85 = .ok (.aload_n 0, 1) := by decide +kernel
theorem dX8_init_86 : decode cX8_init 86 = .ok (.getfield 19, 3) := by decide +kernel
theorem dX8_init_89 : decode cX8_init 89 = .ok (.invokespecial 50, 3) := by decide +kernel
theorem dX8_init_92 : decode cX8_init 92 = .ok (.putfield 53, 3) := by decide +kernel
theorem dX8_init_95 : decode cX8_init 95 = .ok (.aload_n 0, 1) := by decide +kernel
theorem dX8_init_96 : decode cX8_init 96 = .ok (.new 48, 3) := by decide +kernel
theorem dX8_init_99 : decode cX8_init 99 = .ok (.dup, 1) := by decide +kernel
theorem dX8_init_100 : decode cX8_init 100 = .ok (.aload_n 0, 1) := by decide +kernel
theorem dX8_init_101 : decode cX8_init 101 = .ok (.getfield 12, 3) := by decide +kernel
theorem dX8_init_104 : decode cX8_init 104 = .ok (.aload_n 0, 1) := by decide +kernel
theorem dX8_init_105 : decode cX8_init 105 = .ok (.getfield 19, 3) := by decide +kernel
theorem dX8_init_108 : decode cX8_init 108 = .ok (.invokespecial 50, 3) := by decide +kernel
theorem dX8_init_111 : decode cX8_init 111 = .ok (.putfield 57, 3) := by decide +kernel
theorem dX8_init_114 : decode cX8_init 114 = .ok (.aload_n 0, 1) := by decide +kernel
theorem dX8_init_115 : decode cX8_init 115 = .ok (.new 48, 3) := by decide +kernel
theorem dX8_init_118 : decode cX8_init 118 = .ok (.dup, 1) := by decide +kernel
theorem dX8_init_119 : decode cX8_init 119 = .ok (.aload_n 0, 1) := by decide +kernel
theorem dX8_init_120 : decode cX8_init 120 = .ok (.getfield 12, 3) := by decide +kernel
theorem dX8_init_123 : decode cX8_init 123 = .ok (.aload_n 0, 1) := by decide +kernel
theorem dX8_init_124 : decode cX8_init 124 = .ok (.getfield 19, 3) := by decide +kernel
theorem dX8_init_127 : decode cX8_init 127 = .ok (.invokespecial 50, 3) := by decide +kernel
theorem dX8_init_130 : decode cX8_init 130 = .ok (.putfield 60, 3) := by decide +kernel
theorem dX8_init_133 : decode cX8_init 133 = .ok (.aload_n 0, 1) := by decide +kernel
theorem dX8_init_134 : decode cX8_init 134 = .ok (.new 63, 3) := by decide +kernel
theorem dX8_init_137 : decode cX8_init 137 = .ok (.dup, 1) := by decide +kernel
theorem dX8_init_138 : decode cX8_init 138 = .ok (.aload_n 0, 1) := by decide +kernel
theorem dX8_init_139 : decode cX8_init 139 = .ok (.getfield 53, 3) := by decide +kernel
theorem dX8_init_142 : decode cX8_init 142 = .ok (.invokespecial 65, 3) := by decide +kernel
theorem dX8_init_145 : decode cX8_init 145 = .ok (.putfield 68, 3) := by decide +kernel
theorem dX8_init_148 : decode cX8_init 148 = .ok (.aload_n 0, 1) := by decide +kernel
theorem dX8_init_149 : decode cX8_init 149 = .ok (.new 72, 3) := by decide +kernel
theorem dX8_init_152 : decode cX8_init 152 = .ok (.dup, 1) := by decide +kernel
theorem dX8_init_153 : decode cX8_init 153 = .ok (.invokespecial 74, 3) := by decide +kernel
theorem dX8_init_156 : decode cX8_init 156 = .ok (.putfield 75, 3) := by decide +kernel
theorem dX8_init_159 : decode cX8_init 159 = .ok (.return_, 1) := by decide +kernel
theorem dX8_story_0 : decode cX8_story 0 = .ok (.iload_n 1, 1) := by decide +kernel
theorem dX8_story_1 : decode cX8_story 1 = .ok (.bipush 6, 2) := by decide +kernel
theorem dX8_story_3 : decode cX8_story 3 = .ok (.invokestatic 79, 3) := by decide +kernel
theorem dX8_story_6 : decode cX8_story 6 = .ok (.ifCond .eq 21, 3) := by decide +kernel
theorem dX8_story_9 : decode cX8_story 9 = .ok (.iload_n 2, 1) := by decide +kernel
theorem dX8_story_10 : decode cX8_story 10 = .ok (.bipush 10, 2) := by decide +kernel
theorem dX8_story_12 : decode cX8_story 12 = .ok (.invokestatic 79, 3) := by decide +kernel
theorem dX8_story_15 : decode cX8_story 15 = .ok (.ifCond .eq 12, 3) := by decide +kernel
theorem dX8_story_18 : decode cX8_story 18 = .ok (.iload_n 3, 1) := by decide +kernel
theorem dX8_story_19 : decode cX8_story 19 = .ok (.bipush 10, 2) := by decide +kernel
theorem dX8_story_21 : decode cX8_story 21 = .ok (.invokestatic 79, 3) := by decide +kernel
theorem dX8_story_24 : decode cX8_story 24 = .ok (.ifCond .ne 6, 3) := by decide +kernel
theorem dX8_story_27 : decode cX8_story 27 = .ok (.bipush (-2), 2) := by decide +kernel
theorem dX8_story_29 : decode cX8_story 29 = .ok (.ireturn, 1) := by decide +kernel
theorem dX8_story_30 : decode cX8_story 30 = .ok (.aload_n 0, 1) := by decide +kernel
theorem dX8_story_31 : decode cX8_story 31 = .ok (.getfield 12, 3) := by decide +kernel
theorem dX8_story_34 : decode cX8_story 34 = .ok (.iload_n 1, 1) := by decide +kernel
theorem dX8_story_35 : decode cX8_story 35 = .ok (.iload_n 2, 1) := by decide +kernel
theorem dX8_story_36 : decode cX8_story 36 = .ok (.iload_n 3, 1) := by decide +kernel
theorem dX8_story_37 : decode cX8_story 37 = .ok (.invokevirtual 83, 3) := by decide +kernel
theorem dX8_story_40 : decode cX8_story 40 = .ok (.ireturn, 1) := by decide +kernel
theorem dX8_twin_0 : decode cX8_twin 0 = .ok (.aload_n 0, 1) := by decide +kernel
theorem dX8_twin_1 : decode cX8_twin 1 = .ok (.getfield 12, 3) := by decide +kernel
theorem dX8_twin_4 : decode cX8_twin 4 = .ok (.iload_n 1, 1) := by decide +kernel
theorem dX8_twin_5 : decode cX8_twin 5 = .ok (.invokevirtual 86, 3) := by decide +kernel
theorem dX8_twin_8 : decode cX8_twin 8 = .ok (.ifCond .eq 19, 3) := by decide +kernel
theorem dX8_twin_11 : decode cX8_twin 11 = .ok (.aload_n 0, 1) := by decide +kernel
theorem dX8_twin_12 : decode cX8_twin 12 = .ok (.getfield 12, 3) := by decide +kernel
theorem dX8_twin_15 : decode cX8_twin 15 = .ok (.iload_n 2, 1) := by decide +kernel
theorem dX8_twin_16 : decode cX8_twin 16 = .ok (.invokevirtual 86, 3) := by decide +kernel
theorem dX8_twin_19 : decode cX8_twin 19 = .ok (.ifCond .eq 8, 3) := by decide +kernel
theorem dX8_twin_22 : decode cX8_twin 22 = .ok (.iload_n 1, 1) := by decide +kernel
theorem dX8_twin_23 : decode cX8_twin 23 = .ok (.iload_n 2, 1) := by decide +kernel
theorem dX8_twin_24 : decode cX8_twin 24 = .ok (.if_icmp .ne 6, 3) := by decide +kernel
theorem dX8_twin_27 : decode cX8_twin 27 = .ok (.bipush (-2), 2) := by decide +kernel
theorem dX8_twin_29 : decode cX8_twin 29 = .ok (.ireturn, 1) := by decide +kernel
theorem dX8_twin_30 : decode cX8_twin 30 = .ok (.aload_n 0, 1) := by decide +kernel
theorem dX8_twin_31 : decode cX8_twin 31 = .ok (.getfield 12, 3) := by decide +kernel
theorem dX8_twin_34 : decode cX8_twin 34 = .ok (.iload_n 1, 1) := by decide +kernel
theorem dX8_twin_35 : decode cX8_twin 35 = .ok (.iload_n 2, 1) := by decide +kernel
theorem dX8_twin_36 : decode cX8_twin 36 = .ok (.invokevirtual 90, 3) := by decide +kernel
theorem dX8_twin_39 : decode cX8_twin 39 = .ok (.iconst 1, 1) := by decide +kernel
theorem dX8_twin_40 : decode cX8_twin 40 = .ok (.ireturn, 1) := by decide +kernel
theorem dX8_person_0 : decode cX8_person 0 = .ok (.aload_n 0, 1) := by decide +kernel
theorem dX8_person_1 : decode cX8_person 1 = .ok (.getfield 53, 3) := by decide +kernel
theorem dX8_person_4 : decode cX8_person 4 = .ok (.iload_n 1, 1) := by decide +kernel
theorem dX8_person_5 : decode cX8_person 5 = .ok (.iload_n 2, 1) := by decide +kernel
theorem dX8_person_6 : decode cX8_person 6 = .ok (.invokevirtual 94, 3) := by decide +kernel
theorem dX8_person_9 : decode cX8_person 9 = .ok (.ireturn, 1) := by decide +kernel
theorem dX8_set_0 : decode cX8_set 0 = .ok (.aload_n 0, 1) := by decide +kernel
theorem dX8_set_1 : decode cX8_set 1 = .ok (.getfield 53, 3) := by decide +kernel
theorem dX8_set_4 : decode cX8_set 4 = .ok (.iload_n 2, 1) := by decide +kernel
theorem dX8_set_5 : decode cX8_set 5 = .ok (.invokevirtual 98, 3) := by decide +kernel
theorem dX8_set_8 : decode cX8_set 8 = .ok (.ifCond .ne 6, 3) := by decide +kernel
theorem dX8_set_11 : decode cX8_set 11 = .ok (.bipush (-2), 2) := by decide +kernel
theorem dX8_set_13 : decode cX8_set 13 = .ok (.ireturn, 1) := by decide +kernel
theorem dX8_set_14 : decode cX8_set 14 = .ok (.iload_n 1, 1) := by decide +kernel
theorem dX8_set_15 : decode cX8_set 15 = .ok (.tableswitch 105 0 2 #[25, 50, 77], 25) := by decide +kernel
theorem dX8_set_40 : decode cX8_set 40 = .ok (.iload_n 3, 1) := by decide +kernel
theorem dX8_set_41 : decode cX8_set 41 = .ok (.invokestatic 99, 3) := by decide +kernel
theorem dX8_set_44 : decode cX8_set 44 = .ok (.ifCond .eq 18, 3) := by decide +kernel
theorem dX8_set_47 : decode cX8_set 47 = .ok (.aload_n 0, 1) := by decide +kernel
theorem dX8_set_48 : decode cX8_set 48 = .ok (.getfield 53, 3) := by decide +kernel
theorem dX8_set_51 : decode cX8_set 51 = .ok (.getfield 102, 3) := by decide +kernel
theorem dX8_set_54 : decode cX8_set 54 = .ok (.iload_n 2, 1) := by decide +kernel
theorem dX8_set_55 : decode cX8_set 55 = .ok (.iload_n 3, 1) := by decide +kernel
theorem dX8_set_56 : decode cX8_set 56 = .ok (.invokestatic 106, 3) := by decide +kernel
theorem dX8_set_59 : decode cX8_set 59 = .ok (.goto 5, 3) := by decide +kernel
theorem dX8_set_62 : decode cX8_set 62 = .ok (.bipush (-2), 2) := by decide +kernel
theorem dX8_set_64 : decode cX8_set 64 = .ok (.ireturn, 1) := by decide +kernel
theorem dX8_set_65 : decode cX8_set 65 = .ok (.iload_n 3, 1) := by decide +kernel
theorem dX8_set_66 : decode cX8_set 66 = .ok (.bipush 100, 2) := by decide +kernel
theorem dX8_set_68 : decode cX8_set 68 = .ok (.invokestatic 79, 3) := by decide +kernel
theorem dX8_set_71 : decode cX8_set 71 = .ok (.ifCond .eq 18, 3) := by decide +kernel
theorem dX8_set_74 : decode cX8_set 74 = .ok (.aload_n 0, 1) := by decide +kernel
theorem dX8_set_75 : decode cX8_set 75 = .ok (.getfield 53, 3) := by decide +kernel
theorem dX8_set_78 : decode cX8_set 78 = .ok (.getfield 110, 3) := by decide +kernel
theorem dX8_set_81 : decode cX8_set 81 = .ok (.iload_n 2, 1) := by decide +kernel
theorem dX8_set_82 : decode cX8_set 82 = .ok (.iload_n 3, 1) := by decide +kernel
theorem dX8_set_83 : decode cX8_set 83 = .ok (.invokestatic 106, 3) := by decide +kernel
theorem dX8_set_86 : decode cX8_set 86 = .ok (.goto 5, 3) := by decide +kernel
theorem dX8_set_89 : decode cX8_set 89 = .ok (.bipush (-2), 2) := by decide +kernel
theorem dX8_set_91 : decode cX8_set 91 = .ok (.ireturn, 1) := by decide +kernel
theorem dX8_set_92 : decode cX8_set 92 = .ok (.iload_n 3, 1) := by decide +kernel
theorem dX8_set_93 : decode cX8_set 93 = .ok (.sipush 256, 3) := by decide +kernel
theorem dX8_set_96 : decode cX8_set 96 = .ok (.invokestatic 79, 3) := by decide +kernel
theorem dX8_set_99 : decode cX8_set 99 = .ok (.ifCond .eq 18, 3) := by decide +kernel
theorem dX8_set_102 : decode cX8_set 102 = .ok (.aload_n 0, 1) := by decide +kernel
theorem dX8_set_103 : decode cX8_set 103 = .ok (.getfield 53, 3) := by decide +kernel
theorem dX8_set_106 : decode cX8_set 106 = .ok (.getfield 113, 3) := by decide +kernel
theorem dX8_set_109 : decode cX8_set 109 = .ok (.iload_n 2, 1) := by decide +kernel
theorem dX8_set_110 : decode cX8_set 110 = .ok (.iload_n 3, 1) := by decide +kernel
theorem dX8_set_111 : decode cX8_set 111 = .ok (.invokestatic 106, 3) := by decide +kernel
theorem dX8_set_114 : decode cX8_set 114 = .ok (.goto 5, 3) := by decide +kernel
theorem dX8_set_117 : decode cX8_set 117 = .ok (.bipush (-2), 2) := by decide +kernel
theorem dX8_set_119 : decode cX8_set 119 = .ok (.ireturn, 1) := by decide +kernel
theorem dX8_set_120 : decode cX8_set 120 = .ok (.bipush (-2), 2) := by decide +kernel
theorem dX8_set_122 : decode cX8_set 122 = .ok (.ireturn, 1) := by decide +kernel
theorem dX8_hears_0 : decode cX8_hears 0 = .ok (.aload_n 0, 1) := by decide +kernel
theorem dX8_hears_1 : decode cX8_hears 1 = .ok (.getfield 53, 3) := by decide +kernel
theorem dX8_hears_4 : decode cX8_hears 4 = .ok (.iload_n 1, 1) := by decide +kernel
theorem dX8_hears_5 : decode cX8_hears 5 = .ok (.invokevirtual 98, 3) := by decide +kernel
theorem dX8_hears_8 : decode cX8_hears 8 = .ok (.ifCond .eq 22, 3) := by decide +kernel
theorem dX8_hears_11 : decode cX8_hears 11 = .ok (.aload_n 0, 1) := by decide +kernel
theorem dX8_hears_12 : decode cX8_hears 12 = .ok (.getfield 12, 3) := by decide +kernel
theorem dX8_hears_15 : decode cX8_hears 15 = .ok (.iload_n 2, 1) := by decide +kernel
theorem dX8_hears_16 : decode cX8_hears 16 = .ok (.invokevirtual 86, 3) := by decide +kernel
theorem dX8_hears_19 : decode cX8_hears 19 = .ok (.ifCond .eq 11, 3) := by decide +kernel
theorem dX8_hears_22 : decode cX8_hears 22 = .ok (.iload_n 3, 1) := by decide +kernel
theorem dX8_hears_23 : decode cX8_hears 23 = .ok (.iconst 2, 1) := by decide +kernel
theorem dX8_hears_24 : decode cX8_hears 24 = .ok (.invokestatic 79, 3) := by decide +kernel
theorem dX8_hears_27 : decode cX8_hears 27 = .ok (.ifCond .ne 6, 3) := by decide +kernel
theorem dX8_hears_30 : decode cX8_hears 30 = .ok (.bipush (-2), 2) := by decide +kernel
theorem dX8_hears_32 : decode cX8_hears 32 = .ok (.ireturn, 1) := by decide +kernel
theorem dX8_hears_33 : decode cX8_hears 33 = .ok (.aload_n 0, 1) := by decide +kernel
theorem dX8_hears_34 : decode cX8_hears 34 = .ok (.getfield 53, 3) := by decide +kernel
theorem dX8_hears_37 : decode cX8_hears 37 = .ok (.getfield 116, 3) := by decide +kernel
theorem dX8_hears_40 : decode cX8_hears 40 = .ok (.iload_n 1, 1) := by decide +kernel
theorem dX8_hears_41 : decode cX8_hears 41 = .ok (.iaload, 1) := by decide +kernel
theorem dX8_hears_42 : decode cX8_hears 42 = .ok (.iload_n 2, 1) := by decide +kernel
theorem dX8_hears_43 : decode cX8_hears 43 = .ok (.ishr, 1) := by decide +kernel
theorem dX8_hears_44 : decode cX8_hears 44 = .ok (.iconst 1, 1) := by decide +kernel
theorem dX8_hears_45 : decode cX8_hears 45 = .ok (.iand, 1) := by decide +kernel
theorem dX8_hears_46 : decode cX8_hears 46 = .ok (.istore 4, 2) := by decide +kernel
theorem dX8_hears_48 : decode cX8_hears 48 = .ok (.iload_n 3, 1) := by decide +kernel
theorem dX8_hears_49 : decode cX8_hears 49 = .ok (.iconst 1, 1) := by decide +kernel
theorem dX8_hears_50 : decode cX8_hears 50 = .ok (.if_icmp .ne 15, 3) := by decide +kernel
theorem dX8_hears_53 : decode cX8_hears 53 = .ok (.aload_n 0, 1) := by decide +kernel
theorem dX8_hears_54 : decode cX8_hears 54 = .ok (.getfield 53, 3) := by decide +kernel
theorem dX8_hears_57 : decode cX8_hears 57 = .ok (.iload_n 1, 1) := by decide +kernel
theorem dX8_hears_58 : decode cX8_hears 58 = .ok (.iload_n 2, 1) := by decide +kernel
theorem dX8_hears_59 : decode cX8_hears 59 = .ok (.invokevirtual 119, 3) := by decide +kernel
theorem dX8_hears_62 : decode cX8_hears 62 = .ok (.goto 12, 3) := by decide +kernel
theorem dX8_hears_65 : decode cX8_hears 65 = .ok (.aload_n 0, 1) := by decide +kernel
theorem dX8_hears_66 : decode cX8_hears 66 = .ok (.getfield 53, 3) := by decide +kernel
theorem dX8_hears_69 : decode cX8_hears 69 = .ok (.iload_n 1, 1) := by decide +kernel
theorem dX8_hears_70 : decode cX8_hears 70 = .ok (.iload_n 2, 1) := by decide +kernel
theorem dX8_hears_71 : decode cX8_hears 71 = .ok (.invokevirtual 122, 3) := by decide +kernel
theorem dX8_hears_74 : decode cX8_hears 74 = .ok (.iload 4, 2) := by decide +kernel
theorem dX8_hears_76 : decode cX8_hears 76 = .ok (.ireturn, 1) := by decide +kernel
theorem dX8_told_0 : decode cX8_told 0 = .ok (.aload_n 0, 1) := by decide +kernel
theorem dX8_told_1 : decode cX8_told 1 = .ok (.getfield 12, 3) := by decide +kernel
theorem dX8_told_4 : decode cX8_told 4 = .ok (.iload_n 1, 1) := by decide +kernel
theorem dX8_told_5 : decode cX8_told 5 = .ok (.invokevirtual 86, 3) := by decide +kernel
theorem dX8_told_8 : decode cX8_told 8 = .ok (.ifCond .eq 12, 3) := by decide +kernel
theorem dX8_told_11 : decode cX8_told 11 = .ok (.iload_n 3, 1) := by decide +kernel
theorem dX8_told_12 : decode cX8_told 12 = .ok (.bipush 100, 2) := by decide +kernel
theorem dX8_told_14 : decode cX8_told 14 = .ok (.invokestatic 79, 3) := by decide +kernel
theorem dX8_told_17 : decode cX8_told 17 = .ok (.ifCond .ne 6, 3) := by decide +kernel
theorem dX8_told_20 : decode cX8_told 20 = .ok (.bipush (-2), 2) := by decide +kernel
theorem dX8_told_22 : decode cX8_told 22 = .ok (.ireturn, 1) := by decide +kernel
theorem dX8_told_23 : decode cX8_told 23 = .ok (.iload_n 2, 1) := by decide +kernel
theorem dX8_told_24 : decode cX8_told 24 = .ok (.tableswitch 99 0 5 #[40, 50, 60, 70, 80, 89], 40) := by decide +kernel
theorem dX8_told_64 : decode cX8_told 64 = .ok (.aload_n 0, 1) := by decide +kernel
theorem dX8_told_65 : decode cX8_told 65 = .ok (.getfield 12, 3) := by decide +kernel
theorem dX8_told_68 : decode cX8_told 68 = .ok (.getfield 125, 3) := by decide +kernel
theorem dX8_told_71 : decode cX8_told 71 = .ok (.iload_n 1, 1) := by decide +kernel
theorem dX8_told_72 : decode cX8_told 72 = .ok (.iaload, 1) := by decide +kernel
theorem dX8_told_73 : decode cX8_told 73 = .ok (.ireturn, 1) := by decide +kernel
theorem dX8_told_74 : decode cX8_told 74 = .ok (.aload_n 0, 1) := by decide +kernel
theorem dX8_told_75 : decode cX8_told 75 = .ok (.getfield 12, 3) := by decide +kernel
theorem dX8_told_78 : decode cX8_told 78 = .ok (.getfield 128, 3) := by decide +kernel
theorem dX8_told_81 : decode cX8_told 81 = .ok (.iload_n 1, 1) := by decide +kernel
theorem dX8_told_82 : decode cX8_told 82 = .ok (.iaload, 1) := by decide +kernel
theorem dX8_told_83 : decode cX8_told 83 = .ok (.ireturn, 1) := by decide +kernel
theorem dX8_told_84 : decode cX8_told 84 = .ok (.aload_n 0, 1) := by decide +kernel
theorem dX8_told_85 : decode cX8_told 85 = .ok (.getfield 12, 3) := by decide +kernel
theorem dX8_told_88 : decode cX8_told 88 = .ok (.getfield 131, 3) := by decide +kernel
theorem dX8_told_91 : decode cX8_told 91 = .ok (.iload_n 1, 1) := by decide +kernel
theorem dX8_told_92 : decode cX8_told 92 = .ok (.iaload, 1) := by decide +kernel
theorem dX8_told_93 : decode cX8_told 93 = .ok (.ireturn, 1) := by decide +kernel
theorem dX8_told_94 : decode cX8_told 94 = .ok (.aload_n 0, 1) := by decide +kernel
theorem dX8_told_95 : decode cX8_told 95 = .ok (.getfield 12, 3) := by decide +kernel
theorem dX8_told_98 : decode cX8_told 98 = .ok (.getfield 134, 3) := by decide +kernel
theorem dX8_told_101 : decode cX8_told 101 = .ok (.iload_n 1, 1) := by decide +kernel
theorem dX8_told_102 : decode cX8_told 102 = .ok (.iaload, 1) := by decide +kernel
theorem dX8_told_103 : decode cX8_told 103 = .ok (.ireturn, 1) := by decide +kernel
theorem dX8_told_104 : decode cX8_told 104 = .ok (.aload_n 0, 1) := by decide +kernel
theorem dX8_told_105 : decode cX8_told 105 = .ok (.getfield 12, 3) := by decide +kernel
theorem dX8_told_108 : decode cX8_told 108 = .ok (.iload_n 1, 1) := by decide +kernel
theorem dX8_told_109 : decode cX8_told 109 = .ok (.invokevirtual 137, 3) := by decide +kernel
theorem dX8_told_112 : decode cX8_told 112 = .ok (.ireturn, 1) := by decide +kernel
theorem dX8_told_113 : decode cX8_told 113 = .ok (.aload_n 0, 1) := by decide +kernel
theorem dX8_told_114 : decode cX8_told 114 = .ok (.getfield 12, 3) := by decide +kernel
theorem dX8_told_117 : decode cX8_told 117 = .ok (.iload_n 1, 1) := by decide +kernel
theorem dX8_told_118 : decode cX8_told 118 = .ok (.iload_n 3, 1) := by decide +kernel
theorem dX8_told_119 : decode cX8_told 119 = .ok (.invokevirtual 141, 3) := by decide +kernel
theorem dX8_told_122 : decode cX8_told 122 = .ok (.ireturn, 1) := by decide +kernel
theorem dX8_told_123 : decode cX8_told 123 = .ok (.bipush (-2), 2) := by decide +kernel
theorem dX8_told_125 : decode cX8_told 125 = .ok (.ireturn, 1) := by decide +kernel
theorem dX8_one_0 : decode cX8_one 0 = .ok (.aload_n 0, 1) := by decide +kernel
theorem dX8_one_1 : decode cX8_one 1 = .ok (.getfield 53, 3) := by decide +kernel
theorem dX8_one_4 : decode cX8_one 4 = .ok (.iload_n 1, 1) := by decide +kernel
theorem dX8_one_5 : decode cX8_one 5 = .ok (.invokevirtual 98, 3) := by decide +kernel
theorem dX8_one_8 : decode cX8_one 8 = .ok (.ifCond .ne 6, 3) := by decide +kernel
theorem dX8_one_11 : decode cX8_one 11 = .ok (.bipush (-2), 2) := by decide +kernel
theorem dX8_one_13 : decode cX8_one 13 = .ok (.ireturn, 1) := by decide +kernel
theorem dX8_one_14 : decode cX8_one 14 = .ok (.iload_n 2, 1) := by decide +kernel
theorem dX8_one_15 : decode cX8_one 15 = .ok (.tableswitch 82 0 4 #[33, 43, 53, 63, 73], 33) := by decide +kernel
theorem dX8_one_48 : decode cX8_one 48 = .ok (.aload_n 0, 1) := by decide +kernel
theorem dX8_one_49 : decode cX8_one 49 = .ok (.getfield 53, 3) := by decide +kernel
theorem dX8_one_52 : decode cX8_one 52 = .ok (.getfield 102, 3) := by decide +kernel
theorem dX8_one_55 : decode cX8_one 55 = .ok (.iload_n 1, 1) := by decide +kernel
theorem dX8_one_56 : decode cX8_one 56 = .ok (.iaload, 1) := by decide +kernel
theorem dX8_one_57 : decode cX8_one 57 = .ok (.ireturn, 1) := by decide +kernel
theorem dX8_one_58 : decode cX8_one 58 = .ok (.aload_n 0, 1) := by decide +kernel
theorem dX8_one_59 : decode cX8_one 59 = .ok (.getfield 53, 3) := by decide +kernel
theorem dX8_one_62 : decode cX8_one 62 = .ok (.getfield 110, 3) := by decide +kernel
theorem dX8_one_65 : decode cX8_one 65 = .ok (.iload_n 1, 1) := by decide +kernel
theorem dX8_one_66 : decode cX8_one 66 = .ok (.iaload, 1) := by decide +kernel
theorem dX8_one_67 : decode cX8_one 67 = .ok (.ireturn, 1) := by decide +kernel
theorem dX8_one_68 : decode cX8_one 68 = .ok (.aload_n 0, 1) := by decide +kernel
theorem dX8_one_69 : decode cX8_one 69 = .ok (.getfield 53, 3) := by decide +kernel
theorem dX8_one_72 : decode cX8_one 72 = .ok (.getfield 113, 3) := by decide +kernel
theorem dX8_one_75 : decode cX8_one 75 = .ok (.iload_n 1, 1) := by decide +kernel
theorem dX8_one_76 : decode cX8_one 76 = .ok (.iaload, 1) := by decide +kernel
theorem dX8_one_77 : decode cX8_one 77 = .ok (.ireturn, 1) := by decide +kernel
theorem dX8_one_78 : decode cX8_one 78 = .ok (.aload_n 0, 1) := by decide +kernel
theorem dX8_one_79 : decode cX8_one 79 = .ok (.getfield 53, 3) := by decide +kernel
theorem dX8_one_82 : decode cX8_one 82 = .ok (.getfield 116, 3) := by decide +kernel
theorem dX8_one_85 : decode cX8_one 85 = .ok (.iload_n 1, 1) := by decide +kernel
theorem dX8_one_86 : decode cX8_one 86 = .ok (.iaload, 1) := by decide +kernel
theorem dX8_one_87 : decode cX8_one 87 = .ok (.ireturn, 1) := by decide +kernel
theorem dX8_one_88 : decode cX8_one 88 = .ok (.aload_n 0, 1) := by decide +kernel
theorem dX8_one_89 : decode cX8_one 89 = .ok (.getfield 53, 3) := by decide +kernel
theorem dX8_one_92 : decode cX8_one 92 = .ok (.iload_n 1, 1) := by decide +kernel
theorem dX8_one_93 : decode cX8_one 93 = .ok (.invokevirtual 144, 3) := by decide +kernel
theorem dX8_one_96 : decode cX8_one 96 = .ok (.ireturn, 1) := by decide +kernel
theorem dX8_one_97 : decode cX8_one 97 = .ok (.bipush (-2), 2) := by decide +kernel
theorem dX8_one_99 : decode cX8_one 99 = .ok (.ireturn, 1) := by decide +kernel
theorem dX8_feed_0 : decode cX8_feed 0 = .ok (.iload_n 1, 1) := by decide +kernel
theorem dX8_feed_1 : decode cX8_feed 1 = .ok (.sipush 256, 3) := by decide +kernel
theorem dX8_feed_4 : decode cX8_feed 4 = .ok (.invokestatic 79, 3) := by decide +kernel
theorem dX8_feed_7 : decode cX8_feed 7 = .ok (.ifCond .eq 14, 3) := by decide +kernel
theorem dX8_feed_10 : decode cX8_feed 10 = .ok (.aload_n 0, 1) := by decide +kernel
theorem dX8_feed_11 : decode cX8_feed 11 = .ok (.getfield 26, 3) := by decide +kernel
theorem dX8_feed_14 : decode cX8_feed 14 = .ok (.iload_n 1, 1) := by decide +kernel
theorem dX8_feed_15 : decode cX8_feed 15 = .ok (.invokevirtual 147, 3) := by decide +kernel
theorem dX8_feed_18 : decode cX8_feed 18 = .ok (.goto 5, 3) := by decide +kernel
theorem dX8_feed_21 : decode cX8_feed 21 = .ok (.bipush (-2), 2) := by decide +kernel
theorem dX8_feed_23 : decode cX8_feed 23 = .ok (.ireturn, 1) := by decide +kernel
theorem dX8_text_0 : decode cX8_text 0 = .ok (.aload_n 0, 1) := by decide +kernel
theorem dX8_text_1 : decode cX8_text 1 = .ok (.getfield 19, 3) := by decide +kernel
theorem dX8_text_4 : decode cX8_text 4 = .ok (.invokevirtual 149, 3) := by decide +kernel
theorem dX8_text_7 : decode cX8_text 7 = .ok (.ifCond .eq 6, 3) := by decide +kernel
theorem dX8_text_10 : decode cX8_text 10 = .ok (.bipush (-4), 2) := by decide +kernel
theorem dX8_text_12 : decode cX8_text 12 = .ok (.ireturn, 1) := by decide +kernel
theorem dX8_text_13 : decode cX8_text 13 = .ok (.aload_n 0, 1) := by decide +kernel
theorem dX8_text_14 : decode cX8_text 14 = .ok (.getfield 26, 3) := by decide +kernel
theorem dX8_text_17 : decode cX8_text 17 = .ok (.invokevirtual 33, 3) := by decide +kernel
theorem dX8_text_20 : decode cX8_text 20 = .ok (.ifCond .eq 20, 3) := by decide +kernel
theorem dX8_text_23 : decode cX8_text 23 = .ok (.aload_n 0, 1) := by decide +kernel
theorem dX8_text_24 : decode cX8_text 24 = .ok (.getfield 19, 3) := by decide +kernel
theorem dX8_text_27 : decode cX8_text 27 = .ok (.aload_n 0, 1) := by decide +kernel
theorem dX8_text_28 : decode cX8_text 28 = .ok (.getfield 26, 3) := by decide +kernel
theorem dX8_text_31 : decode cX8_text 31 = .ok (.invokevirtual 37, 3) := by decide +kernel
theorem dX8_text_34 : decode cX8_text 34 = .ok (.invokevirtual 41, 3) := by decide +kernel
theorem dX8_text_37 : decode cX8_text 37 = .ok (.goto 13, 3) := by decide +kernel
theorem dX8_text_40 : decode cX8_text 40 = .ok (.bipush (-100), 2) := by decide +kernel
theorem dX8_text_42 : decode cX8_text 42 = .ok (.aload_n 0, 1) := by decide +kernel
theorem dX8_text_43 : decode cX8_text 43 = .ok (.getfield 26, 3) := by decide +kernel
theorem dX8_text_46 : decode cX8_text 46 = .ok (.invokevirtual 152, 3) := by decide +kernel
theorem dX8_text_49 : decode cX8_text 49 = .ok (.isub, 1) := by decide +kernel
theorem dX8_text_50 : decode cX8_text 50 = .ok (.istore_n 1, 1) := by decide +kernel
theorem dX8_text_51 : decode cX8_text 51 = .ok (.aload_n 0, 1) := by decide +kernel
theorem dX8_text_52 : decode cX8_text 52 = .ok (.getfield 26, 3) := by decide +kernel
theorem dX8_text_55 : decode cX8_text 55 = .ok (.invokevirtual 45, 3) := by decide +kernel
theorem dX8_text_58 : decode cX8_text 58 = .ok (.iload_n 1, 1) := by decide +kernel
theorem dX8_text_59 : decode cX8_text 59 = .ok (.ireturn, 1) := by decide +kernel
theorem dX8_force_0 : decode cX8_force 0 = .ok (.aload_n 0, 1) := by decide +kernel
theorem dX8_force_1 : decode cX8_force 1 = .ok (.getfield 19, 3) := by decide +kernel
theorem dX8_force_4 : decode cX8_force 4 = .ok (.iload_n 1, 1) := by decide +kernel
theorem dX8_force_5 : decode cX8_force 5 = .ok (.invokevirtual 156, 3) := by decide +kernel
theorem dX8_force_8 : decode cX8_force 8 = .ok (.ifCond .ne 6, 3) := by decide +kernel
theorem dX8_force_11 : decode cX8_force 11 = .ok (.bipush (-2), 2) := by decide +kernel
theorem dX8_force_13 : decode cX8_force 13 = .ok (.ireturn, 1) := by decide +kernel
theorem dX8_force_14 : decode cX8_force 14 = .ok (.aload_n 0, 1) := by decide +kernel
theorem dX8_force_15 : decode cX8_force 15 = .ok (.getfield 53, 3) := by decide +kernel
theorem dX8_force_18 : decode cX8_force 18 = .ok (.getfield 157, 3) := by decide +kernel
theorem dX8_force_21 : decode cX8_force 21 = .ok (.istore_n 2, 1) := by decide +kernel
theorem dX8_force_22 : decode cX8_force 22 = .ok (.aload_n 0, 1) := by decide +kernel
theorem dX8_force_23 : decode cX8_force 23 = .ok (.getfield 53, 3) := by decide +kernel
theorem dX8_force_26 : decode cX8_force 26 = .ok (.iload_n 1, 1) := by decide +kernel
theorem dX8_force_27 : decode cX8_force 27 = .ok (.putfield 157, 3) := by decide +kernel
theorem dX8_force_30 : decode cX8_force 30 = .ok (.iload_n 2, 1) := by decide +kernel
theorem dX8_force_31 : decode cX8_force 31 = .ok (.ireturn, 1) := by decide +kernel
theorem dX8_may_0 : decode cX8_may 0 = .ok (.iload_n 1, 1) := by decide +kernel
theorem dX8_may_1 : decode cX8_may 1 = .ok (.invokestatic 99, 3) := by decide +kernel
theorem dX8_may_4 : decode cX8_may 4 = .ok (.ifCond .eq 14, 3) := by decide +kernel
theorem dX8_may_7 : decode cX8_may 7 = .ok (.aload_n 0, 1) := by decide +kernel
theorem dX8_may_8 : decode cX8_may 8 = .ok (.getfield 53, 3) := by decide +kernel
theorem dX8_may_11 : decode cX8_may 11 = .ok (.iload_n 1, 1) := by decide +kernel
theorem dX8_may_12 : decode cX8_may 12 = .ok (.invokevirtual 161, 3) := by decide +kernel
theorem dX8_may_15 : decode cX8_may 15 = .ok (.goto 5, 3) := by decide +kernel
theorem dX8_may_18 : decode cX8_may 18 = .ok (.bipush (-2), 2) := by decide +kernel
theorem dX8_may_20 : decode cX8_may 20 = .ok (.ireturn, 1) := by decide +kernel
theorem dX8_by_0 : decode cX8_by 0 = .ok (.iload_n 1, 1) := by decide +kernel
theorem dX8_by_1 : decode cX8_by 1 = .ok (.invokestatic 99, 3) := by decide +kernel
theorem dX8_by_4 : decode cX8_by 4 = .ok (.ifCond .eq 26, 3) := by decide +kernel
theorem dX8_by_7 : decode cX8_by 7 = .ok (.aload_n 0, 1) := by decide +kernel
theorem dX8_by_8 : decode cX8_by 8 = .ok (.getfield 12, 3) := by decide +kernel
theorem dX8_by_11 : decode cX8_by 11 = .ok (.iload_n 2, 1) := by decide +kernel
theorem dX8_by_12 : decode cX8_by 12 = .ok (.invokevirtual 86, 3) := by decide +kernel
theorem dX8_by_15 : decode cX8_by 15 = .ok (.ifCond .eq 15, 3) := by decide +kernel
theorem dX8_by_18 : decode cX8_by 18 = .ok (.aload_n 0, 1) := by decide +kernel
theorem dX8_by_19 : decode cX8_by 19 = .ok (.getfield 53, 3) := by decide +kernel
theorem dX8_by_22 : decode cX8_by 22 = .ok (.iload_n 1, 1) := by decide +kernel
theorem dX8_by_23 : decode cX8_by 23 = .ok (.iload_n 2, 1) := by decide +kernel
theorem dX8_by_24 : decode cX8_by 24 = .ok (.invokevirtual 164, 3) := by decide +kernel
theorem dX8_by_27 : decode cX8_by 27 = .ok (.goto 5, 3) := by decide +kernel
theorem dX8_by_30 : decode cX8_by 30 = .ok (.bipush (-2), 2) := by decide +kernel
theorem dX8_by_32 : decode cX8_by 32 = .ok (.ireturn, 1) := by decide +kernel
theorem dX8_worth_0 : decode cX8_worth 0 = .ok (.iload_n 1, 1) := by decide +kernel
theorem dX8_worth_1 : decode cX8_worth 1 = .ok (.invokestatic 99, 3) := by decide +kernel
theorem dX8_worth_4 : decode cX8_worth 4 = .ok (.ifCond .eq 26, 3) := by decide +kernel
theorem dX8_worth_7 : decode cX8_worth 7 = .ok (.aload_n 0, 1) := by decide +kernel
theorem dX8_worth_8 : decode cX8_worth 8 = .ok (.getfield 12, 3) := by decide +kernel
theorem dX8_worth_11 : decode cX8_worth 11 = .ok (.iload_n 2, 1) := by decide +kernel
theorem dX8_worth_12 : decode cX8_worth 12 = .ok (.invokevirtual 86, 3) := by decide +kernel
theorem dX8_worth_15 : decode cX8_worth 15 = .ok (.ifCond .eq 15, 3) := by decide +kernel
theorem dX8_worth_18 : decode cX8_worth 18 = .ok (.aload_n 0, 1) := by decide +kernel
theorem dX8_worth_19 : decode cX8_worth 19 = .ok (.getfield 53, 3) := by decide +kernel
theorem dX8_worth_22 : decode cX8_worth 22 = .ok (.iload_n 1, 1) := by decide +kernel
theorem dX8_worth_23 : decode cX8_worth 23 = .ok (.iload_n 2, 1) := by decide +kernel
theorem dX8_worth_24 : decode cX8_worth 24 = .ok (.invokevirtual 167, 3) := by decide +kernel
theorem dX8_worth_27 : decode cX8_worth 27 = .ok (.goto 6, 3) := by decide +kernel
theorem dX8_worth_30 : decode cX8_worth 30 = .ok (.ldc2_w 171, 3) := by decide +kernel
theorem dX8_worth_33 : decode cX8_worth 33 = .ok (.lreturn, 1) := by decide +kernel
theorem dX8_most_0 : decode cX8_most 0 = .ok (.iload_n 1, 1) := by decide +kernel
theorem dX8_most_1 : decode cX8_most 1 = .ok (.invokestatic 99, 3) := by decide +kernel
theorem dX8_most_4 : decode cX8_most 4 = .ok (.ifCond .eq 11, 3) := by decide +kernel
theorem dX8_most_7 : decode cX8_most 7 = .ok (.iload_n 2, 1) := by decide +kernel
theorem dX8_most_8 : decode cX8_most 8 = .ok (.iconst 2, 1) := by decide +kernel
theorem dX8_most_9 : decode cX8_most 9 = .ok (.invokestatic 79, 3) := by decide +kernel
theorem dX8_most_12 : decode cX8_most 12 = .ok (.ifCond .ne 7, 3) := by decide +kernel
theorem dX8_most_15 : decode cX8_most 15 = .ok (.ldc2_w 171, 3) := by decide +kernel
theorem dX8_most_18 : decode cX8_most 18 = .ok (.lreturn, 1) := by decide +kernel
theorem dX8_most_19 : decode cX8_most 19 = .ok (.aload_n 0, 1) := by decide +kernel
theorem dX8_most_20 : decode cX8_most 20 = .ok (.getfield 53, 3) := by decide +kernel
theorem dX8_most_23 : decode cX8_most 23 = .ok (.iload_n 1, 1) := by decide +kernel
theorem dX8_most_24 : decode cX8_most 24 = .ok (.invokevirtual 173, 3) := by decide +kernel
theorem dX8_most_27 : decode cX8_most 27 = .ok (.istore_n 3, 1) := by decide +kernel
theorem dX8_most_28 : decode cX8_most 28 = .ok (.iload_n 3, 1) := by decide +kernel
theorem dX8_most_29 : decode cX8_most 29 = .ok (.iconst (-1), 1) := by decide +kernel
theorem dX8_most_30 : decode cX8_most 30 = .ok (.if_icmp .ne 7, 3) := by decide +kernel
theorem dX8_most_33 : decode cX8_most 33 = .ok (.ldc2_w 171, 3) := by decide +kernel
theorem dX8_most_36 : decode cX8_most 36 = .ok (.lreturn, 1) := by decide +kernel
theorem dX8_most_37 : decode cX8_most 37 = .ok (.iload_n 2, 1) := by decide +kernel
theorem dX8_most_38 : decode cX8_most 38 = .ok (.ifCond .ne 8, 3) := by decide +kernel
theorem dX8_most_41 : decode cX8_most 41 = .ok (.iload_n 3, 1) := by decide +kernel
theorem dX8_most_42 : decode cX8_most 42 = .ok (.i2l, 1) := by decide +kernel
theorem dX8_most_43 : decode cX8_most 43 = .ok (.goto 12, 3) := by decide +kernel
theorem dX8_most_46 : decode cX8_most 46 = .ok (.aload_n 0, 1) := by decide +kernel
theorem dX8_most_47 : decode cX8_most 47 = .ok (.getfield 53, 3) := by decide +kernel
theorem dX8_most_50 : decode cX8_most 50 = .ok (.iload_n 1, 1) := by decide +kernel
theorem dX8_most_51 : decode cX8_most 51 = .ok (.iload_n 3, 1) := by decide +kernel
theorem dX8_most_52 : decode cX8_most 52 = .ok (.invokevirtual 167, 3) := by decide +kernel
theorem dX8_most_55 : decode cX8_most 55 = .ok (.lreturn, 1) := by decide +kernel
theorem dX8_tell_0 : decode cX8_tell 0 = .ok (.iload_n 1, 1) := by decide +kernel
theorem dX8_tell_1 : decode cX8_tell 1 = .ok (.invokestatic 99, 3) := by decide +kernel
theorem dX8_tell_4 : decode cX8_tell 4 = .ok (.ifCond .eq 26, 3) := by decide +kernel
theorem dX8_tell_7 : decode cX8_tell 7 = .ok (.aload_n 0, 1) := by decide +kernel
theorem dX8_tell_8 : decode cX8_tell 8 = .ok (.getfield 12, 3) := by decide +kernel
theorem dX8_tell_11 : decode cX8_tell 11 = .ok (.iload_n 2, 1) := by decide +kernel
theorem dX8_tell_12 : decode cX8_tell 12 = .ok (.invokevirtual 86, 3) := by decide +kernel
theorem dX8_tell_15 : decode cX8_tell 15 = .ok (.ifCond .eq 15, 3) := by decide +kernel
theorem dX8_tell_18 : decode cX8_tell 18 = .ok (.aload_n 0, 1) := by decide +kernel
theorem dX8_tell_19 : decode cX8_tell 19 = .ok (.getfield 53, 3) := by decide +kernel
theorem dX8_tell_22 : decode cX8_tell 22 = .ok (.iload_n 1, 1) := by decide +kernel
theorem dX8_tell_23 : decode cX8_tell 23 = .ok (.iload_n 2, 1) := by decide +kernel
theorem dX8_tell_24 : decode cX8_tell 24 = .ok (.invokevirtual 176, 3) := by decide +kernel
theorem dX8_tell_27 : decode cX8_tell 27 = .ok (.goto 5, 3) := by decide +kernel
theorem dX8_tell_30 : decode cX8_tell 30 = .ok (.bipush (-2), 2) := by decide +kernel
theorem dX8_tell_32 : decode cX8_tell 32 = .ok (.ireturn, 1) := by decide +kernel
theorem dX8_pass_0 : decode cX8_pass 0 = .ok (.aload_n 0, 1) := by decide +kernel
theorem dX8_pass_1 : decode cX8_pass 1 = .ok (.getfield 53, 3) := by decide +kernel
theorem dX8_pass_4 : decode cX8_pass 4 = .ok (.invokevirtual 179, 3) := by decide +kernel
theorem dX8_pass_7 : decode cX8_pass 7 = .ok (.aload_n 0, 1) := by decide +kernel
theorem dX8_pass_8 : decode cX8_pass 8 = .ok (.getfield 53, 3) := by decide +kernel
theorem dX8_pass_11 : decode cX8_pass 11 = .ok (.getfield 182, 3) := by decide +kernel
theorem dX8_pass_14 : decode cX8_pass 14 = .ok (.ireturn, 1) := by decide +kernel
theorem dX8_goesOn_0 : decode cX8_goesOn 0 = .ok (.iload_n 1, 1) := by decide +kernel
theorem dX8_goesOn_1 : decode cX8_goesOn 1 = .ok (.invokestatic 99, 3) := by decide +kernel
theorem dX8_goesOn_4 : decode cX8_goesOn 4 = .ok (.ifCond .eq 11, 3) := by decide +kernel
theorem dX8_goesOn_7 : decode cX8_goesOn 7 = .ok (.iload_n 2, 1) := by decide +kernel
theorem dX8_goesOn_8 : decode cX8_goesOn 8 = .ok (.iconst 2, 1) := by decide +kernel
theorem dX8_goesOn_9 : decode cX8_goesOn 9 = .ok (.invokestatic 79, 3) := by decide +kernel
theorem dX8_goesOn_12 : decode cX8_goesOn 12 = .ok (.ifCond .ne 6, 3) := by decide +kernel
theorem dX8_goesOn_15 : decode cX8_goesOn 15 = .ok (.bipush (-2), 2) := by decide +kernel
theorem dX8_goesOn_17 : decode cX8_goesOn 17 = .ok (.ireturn, 1) := by decide +kernel
theorem dX8_goesOn_18 : decode cX8_goesOn 18 = .ok (.aload_n 0, 1) := by decide +kernel
theorem dX8_goesOn_19 : decode cX8_goesOn 19 = .ok (.getfield 53, 3) := by decide +kernel
theorem dX8_goesOn_22 : decode cX8_goesOn 22 = .ok (.iload_n 1, 1) := by decide +kernel
theorem dX8_goesOn_23 : decode cX8_goesOn 23 = .ok (.invokevirtual 185, 3) := by decide +kernel
theorem dX8_goesOn_26 : decode cX8_goesOn 26 = .ok (.istore_n 3, 1) := by decide +kernel
theorem dX8_goesOn_27 : decode cX8_goesOn 27 = .ok (.iconst 0, 1) := by decide +kernel
theorem dX8_goesOn_28 : decode cX8_goesOn 28 = .ok (.istore 4, 2) := by decide +kernel
theorem dX8_goesOn_30 : decode cX8_goesOn 30 = .ok (.iconst 1, 1) := by decide +kernel
theorem dX8_goesOn_31 : decode cX8_goesOn 31 = .ok (.istore 5, 2) := by decide +kernel
theorem dX8_goesOn_33 : decode cX8_goesOn 33 = .ok (.iload 5, 2) := by decide +kernel
theorem dX8_goesOn_35 : decode cX8_goesOn 35 = .ok (.sipush 256, 3) := by decide +kernel
theorem dX8_goesOn_38 : decode cX8_goesOn 38 = .ok (.if_icmp .ge 45, 3) := by decide +kernel
theorem dX8_goesOn_41 : decode cX8_goesOn 41 = .ok (.iload 5, 2) := by decide +kernel
theorem dX8_goesOn_43 : decode cX8_goesOn 43 = .ok (.iload_n 3, 1) := by decide +kernel
theorem dX8_goesOn_44 : decode cX8_goesOn 44 = .ok (.iconst (-1), 1) := by decide +kernel
theorem dX8_goesOn_45 : decode cX8_goesOn 45 = .ok (.ixor, 1) := by decide +kernel
theorem dX8_goesOn_46 : decode cX8_goesOn 46 = .ok (.iand, 1) := by decide +kernel
theorem dX8_goesOn_47 : decode cX8_goesOn 47 = .ok (.ifCond .ne 30, 3) := by decide +kernel
theorem dX8_goesOn_50 : decode cX8_goesOn 50 = .ok (.iload 5, 2) := by decide +kernel
theorem dX8_goesOn_52 : decode cX8_goesOn 52 = .ok (.invokestatic 188, 3) := by decide +kernel
theorem dX8_goesOn_55 : decode cX8_goesOn 55 = .ok (.iload 4, 2) := by decide +kernel
theorem dX8_goesOn_57 : decode cX8_goesOn 57 = .ok (.invokestatic 188, 3) := by decide +kernel
theorem dX8_goesOn_60 : decode cX8_goesOn 60 = .ok (.if_icmp .le 17, 3) := by decide +kernel
theorem dX8_goesOn_63 : decode cX8_goesOn 63 = .ok (.aload_n 0, 1) := by decide +kernel
theorem dX8_goesOn_64 : decode cX8_goesOn 64 = .ok (.iload_n 1, 1) := by decide +kernel
theorem dX8_goesOn_65 : decode cX8_goesOn 65 = .ok (.iload 5, 2) := by decide +kernel
theorem dX8_goesOn_67 : decode cX8_goesOn 67 = .ok (.invokevirtual 193, 3) := by decide +kernel
theorem dX8_goesOn_70 : decode cX8_goesOn 70 = .ok (.ifCond .eq 7, 3) := by decide +kernel
theorem dX8_goesOn_73 : decode cX8_goesOn 73 = .ok (.iload 5, 2) := by decide +kernel
theorem dX8_goesOn_75 : decode cX8_goesOn 75 = .ok (.istore 4, 2) := by decide +kernel
theorem dX8_goesOn_77 : decode cX8_goesOn 77 = .ok (.iinc 5 1, 3) := by decide +kernel
theorem dX8_goesOn_80 : decode cX8_goesOn 80 = .ok (.goto (-47), 3) := by decide +kernel
theorem dX8_goesOn_83 : decode cX8_goesOn 83 = .ok (.iload_n 2, 1) := by decide +kernel
theorem dX8_goesOn_84 : decode cX8_goesOn 84 = .ok (.ifCond .ne 11, 3) := by decide +kernel
theorem dX8_goesOn_87 : decode cX8_goesOn 87 = .ok (.iload 4, 2) := by decide +kernel
theorem dX8_goesOn_89 : decode cX8_goesOn 89 = .ok (.invokestatic 188, 3) := by decide +kernel
theorem dX8_goesOn_92 : decode cX8_goesOn 92 = .ok (.goto 5, 3) := by decide +kernel
theorem dX8_goesOn_95 : decode cX8_goesOn 95 = .ok (.iload 4, 2) := by decide +kernel
theorem dX8_goesOn_97 : decode cX8_goesOn 97 = .ok (.ireturn, 1) := by decide +kernel
theorem dX8_spread_0 : decode cX8_spread 0 = .ok (.iload_n 1, 1) := by decide +kernel
theorem dX8_spread_1 : decode cX8_spread 1 = .ok (.iconst 1, 1) := by decide +kernel
theorem dX8_spread_2 : decode cX8_spread 2 = .ok (.if_icmp .lt 24, 3) := by decide +kernel
theorem dX8_spread_5 : decode cX8_spread 5 = .ok (.iload_n 1, 1) := by decide +kernel
theorem dX8_spread_6 : decode cX8_spread 6 = .ok (.iconst 4, 1) := by decide +kernel
theorem dX8_spread_7 : decode cX8_spread 7 = .ok (.if_icmp .gt 19, 3) := by decide +kernel
theorem dX8_spread_10 : decode cX8_spread 10 = .ok (.iload_n 2, 1) := by decide +kernel
theorem dX8_spread_11 : decode cX8_spread 11 = .ok (.iconst (-1), 1) := by decide +kernel
theorem dX8_spread_12 : decode cX8_spread 12 = .ok (.if_icmp .eq 17, 3) := by decide +kernel
theorem dX8_spread_15 : decode cX8_spread 15 = .ok (.aload_n 0, 1) := by decide +kernel
theorem dX8_spread_16 : decode cX8_spread 16 = .ok (.getfield 53, 3) := by decide +kernel
theorem dX8_spread_19 : decode cX8_spread 19 = .ok (.iload_n 2, 1) := by decide +kernel
theorem dX8_spread_20 : decode cX8_spread 20 = .ok (.invokevirtual 98, 3) := by decide +kernel
theorem dX8_spread_23 : decode cX8_spread 23 = .ok (.ifCond .ne 6, 3) := by decide +kernel
theorem dX8_spread_26 : decode cX8_spread 26 = .ok (.bipush (-2), 2) := by decide +kernel
theorem dX8_spread_28 : decode cX8_spread 28 = .ok (.ireturn, 1) := by decide +kernel
theorem dX8_spread_29 : decode cX8_spread 29 = .ok (.aload_n 0, 1) := by decide +kernel
theorem dX8_spread_30 : decode cX8_spread 30 = .ok (.getfield 68, 3) := by decide +kernel
theorem dX8_spread_33 : decode cX8_spread 33 = .ok (.iload_n 1, 1) := by decide +kernel
theorem dX8_spread_34 : decode cX8_spread 34 = .ok (.invokevirtual 196, 3) := by decide +kernel
theorem dX8_spread_37 : decode cX8_spread 37 = .ok (.sipush 4096, 3) := by decide +kernel
theorem dX8_spread_40 : decode cX8_spread 40 = .ok (.if_icmp .le 6, 3) := by decide +kernel
theorem dX8_spread_43 : decode cX8_spread 43 = .ok (.bipush (-2), 2) := by decide +kernel
theorem dX8_spread_45 : decode cX8_spread 45 = .ok (.ireturn, 1) := by decide +kernel
theorem dX8_spread_46 : decode cX8_spread 46 = .ok (.aload_n 0, 1) := by decide +kernel
theorem dX8_spread_47 : decode cX8_spread 47 = .ok (.getfield 68, 3) := by decide +kernel
theorem dX8_spread_50 : decode cX8_spread 50 = .ok (.iload_n 1, 1) := by decide +kernel
theorem dX8_spread_51 : decode cX8_spread 51 = .ok (.invokevirtual 199, 3) := by decide +kernel
theorem dX8_spread_54 : decode cX8_spread 54 = .ok (.iload_n 2, 1) := by decide +kernel
theorem dX8_spread_55 : decode cX8_spread 55 = .ok (.iconst (-1), 1) := by decide +kernel
theorem dX8_spread_56 : decode cX8_spread 56 = .ok (.if_icmp .ne 13, 3) := by decide +kernel
theorem dX8_spread_59 : decode cX8_spread 59 = .ok (.aload_n 0, 1) := by decide +kernel
theorem dX8_spread_60 : decode cX8_spread 60 = .ok (.getfield 68, 3) := by decide +kernel
theorem dX8_spread_63 : decode cX8_spread 63 = .ok (.getfield 203, 3) := by decide +kernel
theorem dX8_spread_66 : decode cX8_spread 66 = .ok (.goto 12, 3) := by decide +kernel
theorem dX8_spread_69 : decode cX8_spread 69 = .ok (.aload_n 0, 1) := by decide +kernel
theorem dX8_spread_70 : decode cX8_spread 70 = .ok (.getfield 68, 3) := by decide +kernel
theorem dX8_spread_73 : decode cX8_spread 73 = .ok (.getfield 206, 3) := by decide +kernel
theorem dX8_spread_76 : decode cX8_spread 76 = .ok (.iload_n 2, 1) := by decide +kernel
theorem dX8_spread_77 : decode cX8_spread 77 = .ok (.iaload, 1) := by decide +kernel
theorem dX8_spread_78 : decode cX8_spread 78 = .ok (.ireturn, 1) := by decide +kernel
theorem dX8_keepAway_0 : decode cX8_keepAway 0 = .ok (.iload_n 1, 1) := by decide +kernel
theorem dX8_keepAway_1 : decode cX8_keepAway 1 = .ok (.invokestatic 99, 3) := by decide +kernel
theorem dX8_keepAway_4 : decode cX8_keepAway 4 = .ok (.ifCond .ne 6, 3) := by decide +kernel
theorem dX8_keepAway_7 : decode cX8_keepAway 7 = .ok (.bipush (-2), 2) := by decide +kernel
theorem dX8_keepAway_9 : decode cX8_keepAway 9 = .ok (.ireturn, 1) := by decide +kernel
theorem dX8_keepAway_10 : decode cX8_keepAway 10 = .ok (.aload_n 0, 1) := by decide +kernel
theorem dX8_keepAway_11 : decode cX8_keepAway 11 = .ok (.getfield 57, 3) := by decide +kernel
theorem dX8_keepAway_14 : decode cX8_keepAway 14 = .ok (.aload_n 0, 1) := by decide +kernel
theorem dX8_keepAway_15 : decode cX8_keepAway 15 = .ok (.getfield 53, 3) := by decide +kernel
theorem dX8_keepAway_18 : decode cX8_keepAway 18 = .ok (.invokevirtual 209, 3) := by decide +kernel
theorem dX8_keepAway_21 : decode cX8_keepAway 21 = .ok (.iconst (-1), 1) := by decide +kernel
theorem dX8_keepAway_22 : decode cX8_keepAway 22 = .ok (.istore_n 2, 1) := by decide +kernel
theorem dX8_keepAway_23 : decode cX8_keepAway 23 = .ok (.iconst (-1), 1) := by decide +kernel
theorem dX8_keepAway_24 : decode cX8_keepAway 24 = .ok (.istore_n 3, 1) := by decide +kernel
theorem dX8_keepAway_25 : decode cX8_keepAway 25 = .ok (.iconst 0, 1) := by decide +kernel
theorem dX8_keepAway_26 : decode cX8_keepAway 26 = .ok (.istore 4, 2) := by decide +kernel
theorem dX8_keepAway_28 : decode cX8_keepAway 28 = .ok (.iload 4, 2) := by decide +kernel
theorem dX8_keepAway_30 : decode cX8_keepAway 30 = .ok (.aload_n 0, 1) := by decide +kernel
theorem dX8_keepAway_31 : decode cX8_keepAway 31 = .ok (.getfield 53, 3) := by decide +kernel
theorem dX8_keepAway_34 : decode cX8_keepAway 34 = .ok (.getfield 212, 3) := by decide +kernel
theorem dX8_keepAway_37 : decode cX8_keepAway 37 = .ok (.if_icmp .ge 73, 3) := by decide +kernel
theorem dX8_keepAway_40 : decode cX8_keepAway 40 = .ok (.aload_n 0, 1) := by decide +kernel
theorem dX8_keepAway_41 : decode cX8_keepAway 41 = .ok (.getfield 53, 3) := by decide +kernel
theorem dX8_keepAway_44 : decode cX8_keepAway 44 = .ok (.getfield 102, 3) := by decide +kernel
theorem dX8_keepAway_47 : decode cX8_keepAway 47 = .ok (.iload 4, 2) := by decide +kernel
theorem dX8_keepAway_49 : decode cX8_keepAway 49 = .ok (.iaload, 1) := by decide +kernel
theorem dX8_keepAway_50 : decode cX8_keepAway 50 = .ok (.iload_n 1, 1) := by decide +kernel
theorem dX8_keepAway_51 : decode cX8_keepAway 51 = .ok (.if_icmp .eq 6, 3) := by decide +kernel
theorem dX8_keepAway_54 : decode cX8_keepAway 54 = .ok (.goto 50, 3) := by decide +kernel
theorem dX8_keepAway_57 : decode cX8_keepAway 57 = .ok (.aload_n 0, 1) := by decide +kernel
theorem dX8_keepAway_58 : decode cX8_keepAway 58 = .ok (.getfield 57, 3) := by decide +kernel
theorem dX8_keepAway_61 : decode cX8_keepAway 61 = .ok (.getfield 102, 3) := by decide +kernel
theorem dX8_keepAway_64 : decode cX8_keepAway 64 = .ok (.iload 4, 2) := by decide +kernel
theorem dX8_keepAway_66 : decode cX8_keepAway 66 = .ok (.iconst (-1), 1) := by decide +kernel
theorem dX8_keepAway_67 : decode cX8_keepAway 67 = .ok (.iastore, 1) := by decide +kernel
theorem dX8_keepAway_68 : decode cX8_keepAway 68 = .ok (.aload_n 0, 1) := by decide +kernel
theorem dX8_keepAway_69 : decode cX8_keepAway 69 = .ok (.getfield 57, 3) := by decide +kernel
theorem dX8_keepAway_72 : decode cX8_keepAway 72 = .ok (.iload_n 1, 1) := by decide +kernel
theorem dX8_keepAway_73 : decode cX8_keepAway 73 = .ok (.invokevirtual 161, 3) := by decide +kernel
theorem dX8_keepAway_76 : decode cX8_keepAway 76 = .ok (.invokestatic 188, 3) := by decide +kernel
theorem dX8_keepAway_79 : decode cX8_keepAway 79 = .ok (.istore 5, 2) := by decide +kernel
theorem dX8_keepAway_81 : decode cX8_keepAway 81 = .ok (.aload_n 0, 1) := by decide +kernel
theorem dX8_keepAway_82 : decode cX8_keepAway 82 = .ok (.getfield 57, 3) := by decide +kernel
theorem dX8_keepAway_85 : decode cX8_keepAway 85 = .ok (.getfield 102, 3) := by decide +kernel
theorem dX8_keepAway_88 : decode cX8_keepAway 88 = .ok (.iload 4, 2) := by decide +kernel
theorem dX8_keepAway_90 : decode cX8_keepAway 90 = .ok (.iload_n 1, 1) := by decide +kernel
theorem dX8_keepAway_91 : decode cX8_keepAway 91 = .ok (.iastore, 1) := by decide +kernel
theorem dX8_keepAway_92 : decode cX8_keepAway 92 = .ok (.iload 5, 2) := by decide +kernel
theorem dX8_keepAway_94 : decode cX8_keepAway 94 = .ok (.iload_n 3, 1) := by decide +kernel
theorem dX8_keepAway_95 : decode cX8_keepAway 95 = .ok (.if_icmp .le 9, 3) := by decide +kernel
theorem dX8_keepAway_98 : decode cX8_keepAway 98 = .ok (.iload 5, 2) := by decide +kernel
theorem dX8_keepAway_100 : decode cX8_keepAway 100 = .ok (.istore_n 3, 1) := by decide +kernel
theorem dX8_keepAway_101 : decode cX8_keepAway 101 = .ok (.iload 4, 2) := by decide +kernel
theorem dX8_keepAway_103 : decode cX8_keepAway 103 = .ok (.istore_n 2, 1) := by decide +kernel
theorem dX8_keepAway_104 : decode cX8_keepAway 104 = .ok (.iinc 4 1, 3) := by decide +kernel
theorem dX8_keepAway_107 : decode cX8_keepAway 107 = .ok (.goto (-79), 3) := by decide +kernel
theorem dX8_keepAway_110 : decode cX8_keepAway 110 = .ok (.iload_n 2, 1) := by decide +kernel
theorem dX8_keepAway_111 : decode cX8_keepAway 111 = .ok (.ireturn, 1) := by decide +kernel
theorem dX8_send_0 : decode cX8_send 0 = .ok (.aload_n 0, 1) := by decide +kernel
theorem dX8_send_1 : decode cX8_send 1 = .ok (.getfield 53, 3) := by decide +kernel
theorem dX8_send_4 : decode cX8_send 4 = .ok (.iload_n 1, 1) := by decide +kernel
theorem dX8_send_5 : decode cX8_send 5 = .ok (.invokevirtual 98, 3) := by decide +kernel
theorem dX8_send_8 : decode cX8_send 8 = .ok (.ifCond .eq 11, 3) := by decide +kernel
theorem dX8_send_11 : decode cX8_send 11 = .ok (.iload_n 2, 1) := by decide +kernel
theorem dX8_send_12 : decode cX8_send 12 = .ok (.iconst 2, 1) := by decide +kernel
theorem dX8_send_13 : decode cX8_send 13 = .ok (.invokestatic 79, 3) := by decide +kernel
theorem dX8_send_16 : decode cX8_send 16 = .ok (.ifCond .ne 6, 3) := by decide +kernel
theorem dX8_send_19 : decode cX8_send 19 = .ok (.bipush (-2), 2) := by decide +kernel
theorem dX8_send_21 : decode cX8_send 21 = .ok (.ireturn, 1) := by decide +kernel
theorem dX8_send_22 : decode cX8_send 22 = .ok (.aload_n 0, 1) := by decide +kernel
theorem dX8_send_23 : decode cX8_send 23 = .ok (.getfield 57, 3) := by decide +kernel
theorem dX8_send_26 : decode cX8_send 26 = .ok (.aload_n 0, 1) := by decide +kernel
theorem dX8_send_27 : decode cX8_send 27 = .ok (.getfield 53, 3) := by decide +kernel
theorem dX8_send_30 : decode cX8_send 30 = .ok (.invokevirtual 209, 3) := by decide +kernel
theorem dX8_send_33 : decode cX8_send 33 = .ok (.iconst (-1), 1) := by decide +kernel
theorem dX8_send_34 : decode cX8_send 34 = .ok (.istore_n 3, 1) := by decide +kernel
theorem dX8_send_35 : decode cX8_send 35 = .ok (.iconst (-1), 1) := by decide +kernel
theorem dX8_send_36 : decode cX8_send 36 = .ok (.istore 4, 2) := by decide +kernel
theorem dX8_send_38 : decode cX8_send 38 = .ok (.iconst 0, 1) := by decide +kernel
theorem dX8_send_39 : decode cX8_send 39 = .ok (.istore 5, 2) := by decide +kernel
theorem dX8_send_41 : decode cX8_send 41 = .ok (.iload 5, 2) := by decide +kernel
theorem dX8_send_43 : decode cX8_send 43 = .ok (.iconst 4, 1) := by decide +kernel
theorem dX8_send_44 : decode cX8_send 44 = .ok (.if_icmp .ge 47, 3) := by decide +kernel
theorem dX8_send_47 : decode cX8_send 47 = .ok (.aload_n 0, 1) := by decide +kernel
theorem dX8_send_48 : decode cX8_send 48 = .ok (.getfield 57, 3) := by decide +kernel
theorem dX8_send_51 : decode cX8_send 51 = .ok (.getfield 102, 3) := by decide +kernel
theorem dX8_send_54 : decode cX8_send 54 = .ok (.iload_n 1, 1) := by decide +kernel
theorem dX8_send_55 : decode cX8_send 55 = .ok (.iload 5, 2) := by decide +kernel
theorem dX8_send_57 : decode cX8_send 57 = .ok (.iastore, 1) := by decide +kernel
theorem dX8_send_58 : decode cX8_send 58 = .ok (.aload_n 0, 1) := by decide +kernel
theorem dX8_send_59 : decode cX8_send 59 = .ok (.getfield 57, 3) := by decide +kernel
theorem dX8_send_62 : decode cX8_send 62 = .ok (.iload_n 1, 1) := by decide +kernel
theorem dX8_send_63 : decode cX8_send 63 = .ok (.invokevirtual 215, 3) := by decide +kernel
theorem dX8_send_66 : decode cX8_send 66 = .ok (.invokestatic 188, 3) := by decide +kernel
theorem dX8_send_69 : decode cX8_send 69 = .ok (.istore 6, 2) := by decide +kernel
theorem dX8_send_71 : decode cX8_send 71 = .ok (.iload 6, 2) := by decide +kernel
theorem dX8_send_73 : decode cX8_send 73 = .ok (.iload 4, 2) := by decide +kernel
theorem dX8_send_75 : decode cX8_send 75 = .ok (.if_icmp .le 10, 3) := by decide +kernel
theorem dX8_send_78 : decode cX8_send 78 = .ok (.iload 6, 2) := by decide +kernel
theorem dX8_send_80 : decode cX8_send 80 = .ok (.istore 4, 2) := by decide +kernel
theorem dX8_send_82 : decode cX8_send 82 = .ok (.iload 5, 2) := by decide +kernel
theorem dX8_send_84 : decode cX8_send 84 = .ok (.istore_n 3, 1) := by decide +kernel
theorem dX8_send_85 : decode cX8_send 85 = .ok (.iinc 5 1, 3) := by decide +kernel
theorem dX8_send_88 : decode cX8_send 88 = .ok (.goto (-47), 3) := by decide +kernel
theorem dX8_send_91 : decode cX8_send 91 = .ok (.iload_n 2, 1) := by decide +kernel
theorem dX8_send_92 : decode cX8_send 92 = .ok (.ifCond .ne 7, 3) := by decide +kernel
theorem dX8_send_95 : decode cX8_send 95 = .ok (.iload_n 3, 1) := by decide +kernel
theorem dX8_send_96 : decode cX8_send 96 = .ok (.goto 5, 3) := by decide +kernel
theorem dX8_send_99 : decode cX8_send 99 = .ok (.iload 4, 2) := by decide +kernel
theorem dX8_send_101 : decode cX8_send 101 = .ok (.ireturn, 1) := by decide +kernel
theorem dX8_stranger_0 : decode cX8_stranger 0 = .ok (.iload_n 1, 1) := by decide +kernel
theorem dX8_stranger_1 : decode cX8_stranger 1 = .ok (.invokestatic 99, 3) := by decide +kernel
theorem dX8_stranger_4 : decode cX8_stranger 4 = .ok (.ifCond .eq 22, 3) := by decide +kernel
theorem dX8_stranger_7 : decode cX8_stranger 7 = .ok (.iload_n 2, 1) := by decide +kernel
theorem dX8_stranger_8 : decode cX8_stranger 8 = .ok (.bipush 100, 2) := by decide +kernel
theorem dX8_stranger_10 : decode cX8_stranger 10 = .ok (.invokestatic 79, 3) := by decide +kernel
theorem dX8_stranger_13 : decode cX8_stranger 13 = .ok (.ifCond .eq 13, 3) := by decide +kernel
theorem dX8_stranger_16 : decode cX8_stranger 16 = .ok (.iload_n 3, 1) := by decide +kernel
theorem dX8_stranger_17 : decode cX8_stranger 17 = .ok (.sipush 256, 3) := by decide +kernel
theorem dX8_stranger_20 : decode cX8_stranger 20 = .ok (.invokestatic 79, 3) := by decide +kernel
theorem dX8_stranger_23 : decode cX8_stranger 23 = .ok (.ifCond .ne 6, 3) := by decide +kernel
theorem dX8_stranger_26 : decode cX8_stranger 26 = .ok (.bipush (-2), 2) := by decide +kernel
theorem dX8_stranger_28 : decode cX8_stranger 28 = .ok (.ireturn, 1) := by decide +kernel
theorem dX8_stranger_29 : decode cX8_stranger 29 = .ok (.aload_n 0, 1) := by decide +kernel
theorem dX8_stranger_30 : decode cX8_stranger 30 = .ok (.getfield 57, 3) := by decide +kernel
theorem dX8_stranger_33 : decode cX8_stranger 33 = .ok (.aload_n 0, 1) := by decide +kernel
theorem dX8_stranger_34 : decode cX8_stranger 34 = .ok (.getfield 53, 3) := by decide +kernel
theorem dX8_stranger_37 : decode cX8_stranger 37 = .ok (.invokevirtual 209, 3) := by decide +kernel
theorem dX8_stranger_40 : decode cX8_stranger 40 = .ok (.aload_n 0, 1) := by decide +kernel
theorem dX8_stranger_41 : decode cX8_stranger 41 = .ok (.getfield 57, 3) := by decide +kernel
theorem dX8_stranger_44 : decode cX8_stranger 44 = .ok (.iload_n 1, 1) := by decide +kernel
theorem dX8_stranger_45 : decode cX8_stranger 45 = .ok (.iload_n 2, 1) := by decide +kernel
theorem dX8_stranger_46 : decode cX8_stranger 46 = .ok (.iload_n 3, 1) := by decide +kernel
theorem dX8_stranger_47 : decode cX8_stranger 47 = .ok (.invokevirtual 218, 3) := by decide +kernel
theorem dX8_stranger_50 : decode cX8_stranger 50 = .ok (.aload_n 0, 1) := by decide +kernel
theorem dX8_stranger_51 : decode cX8_stranger 51 = .ok (.getfield 57, 3) := by decide +kernel
theorem dX8_stranger_54 : decode cX8_stranger 54 = .ok (.iload_n 1, 1) := by decide +kernel
theorem dX8_stranger_55 : decode cX8_stranger 55 = .ok (.invokevirtual 161, 3) := by decide +kernel
theorem dX8_stranger_58 : decode cX8_stranger 58 = .ok (.invokestatic 188, 3) := by decide +kernel
theorem dX8_stranger_61 : decode cX8_stranger 61 = .ok (.aload_n 0, 1) := by decide +kernel
theorem dX8_stranger_62 : decode cX8_stranger 62 = .ok (.getfield 53, 3) := by decide +kernel
theorem dX8_stranger_65 : decode cX8_stranger 65 = .ok (.iload_n 1, 1) := by decide +kernel
theorem dX8_stranger_66 : decode cX8_stranger 66 = .ok (.invokevirtual 161, 3) := by decide +kernel
theorem dX8_stranger_69 : decode cX8_stranger 69 = .ok (.invokestatic 188, 3) := by decide +kernel
theorem dX8_stranger_72 : decode cX8_stranger 72 = .ok (.isub, 1) := by decide +kernel
theorem dX8_stranger_73 : decode cX8_stranger 73 = .ok (.ireturn, 1) := by decide +kernel
theorem dX8_left_0 : decode cX8_left 0 = .ok (.iconst 0, 1) := by decide +kernel
theorem dX8_left_1 : decode cX8_left 1 = .ok (.istore_n 1, 1) := by decide +kernel
theorem dX8_left_2 : decode cX8_left 2 = .ok (.iconst 0, 1) := by decide +kernel
theorem dX8_left_3 : decode cX8_left 3 = .ok (.istore_n 2, 1) := by decide +kernel
theorem dX8_left_4 : decode cX8_left 4 = .ok (.iload_n 2, 1) := by decide +kernel
theorem dX8_left_5 : decode cX8_left 5 = .ok (.aload_n 0, 1) := by decide +kernel
theorem dX8_left_6 : decode cX8_left 6 = .ok (.getfield 53, 3) := by decide +kernel
theorem dX8_left_9 : decode cX8_left 9 = .ok (.getfield 212, 3) := by decide +kernel
theorem dX8_left_12 : decode cX8_left 12 = .ok (.if_icmp .ge 20, 3) := by decide +kernel
theorem dX8_left_15 : decode cX8_left 15 = .ok (.iload_n 1, 1) := by decide +kernel
theorem dX8_left_16 : decode cX8_left 16 = .ok (.aload_n 0, 1) := by decide +kernel
theorem dX8_left_17 : decode cX8_left 17 = .ok (.getfield 53, 3) := by decide +kernel
theorem dX8_left_20 : decode cX8_left 20 = .ok (.iload_n 2, 1) := by decide +kernel
theorem dX8_left_21 : decode cX8_left 21 = .ok (.invokevirtual 144, 3) := by decide +kernel
theorem dX8_left_24 : decode cX8_left 24 = .ok (.ior, 1) := by decide +kernel
theorem dX8_left_25 : decode cX8_left 25 = .ok (.istore_n 1, 1) := by decide +kernel
theorem dX8_left_26 : decode cX8_left 26 = .ok (.iinc 2 1, 3) := by decide +kernel
theorem dX8_left_29 : decode cX8_left 29 = .ok (.goto (-25), 3) := by decide +kernel
theorem dX8_left_32 : decode cX8_left 32 = .ok (.aload_n 0, 1) := by decide +kernel
theorem dX8_left_33 : decode cX8_left 33 = .ok (.getfield 12, 3) := by decide +kernel
theorem dX8_left_36 : decode cX8_left 36 = .ok (.invokevirtual 222, 3) := by decide +kernel
theorem dX8_left_39 : decode cX8_left 39 = .ok (.iload_n 1, 1) := by decide +kernel
theorem dX8_left_40 : decode cX8_left 40 = .ok (.iconst (-1), 1) := by decide +kernel
theorem dX8_left_41 : decode cX8_left 41 = .ok (.ixor, 1) := by decide +kernel
theorem dX8_left_42 : decode cX8_left 42 = .ok (.iand, 1) := by decide +kernel
theorem dX8_left_43 : decode cX8_left 43 = .ok (.ireturn, 1) := by decide +kernel
theorem dX8_judge_0 : decode cX8_judge 0 = .ok (.aload_n 0, 1) := by decide +kernel
theorem dX8_judge_1 : decode cX8_judge 1 = .ok (.getfield 75, 3) := by decide +kernel
theorem dX8_judge_4 : decode cX8_judge 4 = .ok (.iload_n 1, 1) := by decide +kernel
theorem dX8_judge_5 : decode cX8_judge 5 = .ok (.invokevirtual 225, 3) := by decide +kernel
theorem dX8_judge_8 : decode cX8_judge 8 = .ok (.ifCond .ne 6, 3) := by decide +kernel
theorem dX8_judge_11 : decode cX8_judge 11 = .ok (.bipush (-2), 2) := by decide +kernel
theorem dX8_judge_13 : decode cX8_judge 13 = .ok (.ireturn, 1) := by decide +kernel
theorem dX8_judge_14 : decode cX8_judge 14 = .ok (.aload_n 0, 1) := by decide +kernel
theorem dX8_judge_15 : decode cX8_judge 15 = .ok (.getfield 75, 3) := by decide +kernel
theorem dX8_judge_18 : decode cX8_judge 18 = .ok (.iload_n 1, 1) := by decide +kernel
theorem dX8_judge_19 : decode cX8_judge 19 = .ok (.invokevirtual 226, 3) := by decide +kernel
theorem dX8_judge_22 : decode cX8_judge 22 = .ok (.ifCond .eq 6, 3) := by decide +kernel
theorem dX8_judge_25 : decode cX8_judge 25 = .ok (.bipush (-11), 2) := by decide +kernel
theorem dX8_judge_27 : decode cX8_judge 27 = .ok (.ireturn, 1) := by decide +kernel
theorem dX8_judge_28 : decode cX8_judge 28 = .ok (.aload_n 0, 1) := by decide +kernel
theorem dX8_judge_29 : decode cX8_judge 29 = .ok (.getfield 75, 3) := by decide +kernel
theorem dX8_judge_32 : decode cX8_judge 32 = .ok (.getfield 229, 3) := by decide +kernel
theorem dX8_judge_35 : decode cX8_judge 35 = .ok (.iload_n 1, 1) := by decide +kernel
theorem dX8_judge_36 : decode cX8_judge 36 = .ok (.iaload, 1) := by decide +kernel
theorem dX8_judge_37 : decode cX8_judge 37 = .ok (.iconst 2, 1) := by decide +kernel
theorem dX8_judge_38 : decode cX8_judge 38 = .ok (.irem, 1) := by decide +kernel
theorem dX8_judge_39 : decode cX8_judge 39 = .ok (.ifCond .eq 6, 3) := by decide +kernel
theorem dX8_judge_42 : decode cX8_judge 42 = .ok (.bipush (-2), 2) := by decide +kernel
theorem dX8_judge_44 : decode cX8_judge 44 = .ok (.ireturn, 1) := by decide +kernel
theorem dX8_judge_45 : decode cX8_judge 45 = .ok (.aload_n 0, 1) := by decide +kernel
theorem dX8_judge_46 : decode cX8_judge 46 = .ok (.getfield 57, 3) := by decide +kernel
theorem dX8_judge_49 : decode cX8_judge 49 = .ok (.aload_n 0, 1) := by decide +kernel
theorem dX8_judge_50 : decode cX8_judge 50 = .ok (.getfield 53, 3) := by decide +kernel
theorem dX8_judge_53 : decode cX8_judge 53 = .ok (.invokevirtual 209, 3) := by decide +kernel
theorem dX8_judge_56 : decode cX8_judge 56 = .ok (.iconst 0, 1) := by decide +kernel
theorem dX8_judge_57 : decode cX8_judge 57 = .ok (.istore_n 2, 1) := by decide +kernel
theorem dX8_judge_58 : decode cX8_judge 58 = .ok (.iload_n 2, 1) := by decide +kernel
theorem dX8_judge_59 : decode cX8_judge 59 = .ok (.iconst 1, 1) := by decide +kernel
theorem dX8_judge_60 : decode cX8_judge 60 = .ok (.iadd, 1) := by decide +kernel
theorem dX8_judge_61 : decode cX8_judge 61 = .ok (.aload_n 0, 1) := by decide +kernel
theorem dX8_judge_62 : decode cX8_judge 62 = .ok (.getfield 75, 3) := by decide +kernel
theorem dX8_judge_65 : decode cX8_judge 65 = .ok (.getfield 229, 3) := by decide +kernel
theorem dX8_judge_68 : decode cX8_judge 68 = .ok (.iload_n 1, 1) := by decide +kernel
theorem dX8_judge_69 : decode cX8_judge 69 = .ok (.iaload, 1) := by decide +kernel
theorem dX8_judge_70 : decode cX8_judge 70 = .ok (.if_icmp .ge 70, 3) := by decide +kernel
theorem dX8_judge_73 : decode cX8_judge 73 = .ok (.aload_n 0, 1) := by decide +kernel
theorem dX8_judge_74 : decode cX8_judge 74 = .ok (.getfield 75, 3) := by decide +kernel
theorem dX8_judge_77 : decode cX8_judge 77 = .ok (.iload_n 1, 1) := by decide +kernel
theorem dX8_judge_78 : decode cX8_judge 78 = .ok (.iload_n 2, 1) := by decide +kernel
theorem dX8_judge_79 : decode cX8_judge 79 = .ok (.invokevirtual 231, 3) := by decide +kernel
theorem dX8_judge_82 : decode cX8_judge 82 = .ok (.istore_n 3, 1) := by decide +kernel
theorem dX8_judge_83 : decode cX8_judge 83 = .ok (.aload_n 0, 1) := by decide +kernel
theorem dX8_judge_84 : decode cX8_judge 84 = .ok (.getfield 75, 3) := by decide +kernel
theorem dX8_judge_87 : decode cX8_judge 87 = .ok (.iload_n 1, 1) := by decide +kernel
theorem dX8_judge_88 : decode cX8_judge 88 = .ok (.iload_n 2, 1) := by decide +kernel
theorem dX8_judge_89 : decode cX8_judge 89 = .ok (.iconst 1, 1) := by decide +kernel
theorem dX8_judge_90 : decode cX8_judge 90 = .ok (.iadd, 1) := by decide +kernel
theorem dX8_judge_91 : decode cX8_judge 91 = .ok (.invokevirtual 231, 3) := by decide +kernel
theorem dX8_judge_94 : decode cX8_judge 94 = .ok (.istore 4, 2) := by decide +kernel
theorem dX8_judge_96 : decode cX8_judge 96 = .ok (.iload_n 3, 1) := by decide +kernel
theorem dX8_judge_97 : decode cX8_judge 97 = .ok (.invokestatic 99, 3) := by decide +kernel
theorem dX8_judge_100 : decode cX8_judge 100 = .ok (.ifCond .eq 30, 3) := by decide +kernel
theorem dX8_judge_103 : decode cX8_judge 103 = .ok (.aload_n 0, 1) := by decide +kernel
theorem dX8_judge_104 : decode cX8_judge 104 = .ok (.getfield 12, 3) := by decide +kernel
theorem dX8_judge_107 : decode cX8_judge 107 = .ok (.iload 4, 2) := by decide +kernel
theorem dX8_judge_109 : decode cX8_judge 109 = .ok (.invokevirtual 86, 3) := by decide +kernel
theorem dX8_judge_112 : decode cX8_judge 112 = .ok (.ifCond .eq 18, 3) := by decide +kernel
theorem dX8_judge_115 : decode cX8_judge 115 = .ok (.aload_n 0, 1) := by decide +kernel
theorem dX8_judge_116 : decode cX8_judge 116 = .ok (.getfield 57, 3) := by decide +kernel
theorem dX8_judge_119 : decode cX8_judge 119 = .ok (.iload_n 3, 1) := by decide +kernel
theorem dX8_judge_120 : decode cX8_judge 120 = .ok (.iload 4, 2) := by decide +kernel
theorem dX8_judge_122 : decode cX8_judge 122 = .ok (.invokevirtual 176, 3) := by decide +kernel
theorem dX8_judge_125 : decode cX8_judge 125 = .ok (.bipush (-3), 2) := by decide +kernel
theorem dX8_judge_127 : decode cX8_judge 127 = .ok (.if_icmp .ne 7, 3) := by decide +kernel
theorem dX8_judge_130 : decode cX8_judge 130 = .ok (.iload_n 2, 1) := by decide +kernel
theorem dX8_judge_131 : decode cX8_judge 131 = .ok (.iconst 2, 1) := by decide +kernel
theorem dX8_judge_132 : decode cX8_judge 132 = .ok (.idiv, 1) := by decide +kernel
theorem dX8_judge_133 : decode cX8_judge 133 = .ok (.ireturn, 1) := by decide +kernel
theorem dX8_judge_134 : decode cX8_judge 134 = .ok (.iinc 2 2, 3) := by decide +kernel
theorem dX8_judge_137 : decode cX8_judge 137 = .ok (.goto (-79), 3) := by decide +kernel
theorem dX8_judge_140 : decode cX8_judge 140 = .ok (.iconst (-1), 1) := by decide +kernel
theorem dX8_judge_141 : decode cX8_judge 141 = .ok (.ireturn, 1) := by decide +kernel
theorem dX8_drawn_0 : decode cX8_drawn 0 = .ok (.iload_n 2, 1) := by decide +kernel
theorem dX8_drawn_1 : decode cX8_drawn 1 = .ok (.ifCond .lt 9, 3) := by decide +kernel
theorem dX8_drawn_4 : decode cX8_drawn 4 = .ok (.iload_n 2, 1) := by decide +kernel
theorem dX8_drawn_5 : decode cX8_drawn 5 = .ok (.bipush 40, 2) := by decide +kernel
theorem dX8_drawn_7 : decode cX8_drawn 7 = .ok (.if_icmp .le 6, 3) := by decide +kernel
theorem dX8_drawn_10 : decode cX8_drawn 10 = .ok (.bipush (-2), 2) := by decide +kernel
theorem dX8_drawn_12 : decode cX8_drawn 12 = .ok (.ireturn, 1) := by decide +kernel
theorem dX8_drawn_13 : decode cX8_drawn 13 = .ok (.aload_n 0, 1) := by decide +kernel
theorem dX8_drawn_14 : decode cX8_drawn 14 = .ok (.getfield 57, 3) := by decide +kernel
theorem dX8_drawn_17 : decode cX8_drawn 17 = .ok (.aload_n 0, 1) := by decide +kernel
theorem dX8_drawn_18 : decode cX8_drawn 18 = .ok (.getfield 53, 3) := by decide +kernel
theorem dX8_drawn_21 : decode cX8_drawn 21 = .ok (.invokevirtual 209, 3) := by decide +kernel
theorem dX8_drawn_24 : decode cX8_drawn 24 = .ok (.iload_n 1, 1) := by decide +kernel
theorem dX8_drawn_25 : decode cX8_drawn 25 = .ok (.istore_n 3, 1) := by decide +kernel
theorem dX8_drawn_26 : decode cX8_drawn 26 = .ok (.iconst 0, 1) := by decide +kernel
theorem dX8_drawn_27 : decode cX8_drawn 27 = .ok (.istore 4, 2) := by decide +kernel
theorem dX8_drawn_29 : decode cX8_drawn 29 = .ok (.iconst 0, 1) := by decide +kernel
theorem dX8_drawn_30 : decode cX8_drawn 30 = .ok (.istore 5, 2) := by decide +kernel
theorem dX8_drawn_32 : decode cX8_drawn 32 = .ok (.iload 5, 2) := by decide +kernel
theorem dX8_drawn_34 : decode cX8_drawn 34 = .ok (.iload_n 2, 1) := by decide +kernel
theorem dX8_drawn_35 : decode cX8_drawn 35 = .ok (.if_icmp .ge 109, 3) := by decide +kernel
theorem dX8_drawn_38 : decode cX8_drawn 38 = .ok (.iconst 0, 1) := by decide +kernel
theorem dX8_drawn_39 : decode cX8_drawn 39 = .ok (.istore 6, 2) := by decide +kernel
theorem dX8_drawn_41 : decode cX8_drawn 41 = .ok (.iload 6, 2) := by decide +kernel
theorem dX8_drawn_43 : decode cX8_drawn 43 = .ok (.aload_n 0, 1) := by decide +kernel
theorem dX8_drawn_44 : decode cX8_drawn 44 = .ok (.getfield 57, 3) := by decide +kernel
theorem dX8_drawn_47 : decode cX8_drawn 47 = .ok (.getfield 212, 3) := by decide +kernel
theorem dX8_drawn_50 : decode cX8_drawn 50 = .ok (.if_icmp .ge 34, 3) := by decide +kernel
theorem dX8_drawn_53 : decode cX8_drawn 53 = .ok (.iload_n 3, 1) := by decide +kernel
theorem dX8_drawn_54 : decode cX8_drawn 54 = .ok (.ldc 234, 2) := by decide +kernel
theorem dX8_drawn_56 : decode cX8_drawn 56 = .ok (.imul, 1) := by decide +kernel
theorem dX8_drawn_57 : decode cX8_drawn 57 = .ok (.sipush 12345, 3) := by decide +kernel
theorem dX8_drawn_60 : decode cX8_drawn 60 = .ok (.iadd, 1) := by decide +kernel
theorem dX8_drawn_61 : decode cX8_drawn 61 = .ok (.istore_n 3, 1) := by decide +kernel
theorem dX8_drawn_62 : decode cX8_drawn 62 = .ok (.aload_n 0, 1) := by decide +kernel
theorem dX8_drawn_63 : decode cX8_drawn 63 = .ok (.getfield 57, 3) := by decide +kernel
theorem dX8_drawn_66 : decode cX8_drawn 66 = .ok (.getfield 102, 3) := by decide +kernel
theorem dX8_drawn_69 : decode cX8_drawn 69 = .ok (.iload 6, 2) := by decide +kernel
theorem dX8_drawn_71 : decode cX8_drawn 71 = .ok (.iload_n 3, 1) := by decide +kernel
theorem dX8_drawn_72 : decode cX8_drawn 72 = .ok (.bipush 8, 2) := by decide +kernel
theorem dX8_drawn_74 : decode cX8_drawn 74 = .ok (.iushr, 1) := by decide +kernel
theorem dX8_drawn_75 : decode cX8_drawn 75 = .ok (.iconst 4, 1) := by decide +kernel
theorem dX8_drawn_76 : decode cX8_drawn 76 = .ok (.irem, 1) := by decide +kernel
theorem dX8_drawn_77 : decode cX8_drawn 77 = .ok (.iastore, 1) := by decide +kernel
theorem dX8_drawn_78 : decode cX8_drawn 78 = .ok (.iinc 6 1, 3) := by decide +kernel
theorem dX8_drawn_81 : decode cX8_drawn 81 = .ok (.goto (-40), 3) := by decide +kernel
theorem dX8_drawn_84 : decode cX8_drawn 84 = .ok (.iconst 0, 1) := by decide +kernel
theorem dX8_drawn_85 : decode cX8_drawn 85 = .ok (.istore 6, 2) := by decide +kernel
theorem dX8_drawn_87 : decode cX8_drawn 87 = .ok (.iload 6, 2) := by decide +kernel
theorem dX8_drawn_89 : decode cX8_drawn 89 = .ok (.iconst 4, 1) := by decide +kernel
theorem dX8_drawn_90 : decode cX8_drawn 90 = .ok (.if_icmp .ge 41, 3) := by decide +kernel
theorem dX8_drawn_93 : decode cX8_drawn 93 = .ok (.aload_n 0, 1) := by decide +kernel
theorem dX8_drawn_94 : decode cX8_drawn 94 = .ok (.getfield 57, 3) := by decide +kernel
theorem dX8_drawn_97 : decode cX8_drawn 97 = .ok (.iload 6, 2) := by decide +kernel
theorem dX8_drawn_99 : decode cX8_drawn 99 = .ok (.invokevirtual 173, 3) := by decide +kernel
theorem dX8_drawn_102 : decode cX8_drawn 102 = .ok (.istore 7, 2) := by decide +kernel
theorem dX8_drawn_104 : decode cX8_drawn 104 = .ok (.iload 7, 2) := by decide +kernel
theorem dX8_drawn_106 : decode cX8_drawn 106 = .ok (.iconst (-1), 1) := by decide +kernel
theorem dX8_drawn_107 : decode cX8_drawn 107 = .ok (.if_icmp .eq 18, 3) := by decide +kernel
theorem dX8_drawn_110 : decode cX8_drawn 110 = .ok (.aload_n 0, 1) := by decide +kernel
theorem dX8_drawn_111 : decode cX8_drawn 111 = .ok (.getfield 57, 3) := by decide +kernel
theorem dX8_drawn_114 : decode cX8_drawn 114 = .ok (.iload 6, 2) := by decide +kernel
theorem dX8_drawn_116 : decode cX8_drawn 116 = .ok (.iload 7, 2) := by decide +kernel
theorem dX8_drawn_118 : decode cX8_drawn 118 = .ok (.invokevirtual 176, 3) := by decide +kernel
theorem dX8_drawn_121 : decode cX8_drawn 121 = .ok (.pop, 1) := by decide +kernel
theorem dX8_drawn_122 : decode cX8_drawn 122 = .ok (.iinc 4 1, 3) := by decide +kernel
theorem dX8_drawn_125 : decode cX8_drawn 125 = .ok (.iinc 6 1, 3) := by decide +kernel
theorem dX8_drawn_128 : decode cX8_drawn 128 = .ok (.goto (-41), 3) := by decide +kernel
theorem dX8_drawn_131 : decode cX8_drawn 131 = .ok (.aload_n 0, 1) := by decide +kernel
theorem dX8_drawn_132 : decode cX8_drawn 132 = .ok (.getfield 57, 3) := by decide +kernel
theorem dX8_drawn_135 : decode cX8_drawn 135 = .ok (.invokevirtual 179, 3) := by decide +kernel
theorem dX8_drawn_138 : decode cX8_drawn 138 = .ok (.iinc 5 1, 3) := by decide +kernel
theorem dX8_drawn_141 : decode cX8_drawn 141 = .ok (.goto (-109), 3) := by decide +kernel
theorem dX8_drawn_144 : decode cX8_drawn 144 = .ok (.iload 4, 2) := by decide +kernel
theorem dX8_drawn_146 : decode cX8_drawn 146 = .ok (.ireturn, 1) := by decide +kernel
theorem dX8_image_0 : decode cX8_image 0 = .ok (.aload_n 0, 1) := by decide +kernel
theorem dX8_image_1 : decode cX8_image 1 = .ok (.getfield 60, 3) := by decide +kernel
theorem dX8_image_4 : decode cX8_image 4 = .ok (.aload_n 0, 1) := by decide +kernel
theorem dX8_image_5 : decode cX8_image 5 = .ok (.getfield 53, 3) := by decide +kernel
theorem dX8_image_8 : decode cX8_image 8 = .ok (.invokevirtual 209, 3) := by decide +kernel
theorem dX8_image_11 : decode cX8_image 11 = .ok (.aload_n 0, 1) := by decide +kernel
theorem dX8_image_12 : decode cX8_image 12 = .ok (.iconst 1, 1) := by decide +kernel
theorem dX8_image_13 : decode cX8_image 13 = .ok (.putfield 235, 3) := by decide +kernel
theorem dX8_image_16 : decode cX8_image 16 = .ok (.aload_n 0, 1) := by decide +kernel
theorem dX8_image_17 : decode cX8_image 17 = .ok (.getfield 53, 3) := by decide +kernel
theorem dX8_image_20 : decode cX8_image 20 = .ok (.getfield 182, 3) := by decide +kernel
theorem dX8_image_23 : decode cX8_image 23 = .ok (.ireturn, 1) := by decide +kernel
theorem dX8_back_0 : decode cX8_back 0 = .ok (.aload_n 0, 1) := by decide +kernel
theorem dX8_back_1 : decode cX8_back 1 = .ok (.getfield 235, 3) := by decide +kernel
theorem dX8_back_4 : decode cX8_back 4 = .ok (.ifCond .ne 6, 3) := by decide +kernel
theorem dX8_back_7 : decode cX8_back 7 = .ok (.bipush (-3), 2) := by decide +kernel
theorem dX8_back_9 : decode cX8_back 9 = .ok (.ireturn, 1) := by decide +kernel
theorem dX8_back_10 : decode cX8_back 10 = .ok (.aload_n 0, 1) := by decide +kernel
theorem dX8_back_11 : decode cX8_back 11 = .ok (.getfield 53, 3) := by decide +kernel
theorem dX8_back_14 : decode cX8_back 14 = .ok (.aload_n 0, 1) := by decide +kernel
theorem dX8_back_15 : decode cX8_back 15 = .ok (.getfield 60, 3) := by decide +kernel
theorem dX8_back_18 : decode cX8_back 18 = .ok (.invokevirtual 239, 3) := by decide +kernel
theorem dX8_back_21 : decode cX8_back 21 = .ok (.aload_n 0, 1) := by decide +kernel
theorem dX8_back_22 : decode cX8_back 22 = .ok (.getfield 53, 3) := by decide +kernel
theorem dX8_back_25 : decode cX8_back 25 = .ok (.getfield 182, 3) := by decide +kernel
theorem dX8_back_28 : decode cX8_back 28 = .ok (.ireturn, 1) := by decide +kernel
theorem dX8_count_0 : decode cX8_count 0 = .ok (.iload_n 1, 1) := by decide +kernel
theorem dX8_count_1 : decode cX8_count 1 = .ok (.tableswitch 87 0 5 #[39, 47, 55, 63, 71, 79], 39) := by decide +kernel
theorem dX8_count_40 : decode cX8_count 40 = .ok (.aload_n 0, 1) := by decide +kernel
theorem dX8_count_41 : decode cX8_count 41 = .ok (.getfield 12, 3) := by decide +kernel
theorem dX8_count_44 : decode cX8_count 44 = .ok (.getfield 242, 3) := by decide +kernel
theorem dX8_count_47 : decode cX8_count 47 = .ok (.ireturn, 1) := by decide +kernel
theorem dX8_count_48 : decode cX8_count 48 = .ok (.aload_n 0, 1) := by decide +kernel
theorem dX8_count_49 : decode cX8_count 49 = .ok (.getfield 53, 3) := by decide +kernel
theorem dX8_count_52 : decode cX8_count 52 = .ok (.getfield 212, 3) := by decide +kernel
theorem dX8_count_55 : decode cX8_count 55 = .ok (.ireturn, 1) := by decide +kernel
theorem dX8_count_56 : decode cX8_count 56 = .ok (.aload_n 0, 1) := by decide +kernel
theorem dX8_count_57 : decode cX8_count 57 = .ok (.getfield 53, 3) := by decide +kernel
theorem dX8_count_60 : decode cX8_count 60 = .ok (.getfield 182, 3) := by decide +kernel
theorem dX8_count_63 : decode cX8_count 63 = .ok (.ireturn, 1) := by decide +kernel
theorem dX8_count_64 : decode cX8_count 64 = .ok (.aload_n 0, 1) := by decide +kernel
theorem dX8_count_65 : decode cX8_count 65 = .ok (.getfield 19, 3) := by decide +kernel
theorem dX8_count_68 : decode cX8_count 68 = .ok (.getfield 243, 3) := by decide +kernel
theorem dX8_count_71 : decode cX8_count 71 = .ok (.ireturn, 1) := by decide +kernel
theorem dX8_count_72 : decode cX8_count 72 = .ok (.aload_n 0, 1) := by decide +kernel
theorem dX8_count_73 : decode cX8_count 73 = .ok (.getfield 26, 3) := by decide +kernel
theorem dX8_count_76 : decode cX8_count 76 = .ok (.getfield 244, 3) := by decide +kernel
theorem dX8_count_79 : decode cX8_count 79 = .ok (.ireturn, 1) := by decide +kernel
theorem dX8_count_80 : decode cX8_count 80 = .ok (.aload_n 0, 1) := by decide +kernel
theorem dX8_count_81 : decode cX8_count 81 = .ok (.getfield 53, 3) := by decide +kernel
theorem dX8_count_84 : decode cX8_count 84 = .ok (.getfield 157, 3) := by decide +kernel
theorem dX8_count_87 : decode cX8_count 87 = .ok (.ireturn, 1) := by decide +kernel
theorem dX8_count_88 : decode cX8_count 88 = .ok (.bipush (-2), 2) := by decide +kernel
theorem dX8_count_90 : decode cX8_count 90 = .ok (.ireturn, 1) := by decide +kernel
theorem dX8_sheet_0 : decode cX8_sheet 0 = .ok (.aload_n 0, 1) := by decide +kernel
theorem dX8_sheet_1 : decode cX8_sheet 1 = .ok (.getfield 75, 3) := by decide +kernel
theorem dX8_sheet_4 : decode cX8_sheet 4 = .ok (.iload_n 1, 1) := by decide +kernel
theorem dX8_sheet_5 : decode cX8_sheet 5 = .ok (.invokevirtual 225, 3) := by decide +kernel
theorem dX8_sheet_8 : decode cX8_sheet 8 = .ok (.ifCond .eq 13, 3) := by decide +kernel
theorem dX8_sheet_11 : decode cX8_sheet 11 = .ok (.iload_n 2, 1) := by decide +kernel
theorem dX8_sheet_12 : decode cX8_sheet 12 = .ok (.iconst (-1), 1) := by decide +kernel
theorem dX8_sheet_13 : decode cX8_sheet 13 = .ok (.if_icmp .lt 8, 3) := by decide +kernel
theorem dX8_sheet_16 : decode cX8_sheet 16 = .ok (.iload_n 2, 1) := by decide +kernel
theorem dX8_sheet_17 : decode cX8_sheet 17 = .ok (.iconst 3, 1) := by decide +kernel
theorem dX8_sheet_18 : decode cX8_sheet 18 = .ok (.if_icmp .lt 6, 3) := by decide +kernel
theorem dX8_sheet_21 : decode cX8_sheet 21 = .ok (.bipush (-2), 2) := by decide +kernel
theorem dX8_sheet_23 : decode cX8_sheet 23 = .ok (.ireturn, 1) := by decide +kernel
theorem dX8_sheet_24 : decode cX8_sheet 24 = .ok (.iload_n 2, 1) := by decide +kernel
theorem dX8_sheet_25 : decode cX8_sheet 25 = .ok (.iconst (-1), 1) := by decide +kernel
theorem dX8_sheet_26 : decode cX8_sheet 26 = .ok (.if_icmp .ne 15, 3) := by decide +kernel
theorem dX8_sheet_29 : decode cX8_sheet 29 = .ok (.aload_n 0, 1) := by decide +kernel
theorem dX8_sheet_30 : decode cX8_sheet 30 = .ok (.getfield 75, 3) := by decide +kernel
theorem dX8_sheet_33 : decode cX8_sheet 33 = .ok (.iload_n 1, 1) := by decide +kernel
theorem dX8_sheet_34 : decode cX8_sheet 34 = .ok (.iconst (-1), 1) := by decide +kernel
theorem dX8_sheet_35 : decode cX8_sheet 35 = .ok (.iconst 0, 1) := by decide +kernel
theorem dX8_sheet_36 : decode cX8_sheet 36 = .ok (.invokevirtual 245, 3) := by decide +kernel
theorem dX8_sheet_39 : decode cX8_sheet 39 = .ok (.iconst 1, 1) := by decide +kernel
theorem dX8_sheet_40 : decode cX8_sheet 40 = .ok (.ireturn, 1) := by decide +kernel
theorem dX8_sheet_41 : decode cX8_sheet 41 = .ok (.iload_n 3, 1) := by decide +kernel
theorem dX8_sheet_42 : decode cX8_sheet 42 = .ok (.bipush 40, 2) := by decide +kernel
theorem dX8_sheet_44 : decode cX8_sheet 44 = .ok (.if_icmp .le 6, 3) := by decide +kernel
theorem dX8_sheet_47 : decode cX8_sheet 47 = .ok (.bipush (-2), 2) := by decide +kernel
theorem dX8_sheet_49 : decode cX8_sheet 49 = .ok (.ireturn, 1) := by decide +kernel
theorem dX8_sheet_50 : decode cX8_sheet 50 = .ok (.iload_n 3, 1) := by decide +kernel
theorem dX8_sheet_51 : decode cX8_sheet 51 = .ok (.ifCond .ge 6, 3) := by decide +kernel
theorem dX8_sheet_54 : decode cX8_sheet 54 = .ok (.bipush (-14), 2) := by decide +kernel
theorem dX8_sheet_56 : decode cX8_sheet 56 = .ok (.ireturn, 1) := by decide +kernel
theorem dX8_sheet_57 : decode cX8_sheet 57 = .ok (.aload_n 0, 1) := by decide +kernel
theorem dX8_sheet_58 : decode cX8_sheet 58 = .ok (.getfield 75, 3) := by decide +kernel
theorem dX8_sheet_61 : decode cX8_sheet 61 = .ok (.iload_n 1, 1) := by decide +kernel
theorem dX8_sheet_62 : decode cX8_sheet 62 = .ok (.iload_n 2, 1) := by decide +kernel
theorem dX8_sheet_63 : decode cX8_sheet 63 = .ok (.iload_n 3, 1) := by decide +kernel
theorem dX8_sheet_64 : decode cX8_sheet 64 = .ok (.invokevirtual 245, 3) := by decide +kernel
theorem dX8_sheet_67 : decode cX8_sheet 67 = .ok (.iconst 1, 1) := by decide +kernel
theorem dX8_sheet_68 : decode cX8_sheet 68 = .ok (.ireturn, 1) := by decide +kernel
theorem dX8_cell_0 : decode cX8_cell 0 = .ok (.aload_n 0, 1) := by decide +kernel
theorem dX8_cell_1 : decode cX8_cell 1 = .ok (.getfield 75, 3) := by decide +kernel
theorem dX8_cell_4 : decode cX8_cell 4 = .ok (.iload_n 1, 1) := by decide +kernel
theorem dX8_cell_5 : decode cX8_cell 5 = .ok (.invokevirtual 225, 3) := by decide +kernel
theorem dX8_cell_8 : decode cX8_cell 8 = .ok (.ifCond .ne 6, 3) := by decide +kernel
theorem dX8_cell_11 : decode cX8_cell 11 = .ok (.bipush (-2), 2) := by decide +kernel
theorem dX8_cell_13 : decode cX8_cell 13 = .ok (.ireturn, 1) := by decide +kernel
theorem dX8_cell_14 : decode cX8_cell 14 = .ok (.aload_n 0, 1) := by decide +kernel
theorem dX8_cell_15 : decode cX8_cell 15 = .ok (.getfield 75, 3) := by decide +kernel
theorem dX8_cell_18 : decode cX8_cell 18 = .ok (.iload_n 1, 1) := by decide +kernel
theorem dX8_cell_19 : decode cX8_cell 19 = .ok (.invokevirtual 226, 3) := by decide +kernel
theorem dX8_cell_22 : decode cX8_cell 22 = .ok (.ifCond .eq 6, 3) := by decide +kernel
theorem dX8_cell_25 : decode cX8_cell 25 = .ok (.bipush (-11), 2) := by decide +kernel
theorem dX8_cell_27 : decode cX8_cell 27 = .ok (.ireturn, 1) := by decide +kernel
theorem dX8_cell_28 : decode cX8_cell 28 = .ok (.aload_n 0, 1) := by decide +kernel
theorem dX8_cell_29 : decode cX8_cell 29 = .ok (.getfield 75, 3) := by decide +kernel
theorem dX8_cell_32 : decode cX8_cell 32 = .ok (.iload_n 1, 1) := by decide +kernel
theorem dX8_cell_33 : decode cX8_cell 33 = .ok (.iload_n 2, 1) := by decide +kernel
theorem dX8_cell_34 : decode cX8_cell 34 = .ok (.invokevirtual 248, 3) := by decide +kernel
theorem dX8_cell_37 : decode cX8_cell 37 = .ok (.ifCond .ne 6, 3) := by decide +kernel
theorem dX8_cell_40 : decode cX8_cell 40 = .ok (.bipush (-12), 2) := by decide +kernel
theorem dX8_cell_42 : decode cX8_cell 42 = .ok (.ireturn, 1) := by decide +kernel
theorem dX8_cell_43 : decode cX8_cell 43 = .ok (.aload_n 0, 1) := by decide +kernel
theorem dX8_cell_44 : decode cX8_cell 44 = .ok (.getfield 75, 3) := by decide +kernel
theorem dX8_cell_47 : decode cX8_cell 47 = .ok (.iload_n 1, 1) := by decide +kernel
theorem dX8_cell_48 : decode cX8_cell 48 = .ok (.iload_n 2, 1) := by decide +kernel
theorem dX8_cell_49 : decode cX8_cell 49 = .ok (.iload_n 3, 1) := by decide +kernel
theorem dX8_cell_50 : decode cX8_cell 50 = .ok (.invokevirtual 251, 3) := by decide +kernel
theorem dX8_cell_53 : decode cX8_cell 53 = .ok (.iconst 1, 1) := by decide +kernel
theorem dX8_cell_54 : decode cX8_cell 54 = .ok (.ireturn, 1) := by decide +kernel
theorem dX8_copy_0 : decode cX8_copy 0 = .ok (.aload_n 0, 1) := by decide +kernel
theorem dX8_copy_1 : decode cX8_copy 1 = .ok (.getfield 75, 3) := by decide +kernel
theorem dX8_copy_4 : decode cX8_copy 4 = .ok (.iload_n 1, 1) := by decide +kernel
theorem dX8_copy_5 : decode cX8_copy 5 = .ok (.invokevirtual 225, 3) := by decide +kernel
theorem dX8_copy_8 : decode cX8_copy 8 = .ok (.ifCond .eq 14, 3) := by decide +kernel
theorem dX8_copy_11 : decode cX8_copy 11 = .ok (.aload_n 0, 1) := by decide +kernel
theorem dX8_copy_12 : decode cX8_copy 12 = .ok (.getfield 75, 3) := by decide +kernel
theorem dX8_copy_15 : decode cX8_copy 15 = .ok (.iload_n 3, 1) := by decide +kernel
theorem dX8_copy_16 : decode cX8_copy 16 = .ok (.invokevirtual 225, 3) := by decide +kernel
theorem dX8_copy_19 : decode cX8_copy 19 = .ok (.ifCond .ne 6, 3) := by decide +kernel
theorem dX8_copy_22 : decode cX8_copy 22 = .ok (.bipush (-2), 2) := by decide +kernel
theorem dX8_copy_24 : decode cX8_copy 24 = .ok (.ireturn, 1) := by decide +kernel
theorem dX8_copy_25 : decode cX8_copy 25 = .ok (.aload_n 0, 1) := by decide +kernel
theorem dX8_copy_26 : decode cX8_copy 26 = .ok (.getfield 75, 3) := by decide +kernel
theorem dX8_copy_29 : decode cX8_copy 29 = .ok (.iload_n 1, 1) := by decide +kernel
theorem dX8_copy_30 : decode cX8_copy 30 = .ok (.invokevirtual 226, 3) := by decide +kernel
theorem dX8_copy_33 : decode cX8_copy 33 = .ok (.ifCond .ne 14, 3) := by decide +kernel
theorem dX8_copy_36 : decode cX8_copy 36 = .ok (.aload_n 0, 1) := by decide +kernel
theorem dX8_copy_37 : decode cX8_copy 37 = .ok (.getfield 75, 3) := by decide +kernel
theorem dX8_copy_40 : decode cX8_copy 40 = .ok (.iload_n 3, 1) := by decide +kernel
theorem dX8_copy_41 : decode cX8_copy 41 = .ok (.invokevirtual 226, 3) := by decide +kernel
theorem dX8_copy_44 : decode cX8_copy 44 = .ok (.ifCond .eq 6, 3) := by decide +kernel
theorem dX8_copy_47 : decode cX8_copy 47 = .ok (.bipush (-11), 2) := by decide +kernel
theorem dX8_copy_49 : decode cX8_copy 49 = .ok (.ireturn, 1) := by decide +kernel
theorem dX8_copy_50 : decode cX8_copy 50 = .ok (.aload_n 0, 1) := by decide +kernel
theorem dX8_copy_51 : decode cX8_copy 51 = .ok (.getfield 75, 3) := by decide +kernel
theorem dX8_copy_54 : decode cX8_copy 54 = .ok (.getfield 254, 3) := by decide +kernel
theorem dX8_copy_57 : decode cX8_copy 57 = .ok (.iload_n 1, 1) := by decide +kernel
theorem dX8_copy_58 : decode cX8_copy 58 = .ok (.iaload, 1) := by decide +kernel
theorem dX8_copy_59 : decode cX8_copy 59 = .ok (.aload_n 0, 1) := by decide +kernel
theorem dX8_copy_60 : decode cX8_copy 60 = .ok (.getfield 75, 3) := by decide +kernel
theorem dX8_copy_63 : decode cX8_copy 63 = .ok (.getfield 254, 3) := by decide +kernel
theorem dX8_copy_66 : decode cX8_copy 66 = .ok (.iload_n 3, 1) := by decide +kernel
theorem dX8_copy_67 : decode cX8_copy 67 = .ok (.iaload, 1) := by decide +kernel
theorem dX8_copy_68 : decode cX8_copy 68 = .ok (.if_icmp .eq 6, 3) := by decide +kernel
theorem dX8_copy_71 : decode cX8_copy 71 = .ok (.bipush (-13), 2) := by decide +kernel
theorem dX8_copy_73 : decode cX8_copy 73 = .ok (.ireturn, 1) := by decide +kernel
theorem dX8_copy_74 : decode cX8_copy 74 = .ok (.aload_n 0, 1) := by decide +kernel
theorem dX8_copy_75 : decode cX8_copy 75 = .ok (.getfield 75, 3) := by decide +kernel
theorem dX8_copy_78 : decode cX8_copy 78 = .ok (.iload_n 1, 1) := by decide +kernel
theorem dX8_copy_79 : decode cX8_copy 79 = .ok (.iload_n 2, 1) := by decide +kernel
theorem dX8_copy_80 : decode cX8_copy 80 = .ok (.iload 5, 2) := by decide +kernel
theorem dX8_copy_82 : decode cX8_copy 82 = .ok (.invokevirtual 257, 3) := by decide +kernel
theorem dX8_copy_85 : decode cX8_copy 85 = .ok (.ifCond .eq 18, 3) := by decide +kernel
theorem dX8_copy_88 : decode cX8_copy 88 = .ok (.aload_n 0, 1) := by decide +kernel
theorem dX8_copy_89 : decode cX8_copy 89 = .ok (.getfield 75, 3) := by decide +kernel
theorem dX8_copy_92 : decode cX8_copy 92 = .ok (.iload_n 3, 1) := by decide +kernel
theorem dX8_copy_93 : decode cX8_copy 93 = .ok (.iload 4, 2) := by decide +kernel
theorem dX8_copy_95 : decode cX8_copy 95 = .ok (.iload 5, 2) := by decide +kernel
theorem dX8_copy_97 : decode cX8_copy 97 = .ok (.invokevirtual 257, 3) := by decide +kernel
theorem dX8_copy_100 : decode cX8_copy 100 = .ok (.ifCond .ne 6, 3) := by decide +kernel
theorem dX8_copy_103 : decode cX8_copy 103 = .ok (.bipush (-12), 2) := by decide +kernel
theorem dX8_copy_105 : decode cX8_copy 105 = .ok (.ireturn, 1) := by decide +kernel
theorem dX8_copy_106 : decode cX8_copy 106 = .ok (.aload_n 0, 1) := by decide +kernel
theorem dX8_copy_107 : decode cX8_copy 107 = .ok (.getfield 75, 3) := by decide +kernel
theorem dX8_copy_110 : decode cX8_copy 110 = .ok (.iload_n 1, 1) := by decide +kernel
theorem dX8_copy_111 : decode cX8_copy 111 = .ok (.iload_n 2, 1) := by decide +kernel
theorem dX8_copy_112 : decode cX8_copy 112 = .ok (.iload_n 3, 1) := by decide +kernel
theorem dX8_copy_113 : decode cX8_copy 113 = .ok (.iload 4, 2) := by decide +kernel
theorem dX8_copy_115 : decode cX8_copy 115 = .ok (.iload 5, 2) := by decide +kernel
theorem dX8_copy_117 : decode cX8_copy 117 = .ok (.invokevirtual 261, 3) := by decide +kernel
theorem dX8_copy_120 : decode cX8_copy 120 = .ok (.iload 5, 2) := by decide +kernel
theorem dX8_copy_122 : decode cX8_copy 122 = .ok (.ireturn, 1) := by decide +kernel
theorem dX8_people_0 : decode cX8_people 0 = .ok (.aload_n 0, 1) := by decide +kernel
theorem dX8_people_1 : decode cX8_people 1 = .ok (.getfield 75, 3) := by decide +kernel
theorem dX8_people_4 : decode cX8_people 4 = .ok (.iload_n 1, 1) := by decide +kernel
theorem dX8_people_5 : decode cX8_people 5 = .ok (.invokevirtual 225, 3) := by decide +kernel
theorem dX8_people_8 : decode cX8_people 8 = .ok (.ifCond .eq 23, 3) := by decide +kernel
theorem dX8_people_11 : decode cX8_people 11 = .ok (.iload_n 2, 1) := by decide +kernel
theorem dX8_people_12 : decode cX8_people 12 = .ok (.iconst 3, 1) := by decide +kernel
theorem dX8_people_13 : decode cX8_people 13 = .ok (.invokestatic 79, 3) := by decide +kernel
theorem dX8_people_16 : decode cX8_people 16 = .ok (.ifCond .eq 15, 3) := by decide +kernel
theorem dX8_people_19 : decode cX8_people 19 = .ok (.iload 4, 2) := by decide +kernel
theorem dX8_people_21 : decode cX8_people 21 = .ok (.ifCond .lt 10, 3) := by decide +kernel
theorem dX8_people_24 : decode cX8_people 24 = .ok (.iload 4, 2) := by decide +kernel
theorem dX8_people_26 : decode cX8_people 26 = .ok (.bipush 8, 2) := by decide +kernel
theorem dX8_people_28 : decode cX8_people 28 = .ok (.if_icmp .le 6, 3) := by decide +kernel
theorem dX8_people_31 : decode cX8_people 31 = .ok (.bipush (-2), 2) := by decide +kernel
theorem dX8_people_33 : decode cX8_people 33 = .ok (.ireturn, 1) := by decide +kernel
theorem dX8_people_34 : decode cX8_people 34 = .ok (.aload_n 0, 1) := by decide +kernel
theorem dX8_people_35 : decode cX8_people 35 = .ok (.getfield 75, 3) := by decide +kernel
theorem dX8_people_38 : decode cX8_people 38 = .ok (.iload_n 1, 1) := by decide +kernel
theorem dX8_people_39 : decode cX8_people 39 = .ok (.invokevirtual 226, 3) := by decide +kernel
theorem dX8_people_42 : decode cX8_people 42 = .ok (.ifCond .eq 6, 3) := by decide +kernel
theorem dX8_people_45 : decode cX8_people 45 = .ok (.bipush (-11), 2) := by decide +kernel
theorem dX8_people_47 : decode cX8_people 47 = .ok (.ireturn, 1) := by decide +kernel
theorem dX8_people_48 : decode cX8_people 48 = .ok (.aload_n 0, 1) := by decide +kernel
theorem dX8_people_49 : decode cX8_people 49 = .ok (.getfield 75, 3) := by decide +kernel
theorem dX8_people_52 : decode cX8_people 52 = .ok (.getfield 254, 3) := by decide +kernel
theorem dX8_people_55 : decode cX8_people 55 = .ok (.iload_n 1, 1) := by decide +kernel
theorem dX8_people_56 : decode cX8_people 56 = .ok (.iaload, 1) := by decide +kernel
theorem dX8_people_57 : decode cX8_people 57 = .ok (.iload_n 2, 1) := by decide +kernel
theorem dX8_people_58 : decode cX8_people 58 = .ok (.if_icmp .eq 6, 3) := by decide +kernel
theorem dX8_people_61 : decode cX8_people 61 = .ok (.bipush (-13), 2) := by decide +kernel
theorem dX8_people_63 : decode cX8_people 63 = .ok (.ireturn, 1) := by decide +kernel
theorem dX8_people_64 : decode cX8_people 64 = .ok (.iconst 0, 1) := by decide +kernel
theorem dX8_people_65 : decode cX8_people 65 = .ok (.istore 5, 2) := by decide +kernel
theorem dX8_people_67 : decode cX8_people 67 = .ok (.iconst 0, 1) := by decide +kernel
theorem dX8_people_68 : decode cX8_people 68 = .ok (.istore 6, 2) := by decide +kernel
theorem dX8_people_70 : decode cX8_people 70 = .ok (.iload 6, 2) := by decide +kernel
theorem dX8_people_72 : decode cX8_people 72 = .ok (.iload 4, 2) := by decide +kernel
theorem dX8_people_74 : decode cX8_people 74 = .ok (.if_icmp .ge 83, 3) := by decide +kernel
theorem dX8_people_77 : decode cX8_people 77 = .ok (.iload_n 3, 1) := by decide +kernel
theorem dX8_people_78 : decode cX8_people 78 = .ok (.iconst 2, 1) := by decide +kernel
theorem dX8_people_79 : decode cX8_people 79 = .ok (.iload 6, 2) := by decide +kernel
theorem dX8_people_81 : decode cX8_people 81 = .ok (.imul, 1) := by decide +kernel
theorem dX8_people_82 : decode cX8_people 82 = .ok (.iadd, 1) := by decide +kernel
theorem dX8_people_83 : decode cX8_people 83 = .ok (.istore 7, 2) := by decide +kernel
theorem dX8_people_85 : decode cX8_people 85 = .ok (.aload_n 0, 1) := by decide +kernel
theorem dX8_people_86 : decode cX8_people 86 = .ok (.getfield 75, 3) := by decide +kernel
theorem dX8_people_89 : decode cX8_people 89 = .ok (.iload_n 1, 1) := by decide +kernel
theorem dX8_people_90 : decode cX8_people 90 = .ok (.iload 7, 2) := by decide +kernel
theorem dX8_people_92 : decode cX8_people 92 = .ok (.invokevirtual 248, 3) := by decide +kernel
theorem dX8_people_95 : decode cX8_people 95 = .ok (.ifCond .eq 18, 3) := by decide +kernel
theorem dX8_people_98 : decode cX8_people 98 = .ok (.aload_n 0, 1) := by decide +kernel
theorem dX8_people_99 : decode cX8_people 99 = .ok (.getfield 75, 3) := by decide +kernel
theorem dX8_people_102 : decode cX8_people 102 = .ok (.iload_n 1, 1) := by decide +kernel
theorem dX8_people_103 : decode cX8_people 103 = .ok (.iload 7, 2) := by decide +kernel
theorem dX8_people_105 : decode cX8_people 105 = .ok (.iconst 1, 1) := by decide +kernel
theorem dX8_people_106 : decode cX8_people 106 = .ok (.iadd, 1) := by decide +kernel
theorem dX8_people_107 : decode cX8_people 107 = .ok (.invokevirtual 248, 3) := by decide +kernel
theorem dX8_people_110 : decode cX8_people 110 = .ok (.ifCond .ne 6, 3) := by decide +kernel
theorem dX8_people_113 : decode cX8_people 113 = .ok (.bipush (-12), 2) := by decide +kernel
theorem dX8_people_115 : decode cX8_people 115 = .ok (.ireturn, 1) := by decide +kernel
theorem dX8_people_116 : decode cX8_people 116 = .ok (.aload_n 0, 1) := by decide +kernel
theorem dX8_people_117 : decode cX8_people 117 = .ok (.getfield 53, 3) := by decide +kernel
theorem dX8_people_120 : decode cX8_people 120 = .ok (.aload_n 0, 1) := by decide +kernel
theorem dX8_people_121 : decode cX8_people 121 = .ok (.getfield 75, 3) := by decide +kernel
theorem dX8_people_124 : decode cX8_people 124 = .ok (.iload_n 1, 1) := by decide +kernel
theorem dX8_people_125 : decode cX8_people 125 = .ok (.iload 7, 2) := by decide +kernel
theorem dX8_people_127 : decode cX8_people 127 = .ok (.invokevirtual 231, 3) := by decide +kernel
theorem dX8_people_130 : decode cX8_people 130 = .ok (.aload_n 0, 1) := by decide +kernel
theorem dX8_people_131 : decode cX8_people 131 = .ok (.getfield 75, 3) := by decide +kernel
theorem dX8_people_134 : decode cX8_people 134 = .ok (.iload_n 1, 1) := by decide +kernel
theorem dX8_people_135 : decode cX8_people 135 = .ok (.iload 7, 2) := by decide +kernel
theorem dX8_people_137 : decode cX8_people 137 = .ok (.iconst 1, 1) := by decide +kernel
theorem dX8_people_138 : decode cX8_people 138 = .ok (.iadd, 1) := by decide +kernel
theorem dX8_people_139 : decode cX8_people 139 = .ok (.invokevirtual 231, 3) := by decide +kernel
theorem dX8_people_142 : decode cX8_people 142 = .ok (.invokevirtual 94, 3) := by decide +kernel
theorem dX8_people_145 : decode cX8_people 145 = .ok (.ifCond .lt 6, 3) := by decide +kernel
theorem dX8_people_148 : decode cX8_people 148 = .ok (.iinc 5 1, 3) := by decide +kernel
theorem dX8_people_151 : decode cX8_people 151 = .ok (.iinc 6 1, 3) := by decide +kernel
theorem dX8_people_154 : decode cX8_people 154 = .ok (.goto (-84), 3) := by decide +kernel
theorem dX8_people_157 : decode cX8_people 157 = .ok (.iload 5, 2) := by decide +kernel
theorem dX8_people_159 : decode cX8_people 159 = .ok (.ireturn, 1) := by decide +kernel
theorem dX8_taken_0 : decode cX8_taken 0 = .ok (.iload_n 2, 1) := by decide +kernel
theorem dX8_taken_1 : decode cX8_taken 1 = .ok (.bipush 6, 2) := by decide +kernel
theorem dX8_taken_3 : decode cX8_taken 3 = .ok (.invokestatic 79, 3) := by decide +kernel
theorem dX8_taken_6 : decode cX8_taken 6 = .ok (.ifCond .ne 6, 3) := by decide +kernel
theorem dX8_taken_9 : decode cX8_taken 9 = .ok (.bipush (-2), 2) := by decide +kernel
theorem dX8_taken_11 : decode cX8_taken 11 = .ok (.ireturn, 1) := by decide +kernel
theorem dX8_taken_12 : decode cX8_taken 12 = .ok (.aload_n 0, 1) := by decide +kernel
theorem dX8_taken_13 : decode cX8_taken 13 = .ok (.getfield 12, 3) := by decide +kernel
theorem dX8_taken_16 : decode cX8_taken 16 = .ok (.iload_n 1, 1) := by decide +kernel
theorem dX8_taken_17 : decode cX8_taken 17 = .ok (.invokevirtual 86, 3) := by decide +kernel
theorem dX8_taken_20 : decode cX8_taken 20 = .ok (.ifCond .ne 6, 3) := by decide +kernel
theorem dX8_taken_23 : decode cX8_taken 23 = .ok (.bipush (-11), 2) := by decide +kernel
theorem dX8_taken_25 : decode cX8_taken 25 = .ok (.ireturn, 1) := by decide +kernel
theorem dX8_taken_26 : decode cX8_taken 26 = .ok (.aload_n 0, 1) := by decide +kernel
theorem dX8_taken_27 : decode cX8_taken 27 = .ok (.getfield 12, 3) := by decide +kernel
theorem dX8_taken_30 : decode cX8_taken 30 = .ok (.iload_n 1, 1) := by decide +kernel
theorem dX8_taken_31 : decode cX8_taken 31 = .ok (.iload_n 2, 1) := by decide +kernel
theorem dX8_taken_32 : decode cX8_taken 32 = .ok (.invokevirtual 265, 3) := by decide +kernel
theorem dX8_taken_35 : decode cX8_taken 35 = .ok (.ifCond .eq 15, 3) := by decide +kernel
theorem dX8_taken_38 : decode cX8_taken 38 = .ok (.aload_n 0, 1) := by decide +kernel
theorem dX8_taken_39 : decode cX8_taken 39 = .ok (.getfield 12, 3) := by decide +kernel
theorem dX8_taken_42 : decode cX8_taken 42 = .ok (.getfield 131, 3) := by decide +kernel
theorem dX8_taken_45 : decode cX8_taken 45 = .ok (.iload_n 1, 1) := by decide +kernel
theorem dX8_taken_46 : decode cX8_taken 46 = .ok (.iaload, 1) := by decide +kernel
theorem dX8_taken_47 : decode cX8_taken 47 = .ok (.goto 5, 3) := by decide +kernel
theorem dX8_taken_50 : decode cX8_taken 50 = .ok (.bipush (-13), 2) := by decide +kernel
theorem dX8_taken_52 : decode cX8_taken 52 = .ok (.ireturn, 1) := by decide +kernel
theorem dX8_isBelow_0 : decode cX8_isBelow 0 = .ok (.iload_n 0, 1) := by decide +kernel
theorem dX8_isBelow_1 : decode cX8_isBelow 1 = .ok (.ifCond .lt 12, 3) := by decide +kernel
theorem dX8_isBelow_4 : decode cX8_isBelow 4 = .ok (.iload_n 0, 1) := by decide +kernel
theorem dX8_isBelow_5 : decode cX8_isBelow 5 = .ok (.iload_n 1, 1) := by decide +kernel
theorem dX8_isBelow_6 : decode cX8_isBelow 6 = .ok (.if_icmp .ge 7, 3) := by decide +kernel
theorem dX8_isBelow_9 : decode cX8_isBelow 9 = .ok (.iconst 1, 1) := by decide +kernel
theorem dX8_isBelow_10 : decode cX8_isBelow 10 = .ok (.goto 4, 3) := by decide +kernel
theorem dX8_isBelow_13 : decode cX8_isBelow 13 = .ok (.iconst 0, 1) := by decide +kernel
theorem dX8_isBelow_14 : decode cX8_isBelow 14 = .ok (.ireturn, 1) := by decide +kernel
theorem dX8_isHouse_0 : decode cX8_isHouse 0 = .ok (.iload_n 0, 1) := by decide +kernel
theorem dX8_isHouse_1 : decode cX8_isHouse 1 = .ok (.iconst 4, 1) := by decide +kernel
theorem dX8_isHouse_2 : decode cX8_isHouse 2 = .ok (.invokestatic 79, 3) := by decide +kernel
theorem dX8_isHouse_5 : decode cX8_isHouse 5 = .ok (.ireturn, 1) := by decide +kernel
theorem dX8_put_0 : decode cX8_put 0 = .ok (.aload_n 0, 1) := by decide +kernel
theorem dX8_put_1 : decode cX8_put 1 = .ok (.iload_n 1, 1) := by decide +kernel
theorem dX8_put_2 : decode cX8_put 2 = .ok (.iaload, 1) := by decide +kernel
theorem dX8_put_3 : decode cX8_put 3 = .ok (.istore_n 3, 1) := by decide +kernel
theorem dX8_put_4 : decode cX8_put 4 = .ok (.aload_n 0, 1) := by decide +kernel
theorem dX8_put_5 : decode cX8_put 5 = .ok (.iload_n 1, 1) := by decide +kernel
theorem dX8_put_6 : decode cX8_put 6 = .ok (.iload_n 2, 1) := by decide +kernel
theorem dX8_put_7 : decode cX8_put 7 = .ok (.iastore, 1) := by decide +kernel
theorem dX8_put_8 : decode cX8_put 8 = .ok (.iload_n 3, 1) := by decide +kernel
theorem dX8_put_9 : decode cX8_put 9 = .ok (.ireturn, 1) := by decide +kernel
theorem dX8_canTellAll_0 : decode cX8_canTellAll 0 = .ok (.aload_n 0, 1) := by decide +kernel
theorem dX8_canTellAll_1 : decode cX8_canTellAll 1 = .ok (.getfield 57, 3) := by decide +kernel
theorem dX8_canTellAll_4 : decode cX8_canTellAll 4 = .ok (.aload_n 0, 1) := by decide +kernel
theorem dX8_canTellAll_5 : decode cX8_canTellAll 5 = .ok (.getfield 53, 3) := by decide +kernel
theorem dX8_canTellAll_8 : decode cX8_canTellAll 8 = .ok (.invokevirtual 209, 3) := by decide +kernel
theorem dX8_canTellAll_11 : decode cX8_canTellAll 11 = .ok (.iconst 0, 1) := by decide +kernel
theorem dX8_canTellAll_12 : decode cX8_canTellAll 12 = .ok (.istore_n 3, 1) := by decide +kernel
theorem dX8_canTellAll_13 : decode cX8_canTellAll 13 = .ok (.iload_n 3, 1) := by decide +kernel
theorem dX8_canTellAll_14 : decode cX8_canTellAll 14 = .ok (.aload_n 0, 1) := by decide +kernel
theorem dX8_canTellAll_15 : decode cX8_canTellAll 15 = .ok (.getfield 12, 3) := by decide +kernel
theorem dX8_canTellAll_18 : decode cX8_canTellAll 18 = .ok (.getfield 242, 3) := by decide +kernel
theorem dX8_canTellAll_21 : decode cX8_canTellAll 21 = .ok (.if_icmp .ge 34, 3) := by decide +kernel
theorem dX8_canTellAll_24 : decode cX8_canTellAll 24 = .ok (.iload_n 2, 1) := by decide +kernel
theorem dX8_canTellAll_25 : decode cX8_canTellAll 25 = .ok (.iload_n 3, 1) := by decide +kernel
theorem dX8_canTellAll_26 : decode cX8_canTellAll 26 = .ok (.ishr, 1) := by decide +kernel
theorem dX8_canTellAll_27 : decode cX8_canTellAll 27 = .ok (.iconst 1, 1) := by decide +kernel
theorem dX8_canTellAll_28 : decode cX8_canTellAll 28 = .ok (.iand, 1) := by decide +kernel
theorem dX8_canTellAll_29 : decode cX8_canTellAll 29 = .ok (.iconst 1, 1) := by decide +kernel
theorem dX8_canTellAll_30 : decode cX8_canTellAll 30 = .ok (.if_icmp .ne 19, 3) := by decide +kernel
theorem dX8_canTellAll_33 : decode cX8_canTellAll 33 = .ok (.aload_n 0, 1) := by decide +kernel
theorem dX8_canTellAll_34 : decode cX8_canTellAll 34 = .ok (.getfield 57, 3) := by decide +kernel
theorem dX8_canTellAll_37 : decode cX8_canTellAll 37 = .ok (.iload_n 1, 1) := by decide +kernel
theorem dX8_canTellAll_38 : decode cX8_canTellAll 38 = .ok (.iload_n 3, 1) := by decide +kernel
theorem dX8_canTellAll_39 : decode cX8_canTellAll 39 = .ok (.invokevirtual 176, 3) := by decide +kernel
theorem dX8_canTellAll_42 : decode cX8_canTellAll 42 = .ok (.bipush (-3), 2) := by decide +kernel
theorem dX8_canTellAll_44 : decode cX8_canTellAll 44 = .ok (.if_icmp .ne 5, 3) := by decide +kernel
theorem dX8_canTellAll_47 : decode cX8_canTellAll 47 = .ok (.iconst 0, 1) := by decide +kernel
theorem dX8_canTellAll_48 : decode cX8_canTellAll 48 = .ok (.ireturn, 1) := by decide +kernel
theorem dX8_canTellAll_49 : decode cX8_canTellAll 49 = .ok (.iinc 3 1, 3) := by decide +kernel
theorem dX8_canTellAll_52 : decode cX8_canTellAll 52 = .ok (.goto (-39), 3) := by decide +kernel
theorem dX8_canTellAll_55 : decode cX8_canTellAll 55 = .ok (.iconst 1, 1) := by decide +kernel
theorem dX8_canTellAll_56 : decode cX8_canTellAll 56 = .ok (.ireturn, 1) := by decide +kernel
