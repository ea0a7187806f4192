theorem dX9_name_7 : decode cX9_name 7 = .ok (.iconst 0, 1) := by decide +kernel
theorem dX9_name_8 : decode cX9_name 8 = .ok (.iconst 0, 1) := by decide +kernel
theorem dX9_name_9 : decode cX9_name 9 = .ok (.iconst 0, 1) := by decide +kernel
theorem dX9_name_10 : decode cX9_name 10 = .ok (.iconst 0, 1) := by decide +kernel
theorem dX9_name_11 : decode cX9_name 11 = .ok (.iconst 0, 1) := by decide +kernel
theorem dX9_name_12 : decode cX9_name 12 = .ok (.invokevirtual 203, 3) := by decide +kernel
theorem dX9_name_15 : decode cX9_name 15 = .ok (.ifCond .eq 8, 3) := by decide +kernel
theorem dX9_name_18 : decode cX9_name 18 = .ok (.aload_n 0, 1) := by decide +kernel
theorem dX9_name_19 : decode cX9_name 19 = .ok (.getfield 207, 3) := by decide +kernel
theorem dX9_name_22 : decode cX9_name 22 = .ok (.ireturn, 1) := by decide +kernel
theorem dX9_name_23 : decode cX9_name 23 = .ok (.aload_n 0, 1) := by decide +kernel
theorem dX9_name_24 : decode cX9_name 24 = .ok (.bipush 119, 2) := by decide +kernel
theorem dX9_name_26 : decode cX9_name 26 = .ok (.bipush 111, 2) := by decide +kernel
theorem dX9_name_28 : decode cX9_name 28 = .ok (.bipush 114, 2) := by decide +kernel
theorem dX9_name_30 : decode cX9_name 30 = .ok (.bipush 116, 2) := by decide +kernel
theorem dX9_name_32 : decode cX9_name 32 = .ok (.bipush 104, 2) := by decide +kernel
theorem dX9_name_34 : decode cX9_name 34 = .ok (.iconst 0, 1) := by decide +kernel
theorem dX9_name_35 : decode cX9_name 35 = .ok (.iconst 0, 1) := by decide +kernel
theorem dX9_name_36 : decode cX9_name 36 = .ok (.iconst 0, 1) := by decide +kernel
theorem dX9_name_37 : decode cX9_name 37 = .ok (.invokevirtual 203, 3) := by decide +kernel
theorem dX9_name_40 : decode cX9_name 40 = .ok (.ifCond .eq 8, 3) := by decide +kernel
theorem dX9_name_43 : decode cX9_name 43 = .ok (.aload_n 0, 1) := by decide +kernel
theorem dX9_name_44 : decode cX9_name 44 = .ok (.getfield 210, 3) := by decide +kernel
theorem dX9_name_47 : decode cX9_name 47 = .ok (.ireturn, 1) := by decide +kernel
theorem dX9_name_48 : decode cX9_name 48 = .ok (.aload_n 0, 1) := by decide +kernel
theorem dX9_name_49 : decode cX9_name 49 = .ok (.bipush 104, 2) := by decide +kernel
theorem dX9_name_51 : decode cX9_name 51 = .ok (.bipush 101, 2) := by decide +kernel
theorem dX9_name_53 : decode cX9_name 53 = .ok (.bipush 97, 2) := by decide +kernel
theorem dX9_name_55 : decode cX9_name 55 = .ok (.bipush 114, 2) := by decide +kernel
theorem dX9_name_57 : decode cX9_name 57 = .ok (.bipush 100, 2) := by decide +kernel
theorem dX9_name_59 : decode cX9_name 59 = .ok (.iconst 0, 1) := by decide +kernel
theorem dX9_name_60 : decode cX9_name 60 = .ok (.iconst 0, 1) := by decide +kernel
theorem dX9_name_61 : decode cX9_name 61 = .ok (.iconst 0, 1) := by decide +kernel
theorem dX9_name_62 : decode cX9_name 62 = .ok (.invokevirtual 203, 3) := by decide +kernel
theorem dX9_name_65 : decode cX9_name 65 = .ok (.ifCond .eq 8, 3) := by decide +kernel
theorem dX9_name_68 : decode cX9_name 68 = .ok (.aload_n 0, 1) := by decide +kernel
theorem dX9_name_69 : decode cX9_name 69 = .ok (.getfield 213, 3) := by decide +kernel
theorem dX9_name_72 : decode cX9_name 72 = .ok (.ireturn, 1) := by decide +kernel
theorem dX9_name_73 : decode cX9_name 73 = .ok (.aload_n 0, 1) := by decide +kernel
theorem dX9_name_74 : decode cX9_name 74 = .ok (.bipush 109, 2) := by decide +kernel
theorem dX9_name_76 : decode cX9_name 76 = .ok (.bipush 97, 2) := by decide +kernel
theorem dX9_name_78 : decode cX9_name 78 = .ok (.bipush 110, 2) := by decide +kernel
theorem dX9_name_80 : decode cX9_name 80 = .ok (.bipush 121, 2) := by decide +kernel
theorem dX9_name_82 : decode cX9_name 82 = .ok (.iconst 0, 1) := by decide +kernel
theorem dX9_name_83 : decode cX9_name 83 = .ok (.iconst 0, 1) := by decide +kernel
theorem dX9_name_84 : decode cX9_name 84 = .ok (.iconst 0, 1) := by decide +kernel
theorem dX9_name_85 : decode cX9_name 85 = .ok (.iconst 0, 1) := by decide +kernel
theorem dX9_name_86 : decode cX9_name 86 = .ok (.invokevirtual 203, 3) := by decide +kernel
theorem dX9_name_89 : decode cX9_name 89 = .ok (.ifCond .eq 8, 3) := by decide +kernel
theorem dX9_name_92 : decode cX9_name 92 = .ok (.aload_n 0, 1) := by decide +kernel
theorem dX9_name_93 : decode cX9_name 93 = .ok (.getfield 216, 3) := by decide +kernel
theorem dX9_name_96 : decode cX9_name 96 = .ok (.ireturn, 1) := by decide +kernel
theorem dX9_name_97 : decode cX9_name 97 = .ok (.aload_n 0, 1) := by decide +kernel
theorem dX9_name_98 : decode cX9_name 98 = .ok (.bipush 110, 2) := by decide +kernel
theorem dX9_name_100 : decode cX9_name 100 = .ok (.bipush 105, 2) := by decide +kernel
theorem dX9_name_102 : decode cX9_name 102 = .ok (.bipush 103, 2) := by decide +kernel
theorem dX9_name_104 : decode cX9_name 104 = .ok (.bipush 104, 2) := by decide +kernel
theorem dX9_name_106 : decode cX9_name 106 = .ok (.bipush 116, 2) := by decide +kernel
theorem dX9_name_108 : decode cX9_name 108 = .ok (.iconst 0, 1) := by decide +kernel
theorem dX9_name_109 : decode cX9_name 109 = .ok (.iconst 0, 1) := by decide +kernel
theorem dX9_name_110 : decode cX9_name 110 = .ok (.iconst 0, 1) := by decide +kernel
theorem dX9_name_111 : decode cX9_name 111 = .ok (.invokevirtual 203, 3) := by decide +kernel
theorem dX9_name_114 : decode cX9_name 114 = .ok (.ifCond .eq 8, 3) := by decide +kernel
theorem dX9_name_117 : decode cX9_name 117 = .ok (.aload_n 0, 1) := by decide +kernel
theorem dX9_name_118 : decode cX9_name 118 = .ok (.getfield 219, 3) := by decide +kernel
theorem dX9_name_121 : decode cX9_name 121 = .ok (.ireturn, 1) := by decide +kernel
theorem dX9_name_122 : decode cX9_name 122 = .ok (.aload_n 0, 1) := by decide +kernel
theorem dX9_name_123 : decode cX9_name 123 = .ok (.bipush 111, 2) := by decide +kernel
theorem dX9_name_125 : decode cX9_name 125 = .ok (.bipush 119, 2) := by decide +kernel
theorem dX9_name_127 : decode cX9_name 127 = .ok (.bipush 110, 2) := by decide +kernel
theorem dX9_name_129 : decode cX9_name 129 = .ok (.iconst 0, 1) := by decide +kernel
theorem dX9_name_130 : decode cX9_name 130 = .ok (.iconst 0, 1) := by decide +kernel
theorem dX9_name_131 : decode cX9_name 131 = .ok (.iconst 0, 1) := by decide +kernel
theorem dX9_name_132 : decode cX9_name 132 = .ok (.iconst 0, 1) := by decide +kernel
theorem dX9_name_133 : decode cX9_name 133 = .ok (.iconst 0, 1) := by decide +kernel
theorem dX9_name_134 : decode cX9_name 134 = .ok (.invokevirtual 203, 3) := by decide +kernel
theorem dX9_name_137 : decode cX9_name 137 = .ok (.ifCond .eq 8, 3) := by decide +kernel
theorem dX9_name_140 : decode cX9_name 140 = .ok (.aload_n 0, 1) := by decide +kernel
theorem dX9_name_141 : decode cX9_name 141 = .ok (.getfield 222, 3) := by decide +kernel
theorem dX9_name_144 : decode cX9_name 144 = .ok (.ireturn, 1) := by decide +kernel
theorem dX9_name_145 : decode cX9_name 145 = .ok (.aload_n 0, 1) := by decide +kernel
theorem dX9_name_146 : decode cX9_name 146 = .ok (.invokevirtual 197, 3) := by decide +kernel
theorem dX9_name_149 : decode cX9_name 149 = .ok (.iconst 0, 1) := by decide +kernel
theorem dX9_name_150 : decode cX9_name 150 = .ok (.ireturn, 1) := by decide +kernel
theorem dX9_atom_0 : decode cX9_atom 0 = .ok (.iconst 0, 1) := by decide +kernel
theorem dX9_atom_1 : decode cX9_atom 1 = .ok (.istore_n 1, 1) := by decide +kernel
theorem dX9_atom_2 : decode cX9_atom 2 = .ok (.aload_n 0, 1) := by decide +kernel
theorem dX9_atom_3 : decode cX9_atom 3 = .ok (.bipush 45, 2) := by decide +kernel
theorem dX9_atom_5 : decode cX9_atom 5 = .ok (.invokevirtual 225, 3) := by decide +kernel
theorem dX9_atom_8 : decode cX9_atom 8 = .ok (.ifCond .eq 29, 3) := by decide +kernel
theorem dX9_atom_11 : decode cX9_atom 11 = .ok (.aload_n 0, 1) := by decide +kernel
theorem dX9_atom_12 : decode cX9_atom 12 = .ok (.invokevirtual 228, 3) := by decide +kernel
theorem dX9_atom_15 : decode cX9_atom 15 = .ok (.ifCond .eq 146, 3) := by decide +kernel
theorem dX9_atom_18 : decode cX9_atom 18 = .ok (.aload_n 0, 1) := by decide +kernel
theorem dX9_atom_19 : decode cX9_atom 19 = .ok (.invokevirtual 232, 3) := by decide +kernel
theorem dX9_atom_22 : decode cX9_atom 22 = .ok (.ineg, 1) := by decide +kernel
theorem dX9_atom_23 : decode cX9_atom 23 = .ok (.istore_n 1, 1) := by decide +kernel
theorem dX9_atom_24 : decode cX9_atom 24 = .ok (.aload_n 0, 1) := by decide +kernel
theorem dX9_atom_25 : decode cX9_atom 25 = .ok (.dup, 1) := by decide +kernel
theorem dX9_atom_26 : decode cX9_atom 26 = .ok (.getfield 194, 3) := by decide +kernel
theorem dX9_atom_29 : decode cX9_atom 29 = .ok (.iconst 1, 1) := by decide +kernel
theorem dX9_atom_30 : decode cX9_atom 30 = .ok (.isub, 1) := by decide +kernel
theorem dX9_atom_31 : decode cX9_atom 31 = .ok (.putfield 194, 3) := by decide +kernel
theorem dX9_atom_34 : decode cX9_atom 34 = .ok (.goto 127, 3) := by decide +kernel
theorem dX9_atom_37 : decode cX9_atom 37 = .ok (.aload_n 0, 1) := by decide +kernel
theorem dX9_atom_38 : decode cX9_atom 38 = .ok (.bipush 40, 2) := by decide +kernel
theorem dX9_atom_40 : decode cX9_atom 40 = .ok (.invokevirtual 225, 3) := by decide +kernel
theorem dX9_atom_43 : decode cX9_atom 43 = .ok (.ifCond .eq 52, 3) := by decide +kernel
theorem dX9_atom_46 : decode cX9_atom 46 = .ok (.aload_n 0, 1) := by decide +kernel
theorem dX9_atom_47 : decode cX9_atom 47 = .ok (.invokevirtual 228, 3) := by decide +kernel
theorem dX9_atom_50 : decode cX9_atom 50 = .ok (.ifCond .eq 111, 3) := by decide +kernel
theorem dX9_atom_53 : decode cX9_atom 53 = .ok (.aload_n 0, 1) := by decide +kernel
theorem dX9_atom_54 : decode cX9_atom 54 = .ok (.invokevirtual 236, 3) := by decide +kernel
theorem dX9_atom_57 : decode cX9_atom 57 = .ok (.istore_n 1, 1) := by decide +kernel
theorem dX9_atom_58 : decode cX9_atom 58 = .ok (.aload_n 0, 1) := by decide +kernel
theorem dX9_atom_59 : decode cX9_atom 59 = .ok (.bipush 41, 2) := by decide +kernel
theorem dX9_atom_61 : decode cX9_atom 61 = .ok (.invokevirtual 225, 3) := by decide +kernel
theorem dX9_atom_64 : decode cX9_atom 64 = .ok (.ifCond .ne 7, 3) := by decide +kernel
theorem dX9_atom_67 : decode cX9_atom 67 = .ok (.aload_n 0, 1) := by decide +kernel
theorem dX9_atom_68 : decode cX9_atom 68 = .ok (.invokevirtual 197, 3) := by decide +kernel
theorem dX9_atom_71 : decode cX9_atom 71 = .ok (.aload_n 0, 1) := by decide +kernel
theorem dX9_atom_72 : decode cX9_atom 72 = .ok (.dup, 1) := by decide +kernel
theorem dX9_atom_73 : decode cX9_atom 73 = .ok (.getfield 194, 3) := by decide +kernel
theorem dX9_atom_76 : decode cX9_atom 76 = .ok (.iconst 1, 1) := by decide +kernel
theorem dX9_atom_77 : decode cX9_atom 77 = .ok (.isub, 1) := by decide +kernel
theorem dX9_atom_78 : decode cX9_atom 78 = .ok (.putfield 194, 3) := by decide +kernel
theorem dX9_atom_81 : decode cX9_atom 81 = .ok (.aload_n 0, 1) := by decide +kernel
theorem dX9_atom_82 : decode cX9_atom 82 = .ok (.getfield 183, 3) := by decide +kernel
theorem dX9_atom_85 : decode cX9_atom 85 = .ok (.ifCond .ne 76, 3) := by decide +kernel
theorem dX9_atom_88 : decode cX9_atom 88 = .ok (.aload_n 0, 1) := by decide +kernel
theorem dX9_atom_89 : decode cX9_atom 89 = .ok (.invokevirtual 200, 3) := by decide +kernel
theorem dX9_atom_92 : decode cX9_atom 92 = .ok (.goto 69, 3) := by decide +kernel
theorem dX9_atom_95 : decode cX9_atom 95 = .ok (.aload_n 0, 1) := by decide +kernel
theorem dX9_atom_96 : decode cX9_atom 96 = .ok (.getfield 183, 3) := by decide +kernel
theorem dX9_atom_99 : decode cX9_atom 99 = .ok (.ifCond .ne 24, 3) := by decide +kernel
theorem dX9_atom_102 : decode cX9_atom 102 = .ok (.aload_n 0, 1) := by decide +kernel
theorem dX9_atom_103 : decode cX9_atom 103 = .ok (.getfield 166, 3) := by decide +kernel
theorem dX9_atom_106 : decode cX9_atom 106 = .ok (.iconst 2, 1) := by decide +kernel
theorem dX9_atom_107 : decode cX9_atom 107 = .ok (.if_icmp .ne 16, 3) := by decide +kernel
theorem dX9_atom_110 : decode cX9_atom 110 = .ok (.aload_n 0, 1) := by decide +kernel
theorem dX9_atom_111 : decode cX9_atom 111 = .ok (.getfield 177, 3) := by decide +kernel
theorem dX9_atom_114 : decode cX9_atom 114 = .ok (.l2i, 1) := by decide +kernel
theorem dX9_atom_115 : decode cX9_atom 115 = .ok (.istore_n 1, 1) := by decide +kernel
theorem dX9_atom_116 : decode cX9_atom 116 = .ok (.aload_n 0, 1) := by decide +kernel
theorem dX9_atom_117 : decode cX9_atom 117 = .ok (.invokevirtual 200, 3) := by decide +kernel
theorem dX9_atom_120 : decode cX9_atom 120 = .ok (.goto 41, 3) := by decide +kernel
theorem dX9_atom_123 : decode cX9_atom 123 = .ok (.aload_n 0, 1) := by decide +kernel
theorem dX9_atom_124 : decode cX9_atom 124 = .ok (.getfield 183, 3) := by decide +kernel
theorem dX9_atom_127 : decode cX9_atom 127 = .ok (.ifCond .ne 30, 3) := by decide +kernel
theorem dX9_atom_130 : decode cX9_atom 130 = .ok (.aload_n 0, 1) := by decide +kernel
theorem dX9_atom_131 : decode cX9_atom 131 = .ok (.getfield 166, 3) := by decide +kernel
theorem dX9_atom_134 : decode cX9_atom 134 = .ok (.iconst 1, 1) := by decide +kernel
theorem dX9_atom_135 : decode cX9_atom 135 = .ok (.if_icmp .ne 22, 3) := by decide +kernel
theorem dX9_atom_138 : decode cX9_atom 138 = .ok (.aload_n 0, 1) := by decide +kernel
theorem dX9_atom_139 : decode cX9_atom 139 = .ok (.invokevirtual 239, 3) := by decide +kernel
theorem dX9_atom_142 : decode cX9_atom 142 = .ok (.istore_n 1, 1) := by decide +kernel
theorem dX9_atom_143 : decode cX9_atom 143 = .ok (.aload_n 0, 1) := by decide +kernel
theorem dX9_atom_144 : decode cX9_atom 144 = .ok (.getfield 183, 3) := by decide +kernel
theorem dX9_atom_147 : decode cX9_atom 147 = .ok (.ifCond .ne 14, 3) := by decide +kernel
theorem dX9_atom_150 : decode cX9_atom 150 = .ok (.aload_n 0, 1) := by decide +kernel
theorem dX9_atom_151 : decode cX9_atom 151 = .ok (.invokevirtual 200, 3) := by decide +kernel
theorem dX9_atom_154 : decode cX9_atom 154 = .ok (.goto 7, 3) := by decide +kernel
theorem dX9_atom_157 : decode cX9_atom 157 = .ok (.aload_n 0, 1) := by decide +kernel
theorem dX9_atom_158 : decode cX9_atom 158 = .ok (.invokevirtual 197, 3) := by decide +kernel
theorem dX9_atom_161 : decode cX9_atom 161 = .ok (.iload_n 1, 1) := by decide +kernel
theorem dX9_atom_162 : decode cX9_atom 162 = .ok (.ireturn, 1) := by decide +kernel
theorem dX9_term_0 : decode cX9_term 0 = .ok (.aload_n 0, 1) := by decide +kernel
theorem dX9_term_1 : decode cX9_term 1 = .ok (.invokevirtual 232, 3) := by decide +kernel
theorem dX9_term_4 : decode cX9_term 4 = .ok (.istore_n 1, 1) := by decide +kernel
theorem dX9_term_5 : decode cX9_term 5 = .ok (.aload_n 0, 1) := by decide +kernel
theorem dX9_term_6 : decode cX9_term 6 = .ok (.bipush 42, 2) := by decide +kernel
theorem dX9_term_8 : decode cX9_term 8 = .ok (.invokevirtual 225, 3) := by decide +kernel
theorem dX9_term_11 : decode cX9_term 11 = .ok (.ifCond .eq 17, 3) := by decide +kernel
theorem dX9_term_14 : decode cX9_term 14 = .ok (.aload_n 0, 1) := by decide +kernel
theorem dX9_term_15 : decode cX9_term 15 = .ok (.invokevirtual 200, 3) := by decide +kernel
theorem dX9_term_18 : decode cX9_term 18 = .ok (.iload_n 1, 1) := by decide +kernel
theorem dX9_term_19 : decode cX9_term 19 = .ok (.aload_n 0, 1) := by decide +kernel
theorem dX9_term_20 : decode cX9_term 20 = .ok (.invokevirtual 232, 3) := by decide +kernel
theorem dX9_term_23 : decode cX9_term 23 = .ok (.imul, 1) := by decide +kernel
theorem dX9_term_24 : decode cX9_term 24 = .ok (.istore_n 1, 1) := by decide +kernel
theorem dX9_term_25 : decode cX9_term 25 = .ok (.goto (-20), 3) := by decide +kernel
theorem dX9_term_28 : decode cX9_term 28 = .ok (.iload_n 1, 1) := by decide +kernel
theorem dX9_term_29 : decode cX9_term 29 = .ok (.ireturn, 1) := by decide +kernel
theorem dX9_added_0 : decode cX9_added 0 = .ok (.aload_n 0, 1) := by decide +kernel
theorem dX9_added_1 : decode cX9_added 1 = .ok (.invokevirtual 242, 3) := by decide +kernel
theorem dX9_added_4 : decode cX9_added 4 = .ok (.istore_n 1, 1) := by decide +kernel
theorem dX9_added_5 : decode cX9_added 5 = .ok (.aload_n 0, 1) := by decide +kernel
theorem dX9_added_6 : decode cX9_added 6 = .ok (.bipush 43, 2) := by decide +kernel
theorem dX9_added_8 : decode cX9_added 8 = .ok (.invokevirtual 225, 3) := by decide +kernel
theorem dX9_added_11 : decode cX9_added 11 = .ok (.ifCond .ne 12, 3) := by decide +kernel
theorem dX9_added_14 : decode cX9_added 14 = .ok (.aload_n 0, 1) := by decide +kernel
theorem dX9_added_15 : decode cX9_added 15 = .ok (.bipush 45, 2) := by decide +kernel
theorem dX9_added_17 : decode cX9_added 17 = .ok (.invokevirtual 225, 3) := by decide +kernel
theorem dX9_added_20 : decode cX9_added 20 = .ok (.ifCond .eq 46, 3) := by decide +kernel
theorem dX9_added_23 : decode cX9_added 23 = .ok (.aload_n 0, 1) := by decide +kernel
theorem dX9_added_24 : decode cX9_added 24 = .ok (.getfield 177, 3) := by decide +kernel
theorem dX9_added_27 : decode cX9_added 27 = .ok (.ldc2_w 245, 3) := by decide +kernel
theorem dX9_added_30 : decode cX9_added 30 = .ok (.lcmp, 1) := by decide +kernel
theorem dX9_added_31 : decode cX9_added 31 = .ok (.ifCond .ne 7, 3) := by decide +kernel
theorem dX9_added_34 : decode cX9_added 34 = .ok (.iconst 1, 1) := by decide +kernel
theorem dX9_added_35 : decode cX9_added 35 = .ok (.goto 4, 3) := by decide +kernel
theorem dX9_added_38 : decode cX9_added 38 = .ok (.iconst 0, 1) := by decide +kernel
theorem dX9_added_39 : decode cX9_added 39 = .ok (.istore_n 2, 1) := by decide +kernel
theorem dX9_added_40 : decode cX9_added 40 = .ok (.aload_n 0, 1) := by decide +kernel
theorem dX9_added_41 : decode cX9_added 41 = .ok (.invokevirtual 200, 3) := by decide +kernel
theorem dX9_added_44 : decode cX9_added 44 = .ok (.aload_n 0, 1) := by decide +kernel
theorem dX9_added_45 : decode cX9_added 45 = .ok (.invokevirtual 242, 3) := by decide +kernel
theorem dX9_added_48 : decode cX9_added 48 = .ok (.istore_n 3, 1) := by decide +kernel
theorem dX9_added_49 : decode cX9_added 49 = .ok (.iload_n 2, 1) := by decide +kernel
theorem dX9_added_50 : decode cX9_added 50 = .ok (.ifCond .eq 9, 3) := by decide +kernel
theorem dX9_added_53 : decode cX9_added 53 = .ok (.iload_n 1, 1) := by decide +kernel
theorem dX9_added_54 : decode cX9_added 54 = .ok (.iload_n 3, 1) := by decide +kernel
theorem dX9_added_55 : decode cX9_added 55 = .ok (.iadd, 1) := by decide +kernel
theorem dX9_added_56 : decode cX9_added 56 = .ok (.goto 6, 3) := by decide +kernel
theorem dX9_added_59 : decode cX9_added 59 = .ok (.iload_n 1, 1) := by decide +kernel
theorem dX9_added_60 : decode cX9_added 60 = .ok (.iload_n 3, 1) := by decide +kernel
theorem dX9_added_61 : decode cX9_added 61 = .ok (.isub, 1) := by decide +kernel
theorem dX9_added_62 : decode cX9_added 62 = .ok (.istore_n 1, 1) := by decide +kernel
theorem dX9_added_63 : decode cX9_added 63 = .ok (.goto (-58), 3) := by decide +kernel
theorem dX9_added_66 : decode cX9_added 66 = .ok (.iload_n 1, 1) := by decide +kernel
theorem dX9_added_67 : decode cX9_added 67 = .ok (.ireturn, 1) := by decide +kernel
theorem dX9_not_0 : decode cX9_not 0 = .ok (.aload_n 0, 1) := by decide +kernel
theorem dX9_not_1 : decode cX9_not 1 = .ok (.bipush 110, 2) := by decide +kernel
theorem dX9_not_3 : decode cX9_not 3 = .ok (.bipush 111, 2) := by decide +kernel
theorem dX9_not_5 : decode cX9_not 5 = .ok (.bipush 116, 2) := by decide +kernel
theorem dX9_not_7 : decode cX9_not 7 = .ok (.iconst 0, 1) := by decide +kernel
theorem dX9_not_8 : decode cX9_not 8 = .ok (.iconst 0, 1) := by decide +kernel
theorem dX9_not_9 : decode cX9_not 9 = .ok (.iconst 0, 1) := by decide +kernel
theorem dX9_not_10 : decode cX9_not 10 = .ok (.iconst 0, 1) := by decide +kernel
theorem dX9_not_11 : decode cX9_not 11 = .ok (.iconst 0, 1) := by decide +kernel
theorem dX9_not_12 : decode cX9_not 12 = .ok (.invokevirtual 203, 3) := by decide +kernel
theorem dX9_not_15 : decode cX9_not 15 = .ok (.ifCond .eq 37, 3) := by decide +kernel
theorem dX9_not_18 : decode cX9_not 18 = .ok (.aload_n 0, 1) := by decide +kernel
theorem dX9_not_19 : decode cX9_not 19 = .ok (.invokevirtual 228, 3) := by decide +kernel
theorem dX9_not_22 : decode cX9_not 22 = .ok (.ifCond .ne 5, 3) := by decide +kernel
theorem dX9_not_25 : decode cX9_not 25 = .ok (.iconst 0, 1) := by decide +kernel
theorem dX9_not_26 : decode cX9_not 26 = .ok (.ireturn, 1) := by decide +kernel
theorem dX9_not_27 : decode cX9_not 27 = .ok (.aload_n 0, 1) := by decide +kernel
theorem dX9_not_28 : decode cX9_not 28 = .ok (.invokevirtual 247, 3) := by decide +kernel
theorem dX9_not_31 : decode cX9_not 31 = .ok (.istore_n 1, 1) := by decide +kernel
theorem dX9_not_32 : decode cX9_not 32 = .ok (.aload_n 0, 1) := by decide +kernel
theorem dX9_not_33 : decode cX9_not 33 = .ok (.dup, 1) := by decide +kernel
theorem dX9_not_34 : decode cX9_not 34 = .ok (.getfield 194, 3) := by decide +kernel
theorem dX9_not_37 : decode cX9_not 37 = .ok (.iconst 1, 1) := by decide +kernel
theorem dX9_not_38 : decode cX9_not 38 = .ok (.isub, 1) := by decide +kernel
theorem dX9_not_39 : decode cX9_not 39 = .ok (.putfield 194, 3) := by decide +kernel
theorem dX9_not_42 : decode cX9_not 42 = .ok (.iload_n 1, 1) := by decide +kernel
theorem dX9_not_43 : decode cX9_not 43 = .ok (.ifCond .ne 7, 3) := by decide +kernel
theorem dX9_not_46 : decode cX9_not 46 = .ok (.iconst 1, 1) := by decide +kernel
theorem dX9_not_47 : decode cX9_not 47 = .ok (.goto 4, 3) := by decide +kernel
theorem dX9_not_50 : decode cX9_not 50 = .ok (.iconst 0, 1) := by decide +kernel
theorem dX9_not_51 : decode cX9_not 51 = .ok (.ireturn, 1) := by decide +kernel
theorem dX9_not_52 : decode cX9_not 52 = .ok (.aload_n 0, 1) := by decide +kernel
theorem dX9_not_53 : decode cX9_not 53 = .ok (.invokevirtual 250, 3) := by decide +kernel
theorem dX9_not_56 : decode cX9_not 56 = .ok (.istore_n 1, 1) := by decide +kernel
theorem dX9_not_57 : decode cX9_not 57 = .ok (.aload_n 0, 1) := by decide +kernel
theorem dX9_not_58 : decode cX9_not 58 = .ok (.bipush 60, 2) := by decide +kernel
theorem dX9_not_60 : decode cX9_not 60 = .ok (.invokevirtual 225, 3) := by decide +kernel
theorem dX9_not_63 : decode cX9_not 63 = .ok (.ifCond .ne 14, 3) := by decide +kernel
theorem dX9_not_66 : decode cX9_not 66 = .ok (.aload_n 0, 1) := by decide +kernel
theorem dX9_not_67 : decode cX9_not 67 = .ok (.bipush 61, 2) := by decide +kernel
theorem dX9_not_69 : decode cX9_not 69 = .ok (.invokevirtual 225, 3) := by decide +kernel
theorem dX9_not_72 : decode cX9_not 72 = .ok (.ifCond .ne 5, 3) := by decide +kernel
theorem dX9_not_75 : decode cX9_not 75 = .ok (.iload_n 1, 1) := by decide +kernel
theorem dX9_not_76 : decode cX9_not 76 = .ok (.ireturn, 1) := by decide +kernel
theorem dX9_not_77 : decode cX9_not 77 = .ok (.aload_n 0, 1) := by decide +kernel
theorem dX9_not_78 : decode cX9_not 78 = .ok (.getfield 177, 3) := by decide +kernel
theorem dX9_not_81 : decode cX9_not 81 = .ok (.ldc2_w 253, 3) := by decide +kernel
theorem dX9_not_84 : decode cX9_not 84 = .ok (.lcmp, 1) := by decide +kernel
theorem dX9_not_85 : decode cX9_not 85 = .ok (.ifCond .ne 7, 3) := by decide +kernel
theorem dX9_not_88 : decode cX9_not 88 = .ok (.iconst 1, 1) := by decide +kernel
theorem dX9_not_89 : decode cX9_not 89 = .ok (.goto 4, 3) := by decide +kernel
theorem dX9_not_92 : decode cX9_not 92 = .ok (.iconst 0, 1) := by decide +kernel
theorem dX9_not_93 : decode cX9_not 93 = .ok (.istore_n 2, 1) := by decide +kernel
theorem dX9_not_94 : decode cX9_not 94 = .ok (.aload_n 0, 1) := by decide +kernel
theorem dX9_not_95 : decode cX9_not 95 = .ok (.invokevirtual 200, 3) := by decide +kernel
theorem dX9_not_98 : decode cX9_not 98 = .ok (.aload_n 0, 1) := by decide +kernel
theorem dX9_not_99 : decode cX9_not 99 = .ok (.invokevirtual 250, 3) := by decide +kernel
theorem dX9_not_102 : decode cX9_not 102 = .ok (.istore_n 3, 1) := by decide +kernel
theorem dX9_not_103 : decode cX9_not 103 = .ok (.iload_n 2, 1) := by decide +kernel
theorem dX9_not_104 : decode cX9_not 104 = .ok (.ifCond .eq 11, 3) := by decide +kernel
theorem dX9_not_107 : decode cX9_not 107 = .ok (.iload_n 1, 1) := by decide +kernel
theorem dX9_not_108 : decode cX9_not 108 = .ok (.iload_n 3, 1) := by decide +kernel
theorem dX9_not_109 : decode cX9_not 109 = .ok (.if_icmp .ge 15, 3) := by decide +kernel
theorem dX9_not_112 : decode cX9_not 112 = .ok (.goto 8, 3) := by decide +kernel
theorem dX9_not_115 : decode cX9_not 115 = .ok (.iload_n 1, 1) := by decide +kernel
theorem dX9_not_116 : decode cX9_not 116 = .ok (.iload_n 3, 1) := by decide +kernel
theorem dX9_not_117 : decode cX9_not 117 = .ok (.if_icmp .ne 7, 3) := by decide +kernel
theorem dX9_not_120 : decode cX9_not 120 = .ok (.iconst 1, 1) := by decide +kernel
theorem dX9_not_121 : decode cX9_not 121 = .ok (.goto 4, 3) := by decide +kernel
theorem dX9_not_124 : decode cX9_not 124 = .ok (.iconst 0, 1) := by decide +kernel
theorem dX9_not_125 : decode cX9_not 125 = .ok (.ireturn, 1) := by decide +kernel
theorem dX9_both_0 : decode cX9_both 0 = .ok (.aload_n 0, 1) := by decide +kernel
theorem dX9_both_1 : decode cX9_both 1 = .ok (.invokevirtual 247, 3) := by decide +kernel
theorem dX9_both_4 : decode cX9_both 4 = .ok (.istore_n 1, 1) := by decide +kernel
theorem dX9_both_5 : decode cX9_both 5 = .ok (.aload_n 0, 1) := by decide +kernel
theorem dX9_both_6 : decode cX9_both 6 = .ok (.bipush 97, 2) := by decide +kernel
theorem dX9_both_8 : decode cX9_both 8 = .ok (.bipush 110, 2) := by decide +kernel
theorem dX9_both_10 : decode cX9_both 10 = .ok (.bipush 100, 2) := by decide +kernel
theorem dX9_both_12 : decode cX9_both 12 = .ok (.iconst 0, 1) := by decide +kernel
theorem dX9_both_13 : decode cX9_both 13 = .ok (.iconst 0, 1) := by decide +kernel
theorem dX9_both_14 : decode cX9_both 14 = .ok (.iconst 0, 1) := by decide +kernel
theorem dX9_both_15 : decode cX9_both 15 = .ok (.iconst 0, 1) := by decide +kernel
theorem dX9_both_16 : decode cX9_both 16 = .ok (.iconst 0, 1) := by decide +kernel
theorem dX9_both_17 : decode cX9_both 17 = .ok (.invokevirtual 203, 3) := by decide +kernel
theorem dX9_both_20 : decode cX9_both 20 = .ok (.ifCond .eq 29, 3) := by decide +kernel
theorem dX9_both_23 : decode cX9_both 23 = .ok (.aload_n 0, 1) := by decide +kernel
theorem dX9_both_24 : decode cX9_both 24 = .ok (.invokevirtual 200, 3) := by decide +kernel
theorem dX9_both_27 : decode cX9_both 27 = .ok (.aload_n 0, 1) := by decide +kernel
theorem dX9_both_28 : decode cX9_both 28 = .ok (.invokevirtual 247, 3) := by decide +kernel
theorem dX9_both_31 : decode cX9_both 31 = .ok (.istore_n 2, 1) := by decide +kernel
theorem dX9_both_32 : decode cX9_both 32 = .ok (.iload_n 1, 1) := by decide +kernel
theorem dX9_both_33 : decode cX9_both 33 = .ok (.ifCond .eq 11, 3) := by decide +kernel
theorem dX9_both_36 : decode cX9_both 36 = .ok (.iload_n 2, 1) := by decide +kernel
theorem dX9_both_37 : decode cX9_both 37 = .ok (.ifCond .eq 7, 3) := by decide +kernel
theorem dX9_both_40 : decode cX9_both 40 = .ok (.iconst 1, 1) := by decide +kernel
theorem dX9_both_41 : decode cX9_both 41 = .ok (.goto 4, 3) := by decide +kernel
theorem dX9_both_44 : decode cX9_both 44 = .ok (.iconst 0, 1) := by decide +kernel
theorem dX9_both_45 : decode cX9_both 45 = .ok (.istore_n 1, 1) := by decide +kernel
theorem dX9_both_46 : decode cX9_both 46 = .ok (.goto (-41), 3) := by decide +kernel
theorem dX9_both_49 : decode cX9_both 49 = .ok (.iload_n 1, 1) := by decide +kernel
theorem dX9_both_50 : decode cX9_both 50 = .ok (.ireturn, 1) := by decide +kernel
theorem dX9_either_0 : decode cX9_either 0 = .ok (.aload_n 0, 1) := by decide +kernel
theorem dX9_either_1 : decode cX9_either 1 = .ok (.invokevirtual 255, 3) := by decide +kernel
theorem dX9_either_4 : decode cX9_either 4 = .ok (.istore_n 1, 1) := by decide +kernel
theorem dX9_either_5 : decode cX9_either 5 = .ok (.aload_n 0, 1) := by decide +kernel
theorem dX9_either_6 : decode cX9_either 6 = .ok (.bipush 111, 2) := by decide +kernel
theorem dX9_either_8 : decode cX9_either 8 = .ok (.bipush 114, 2) := by decide +kernel
theorem dX9_either_10 : decode cX9_either 10 = .ok (.iconst 0, 1) := by decide +kernel
theorem dX9_either_11 : decode cX9_either 11 = .ok (.iconst 0, 1) := by decide +kernel
theorem dX9_either_12 : decode cX9_either 12 = .ok (.iconst 0, 1) := by decide +kernel
theorem dX9_either_13 : decode cX9_either 13 = .ok (.iconst 0, 1) := by decide +kernel
theorem dX9_either_14 : decode cX9_either 14 = .ok (.iconst 0, 1) := by decide +kernel
theorem dX9_either_15 : decode cX9_either 15 = .ok (.iconst 0, 1) := by decide +kernel
theorem dX9_either_16 : decode cX9_either 16 = .ok (.invokevirtual 203, 3) := by decide +kernel
theorem dX9_either_19 : decode cX9_either 19 = .ok (.ifCond .eq 29, 3) := by decide +kernel
theorem dX9_either_22 : decode cX9_either 22 = .ok (.aload_n 0, 1) := by decide +kernel
theorem dX9_either_23 : decode cX9_either 23 = .ok (.invokevirtual 200, 3) := by decide +kernel
theorem dX9_either_26 : decode cX9_either 26 = .ok (.aload_n 0, 1) := by decide +kernel
theorem dX9_either_27 : decode cX9_either 27 = .ok (.invokevirtual 255, 3) := by decide +kernel
theorem dX9_either_30 : decode cX9_either 30 = .ok (.istore_n 2, 1) := by decide +kernel
theorem dX9_either_31 : decode cX9_either 31 = .ok (.iload_n 1, 1) := by decide +kernel
theorem dX9_either_32 : decode cX9_either 32 = .ok (.ifCond .ne 7, 3) := by decide +kernel
theorem dX9_either_35 : decode cX9_either 35 = .ok (.iload_n 2, 1) := by decide +kernel
theorem dX9_either_36 : decode cX9_either 36 = .ok (.ifCond .eq 7, 3) := by decide +kernel
theorem dX9_either_39 : decode cX9_either 39 = .ok (.iconst 1, 1) := by decide +kernel
theorem dX9_either_40 : decode cX9_either 40 = .ok (.goto 4, 3) := by decide +kernel
theorem dX9_either_43 : decode cX9_either 43 = .ok (.iconst 0, 1) := by decide +kernel
theorem dX9_either_44 : decode cX9_either 44 = .ok (.istore_n 1, 1) := by decide +kernel
theorem dX9_either_45 : decode cX9_either 45 = .ok (.goto (-40), 3) := by decide +kernel
theorem dX9_either_48 : decode cX9_either 48 = .ok (.iload_n 1, 1) := by decide +kernel
theorem dX9_either_49 : decode cX9_either 49 = .ok (.ireturn, 1) := by decide +kernel
theorem dX9_part_0 : decode cX9_part 0 = .ok (.iload_n 1, 1) := by decide +kernel
theorem dX9_part_1 : decode cX9_part 1 = .ok (.ifCond .ne 7, 3) := by decide +kernel
theorem dX9_part_4 : decode cX9_part 4 = .ok (.aload_n 0, 1) := by decide +kernel
theorem dX9_part_5 : decode cX9_part 5 = .ok (.invokevirtual 197, 3) := by decide +kernel
theorem dX9_part_8 : decode cX9_part 8 = .ok (.aload_n 0, 1) := by decide +kernel
theorem dX9_part_9 : decode cX9_part 9 = .ok (.getfield 183, 3) := by decide +kernel
theorem dX9_part_12 : decode cX9_part 12 = .ok (.ifCond .ne 7, 3) := by decide +kernel
theorem dX9_part_15 : decode cX9_part 15 = .ok (.aload_n 0, 1) := by decide +kernel
theorem dX9_part_16 : decode cX9_part 16 = .ok (.invokevirtual 200, 3) := by decide +kernel
theorem dX9_part_19 : decode cX9_part 19 = .ok (.aload_n 0, 1) := by decide +kernel
theorem dX9_part_20 : decode cX9_part 20 = .ok (.getfield 183, 3) := by decide +kernel
theorem dX9_part_23 : decode cX9_part 23 = .ok (.ifCond .eq 7, 3) := by decide +kernel
theorem dX9_part_26 : decode cX9_part 26 = .ok (.iconst 0, 1) := by decide +kernel
theorem dX9_part_27 : decode cX9_part 27 = .ok (.goto 7, 3) := by decide +kernel
theorem dX9_part_30 : decode cX9_part 30 = .ok (.aload_n 0, 1) := by decide +kernel
theorem dX9_part_31 : decode cX9_part 31 = .ok (.invokevirtual 236, 3) := by decide +kernel
theorem dX9_part_34 : decode cX9_part 34 = .ok (.istore_n 2, 1) := by decide +kernel
theorem dX9_part_35 : decode cX9_part 35 = .ok (.aload_n 0, 1) := by decide +kernel
theorem dX9_part_36 : decode cX9_part 36 = .ok (.bipush 59, 2) := by decide +kernel
theorem dX9_part_38 : decode cX9_part 38 = .ok (.invokevirtual 225, 3) := by decide +kernel
theorem dX9_part_41 : decode cX9_part 41 = .ok (.ifCond .ne 7, 3) := by decide +kernel
theorem dX9_part_44 : decode cX9_part 44 = .ok (.aload_n 0, 1) := by decide +kernel
theorem dX9_part_45 : decode cX9_part 45 = .ok (.invokevirtual 197, 3) := by decide +kernel
theorem dX9_part_48 : decode cX9_part 48 = .ok (.aload_n 0, 1) := by decide +kernel
theorem dX9_part_49 : decode cX9_part 49 = .ok (.getfield 183, 3) := by decide +kernel
theorem dX9_part_52 : decode cX9_part 52 = .ok (.ifCond .ne 7, 3) := by decide +kernel
theorem dX9_part_55 : decode cX9_part 55 = .ok (.aload_n 0, 1) := by decide +kernel
theorem dX9_part_56 : decode cX9_part 56 = .ok (.invokevirtual 200, 3) := by decide +kernel
theorem dX9_part_59 : decode cX9_part 59 = .ok (.iload_n 2, 1) := by decide +kernel
theorem dX9_part_60 : decode cX9_part 60 = .ok (.ireturn, 1) := by decide +kernel
theorem dX9_read_0 : decode cX9_read 0 = .ok (.aload_n 0, 1) := by decide +kernel
theorem dX9_read_1 : decode cX9_read 1 = .ok (.sipush 160, 3) := by decide +kernel
theorem dX9_read_4 : decode cX9_read 4 = .ok (.iload_n 1, 1) := by decide +kernel
theorem dX9_read_5 : decode cX9_read 5 = .ok (.imul, 1) := by decide +kernel
theorem dX9_read_6 : decode cX9_read 6 = .ok (.putfield 154, 3) := by decide +kernel
theorem dX9_read_9 : decode cX9_read 9 = .ok (.aload_n 0, 1) := by decide +kernel
theorem dX9_read_10 : decode cX9_read 10 = .ok (.aload_n 0, 1) := by decide +kernel
theorem dX9_read_11 : decode cX9_read 11 = .ok (.getfield 17, 3) := by decide +kernel
theorem dX9_read_14 : decode cX9_read 14 = .ok (.iload_n 1, 1) := by decide +kernel
theorem dX9_read_15 : decode cX9_read 15 = .ok (.iaload, 1) := by decide +kernel
theorem dX9_read_16 : decode cX9_read 16 = .ok (.putfield 151, 3) := by decide +kernel
theorem dX9_read_19 : decode cX9_read 19 = .ok (.aload_n 0, 1) := by decide +kernel
theorem dX9_read_20 : decode cX9_read 20 = .ok (.iconst 0, 1) := by decide +kernel
theorem dX9_read_21 : decode cX9_read 21 = .ok (.putfield 157, 3) := by decide +kernel
theorem dX9_read_24 : decode cX9_read 24 = .ok (.aload_n 0, 1) := by decide +kernel
theorem dX9_read_25 : decode cX9_read 25 = .ok (.iconst 0, 1) := by decide +kernel
theorem dX9_read_26 : decode cX9_read 26 = .ok (.putfield 194, 3) := by decide +kernel
theorem dX9_read_29 : decode cX9_read 29 = .ok (.aload_n 0, 1) := by decide +kernel
theorem dX9_read_30 : decode cX9_read 30 = .ok (.iconst 0, 1) := by decide +kernel
theorem dX9_read_31 : decode cX9_read 31 = .ok (.putfield 183, 3) := by decide +kernel
theorem dX9_read_34 : decode cX9_read 34 = .ok (.aload_n 0, 1) := by decide +kernel
theorem dX9_read_35 : decode cX9_read 35 = .ok (.invokevirtual 200, 3) := by decide +kernel
theorem dX9_read_38 : decode cX9_read 38 = .ok (.aload_n 0, 1) := by decide +kernel
theorem dX9_read_39 : decode cX9_read 39 = .ok (.aload_n 0, 1) := by decide +kernel
theorem dX9_read_40 : decode cX9_read 40 = .ok (.bipush 108, 2) := by decide +kernel
theorem dX9_read_42 : decode cX9_read 42 = .ok (.bipush 105, 2) := by decide +kernel
theorem dX9_read_44 : decode cX9_read 44 = .ok (.bipush 107, 2) := by decide +kernel
theorem dX9_read_46 : decode cX9_read 46 = .ok (.bipush 101, 2) := by decide +kernel
theorem dX9_read_48 : decode cX9_read 48 = .ok (.bipush 115, 2) := by decide +kernel
theorem dX9_read_50 : decode cX9_read 50 = .ok (.iconst 0, 1) := by decide +kernel
theorem dX9_read_51 : decode cX9_read 51 = .ok (.iconst 0, 1) := by decide +kernel
theorem dX9_read_52 : decode cX9_read 52 = .ok (.iconst 0, 1) := by decide +kernel
theorem dX9_read_53 : decode cX9_read 53 = .ok (.invokevirtual 203, 3) := by decide +kernel
theorem dX9_read_56 : decode cX9_read 56 = .ok (.invokevirtual 258, 3) := by decide +kernel
theorem dX9_read_59 : decode cX9_read 59 = .ok (.istore_n 3, 1) := by decide +kernel
theorem dX9_read_60 : decode cX9_read 60 = .ok (.aload_n 0, 1) := by decide +kernel
theorem dX9_read_61 : decode cX9_read 61 = .ok (.getfield 183, 3) := by decide +kernel
theorem dX9_read_64 : decode cX9_read 64 = .ok (.ifCond .eq 7, 3) := by decide +kernel
theorem dX9_read_67 : decode cX9_read 67 = .ok (.iconst 0, 1) := by decide +kernel
theorem dX9_read_68 : decode cX9_read 68 = .ok (.goto 23, 3) := by decide +kernel
theorem dX9_read_71 : decode cX9_read 71 = .ok (.aload_n 0, 1) := by decide +kernel
theorem dX9_read_72 : decode cX9_read 72 = .ok (.aload_n 0, 1) := by decide +kernel
theorem dX9_read_73 : decode cX9_read 73 = .ok (.bipush 112, 2) := by decide +kernel
theorem dX9_read_75 : decode cX9_read 75 = .ok (.bipush 97, 2) := by decide +kernel
theorem dX9_read_77 : decode cX9_read 77 = .ok (.bipush 121, 2) := by decide +kernel
theorem dX9_read_79 : decode cX9_read 79 = .ok (.bipush 115, 2) := by decide +kernel
theorem dX9_read_81 : decode cX9_read 81 = .ok (.iconst 0, 1) := by decide +kernel
theorem dX9_read_82 : decode cX9_read 82 = .ok (.iconst 0, 1) := by decide +kernel
theorem dX9_read_83 : decode cX9_read 83 = .ok (.iconst 0, 1) := by decide +kernel
theorem dX9_read_84 : decode cX9_read 84 = .ok (.iconst 0, 1) := by decide +kernel
theorem dX9_read_85 : decode cX9_read 85 = .ok (.invokevirtual 203, 3) := by decide +kernel
theorem dX9_read_88 : decode cX9_read 88 = .ok (.invokevirtual 258, 3) := by decide +kernel
theorem dX9_read_91 : decode cX9_read 91 = .ok (.istore 4, 2) := by decide +kernel
theorem dX9_read_93 : decode cX9_read 93 = .ok (.aload_n 0, 1) := by decide +kernel
theorem dX9_read_94 : decode cX9_read 94 = .ok (.getfield 183, 3) := by decide +kernel
theorem dX9_read_97 : decode cX9_read 97 = .ok (.ifCond .eq 7, 3) := by decide +kernel
theorem dX9_read_100 : decode cX9_read 100 = .ok (.iconst 0, 1) := by decide +kernel
theorem dX9_read_101 : decode cX9_read 101 = .ok (.goto 24, 3) := by decide +kernel
theorem dX9_read_104 : decode cX9_read 104 = .ok (.aload_n 0, 1) := by decide +kernel
theorem dX9_read_105 : decode cX9_read 105 = .ok (.aload_n 0, 1) := by decide +kernel
theorem dX9_read_106 : decode cX9_read 106 = .ok (.bipush 116, 2) := by decide +kernel
theorem dX9_read_108 : decode cX9_read 108 = .ok (.bipush 105, 2) := by decide +kernel
theorem dX9_read_110 : decode cX9_read 110 = .ok (.bipush 114, 2) := by decide +kernel
theorem dX9_read_112 : decode cX9_read 112 = .ok (.bipush 101, 2) := by decide +kernel
theorem dX9_read_114 : decode cX9_read 114 = .ok (.bipush 115, 2) := by decide +kernel
theorem dX9_read_116 : decode cX9_read 116 = .ok (.iconst 0, 1) := by decide +kernel
theorem dX9_read_117 : decode cX9_read 117 = .ok (.iconst 0, 1) := by decide +kernel
theorem dX9_read_118 : decode cX9_read 118 = .ok (.iconst 0, 1) := by decide +kernel
theorem dX9_read_119 : decode cX9_read 119 = .ok (.invokevirtual 203, 3) := by decide +kernel
theorem dX9_read_122 : decode cX9_read 122 = .ok (.invokevirtual 258, 3) := by decide +kernel
theorem dX9_read_125 : decode cX9_read 125 = .ok (.istore 5, 2) := by decide +kernel
theorem dX9_read_127 : decode cX9_read 127 = .ok (.aload_n 0, 1) := by decide +kernel
theorem dX9_read_128 : decode cX9_read 128 = .ok (.getfield 183, 3) := by decide +kernel
theorem dX9_read_131 : decode cX9_read 131 = .ok (.ifCond .ne 14, 3) := by decide +kernel
theorem dX9_read_134 : decode cX9_read 134 = .ok (.aload_n 0, 1) := by decide +kernel
theorem dX9_read_135 : decode cX9_read 135 = .ok (.getfield 166, 3) := by decide +kernel
theorem dX9_read_138 : decode cX9_read 138 = .ok (.ifCond .eq 7, 3) := by decide +kernel
theorem dX9_read_141 : decode cX9_read 141 = .ok (.aload_n 0, 1) := by decide +kernel
theorem dX9_read_142 : decode cX9_read 142 = .ok (.invokevirtual 197, 3) := by decide +kernel
theorem dX9_read_145 : decode cX9_read 145 = .ok (.iload_n 2, 1) := by decide +kernel
theorem dX9_read_146 : decode cX9_read 146 = .ok (.ifCond .ne 7, 3) := by decide +kernel
theorem dX9_read_149 : decode cX9_read 149 = .ok (.iload_n 3, 1) := by decide +kernel
theorem dX9_read_150 : decode cX9_read 150 = .ok (.goto 15, 3) := by decide +kernel
theorem dX9_read_153 : decode cX9_read 153 = .ok (.iload_n 2, 1) := by decide +kernel
theorem dX9_read_154 : decode cX9_read 154 = .ok (.iconst 1, 1) := by decide +kernel
theorem dX9_read_155 : decode cX9_read 155 = .ok (.if_icmp .ne 8, 3) := by decide +kernel
theorem dX9_read_158 : decode cX9_read 158 = .ok (.iload 4, 2) := by decide +kernel
theorem dX9_read_160 : decode cX9_read 160 = .ok (.goto 5, 3) := by decide +kernel
theorem dX9_read_163 : decode cX9_read 163 = .ok (.iload 5, 2) := by decide +kernel
theorem dX9_read_165 : decode cX9_read 165 = .ok (.ireturn, 1) := by decide +kernel
theorem dX9_text_0 : decode cX9_text 0 = .ok (.aload_n 0, 1) := by decide +kernel
theorem dX9_text_1 : decode cX9_text 1 = .ok (.getfield 94, 3) := by decide +kernel
theorem dX9_text_4 : decode cX9_text 4 = .ok (.bipush 6, 2) := by decide +kernel
theorem dX9_text_6 : decode cX9_text 6 = .ok (.if_icmp .ne 6, 3) := by decide +kernel
theorem dX9_text_9 : decode cX9_text 9 = .ok (.bipush (-4), 2) := by decide +kernel
theorem dX9_text_11 : decode cX9_text 11 = .ok (.ireturn, 1) := by decide +kernel
theorem dX9_text_12 : decode cX9_text 12 = .ok (.iconst 0, 1) := by decide +kernel
theorem dX9_text_13 : decode cX9_text 13 = .ok (.istore_n 1, 1) := by decide +kernel
theorem dX9_text_14 : decode cX9_text 14 = .ok (.iload_n 1, 1) := by decide +kernel
theorem dX9_text_15 : decode cX9_text 15 = .ok (.aload_n 0, 1) := by decide +kernel
theorem dX9_text_16 : decode cX9_text 16 = .ok (.getfield 148, 3) := by decide +kernel
theorem dX9_text_19 : decode cX9_text 19 = .ok (.if_icmp .ge 30, 3) := by decide +kernel
theorem dX9_text_22 : decode cX9_text 22 = .ok (.aload_n 0, 1) := by decide +kernel
theorem dX9_text_23 : decode cX9_text 23 = .ok (.getfield 13, 3) := by decide +kernel
theorem dX9_text_26 : decode cX9_text 26 = .ok (.sipush 160, 3) := by decide +kernel
theorem dX9_text_29 : decode cX9_text 29 = .ok (.aload_n 0, 1) := by decide +kernel
theorem dX9_text_30 : decode cX9_text 30 = .ok (.getfield 94, 3) := by decide +kernel
theorem dX9_text_33 : decode cX9_text 33 = .ok (.imul, 1) := by decide +kernel
theorem dX9_text_34 : decode cX9_text 34 = .ok (.iload_n 1, 1) := by decide +kernel
theorem dX9_text_35 : decode cX9_text 35 = .ok (.iadd, 1) := by decide +kernel
theorem dX9_text_36 : decode cX9_text 36 = .ok (.aload_n 0, 1) := by decide +kernel
theorem dX9_text_37 : decode cX9_text 37 = .ok (.getfield 20, 3) := by decide +kernel
theorem dX9_text_40 : decode cX9_text 40 = .ok (.iload_n 1, 1) := by decide +kernel
theorem dX9_text_41 : decode cX9_text 41 = .ok (.iaload, 1) := by decide +kernel
theorem dX9_text_42 : decode cX9_text 42 = .ok (.iastore, 1) := by decide +kernel
theorem dX9_text_43 : decode cX9_text 43 = .ok (.iinc 1 1, 3) := by decide +kernel
theorem dX9_text_46 : decode cX9_text 46 = .ok (.goto (-32), 3) := by decide +kernel
theorem dX9_text_49 : decode cX9_text 49 = .ok (.aload_n 0, 1) := by decide +kernel
theorem dX9_text_50 : decode cX9_text 50 = .ok (.getfield 17, 3) := by decide +kernel
theorem dX9_text_53 : decode cX9_text 53 = .ok (.aload_n 0, 1) := by decide +kernel
theorem dX9_text_54 : decode cX9_text 54 = .ok (.getfield 94, 3) := by decide +kernel
theorem dX9_text_57 : decode cX9_text 57 = .ok (.aload_n 0, 1) := by decide +kernel
theorem dX9_text_58 : decode cX9_text 58 = .ok (.getfield 148, 3) := by decide +kernel
theorem dX9_text_61 : decode cX9_text 61 = .ok (.iastore, 1) := by decide +kernel
theorem dX9_text_62 : decode cX9_text 62 = .ok (.aload_n 0, 1) := by decide +kernel
theorem dX9_text_63 : decode cX9_text 63 = .ok (.iconst 0, 1) := by decide +kernel
theorem dX9_text_64 : decode cX9_text 64 = .ok (.putfield 148, 3) := by decide +kernel
theorem dX9_text_67 : decode cX9_text 67 = .ok (.aload_n 0, 1) := by decide +kernel
theorem dX9_text_68 : decode cX9_text 68 = .ok (.aload_n 0, 1) := by decide +kernel
theorem dX9_text_69 : decode cX9_text 69 = .ok (.getfield 94, 3) := by decide +kernel
theorem dX9_text_72 : decode cX9_text 72 = .ok (.iconst 0, 1) := by decide +kernel
theorem dX9_text_73 : decode cX9_text 73 = .ok (.invokevirtual 262, 3) := by decide +kernel
theorem dX9_text_76 : decode cX9_text 76 = .ok (.istore_n 1, 1) := by decide +kernel
theorem dX9_text_77 : decode cX9_text 77 = .ok (.aload_n 0, 1) := by decide +kernel
theorem dX9_text_78 : decode cX9_text 78 = .ok (.getfield 183, 3) := by decide +kernel
theorem dX9_text_81 : decode cX9_text 81 = .ok (.ifCond .eq 11, 3) := by decide +kernel
theorem dX9_text_84 : decode cX9_text 84 = .ok (.bipush (-100), 2) := by decide +kernel
theorem dX9_text_86 : decode cX9_text 86 = .ok (.aload_n 0, 1) := by decide +kernel
theorem dX9_text_87 : decode cX9_text 87 = .ok (.getfield 187, 3) := by decide +kernel
theorem dX9_text_90 : decode cX9_text 90 = .ok (.isub, 1) := by decide +kernel
theorem dX9_text_91 : decode cX9_text 91 = .ok (.ireturn, 1) := by decide +kernel
theorem dX9_text_92 : decode cX9_text 92 = .ok (.aload_n 0, 1) := by decide +kernel
theorem dX9_text_93 : decode cX9_text 93 = .ok (.dup, 1) := by decide +kernel
theorem dX9_text_94 : decode cX9_text 94 = .ok (.getfield 94, 3) := by decide +kernel
theorem dX9_text_97 : decode cX9_text 97 = .ok (.iconst 1, 1) := by decide +kernel
theorem dX9_text_98 : decode cX9_text 98 = .ok (.iadd, 1) := by decide +kernel
theorem dX9_text_99 : decode cX9_text 99 = .ok (.putfield 94, 3) := by decide +kernel
theorem dX9_text_102 : decode cX9_text 102 = .ok (.aload_n 0, 1) := by decide +kernel
theorem dX9_text_103 : decode cX9_text 103 = .ok (.getfield 94, 3) := by decide +kernel
theorem dX9_text_106 : decode cX9_text 106 = .ok (.iconst 1, 1) := by decide +kernel
theorem dX9_text_107 : decode cX9_text 107 = .ok (.isub, 1) := by decide +kernel
theorem dX9_text_108 : decode cX9_text 108 = .ok (.ireturn, 1) := by decide +kernel
theorem dX9_force_0 : decode cX9_force 0 = .ok (.iload_n 1, 1) := by decide +kernel
theorem dX9_force_1 : decode cX9_force 1 = .ok (.i2l, 1) := by decide +kernel
theorem dX9_force_2 : decode cX9_force 2 = .ok (.lconst 0, 1) := by decide +kernel
theorem dX9_force_3 : decode cX9_force 3 = .ok (.aload_n 0, 1) := by decide +kernel
theorem dX9_force_4 : decode cX9_force 4 = .ok (.getfield 94, 3) := by decide +kernel
theorem dX9_force_7 : decode cX9_force 7 = .ok (.iconst 1, 1) := by decide +kernel
theorem dX9_force_8 : decode cX9_force 8 = .ok (.isub, 1) := by decide +kernel
theorem dX9_force_9 : decode cX9_force 9 = .ok (.i2l, 1) := by decide +kernel
theorem dX9_force_10 : decode cX9_force 10 = .ok (.invokestatic 100, 3) := by decide +kernel
theorem dX9_force_13 : decode cX9_force 13 = .ok (.ifCond .ne 6, 3) := by decide +kernel
theorem dX9_force_16 : decode cX9_force 16 = .ok (.bipush (-2), 2) := by decide +kernel
theorem dX9_force_18 : decode cX9_force 18 = .ok (.ireturn, 1) := by decide +kernel
theorem dX9_force_19 : decode cX9_force 19 = .ok (.aload_n 0, 1) := by decide +kernel
theorem dX9_force_20 : decode cX9_force 20 = .ok (.getfield 265, 3) := by decide +kernel
theorem dX9_force_23 : decode cX9_force 23 = .ok (.istore_n 2, 1) := by decide +kernel
theorem dX9_force_24 : decode cX9_force 24 = .ok (.aload_n 0, 1) := by decide +kernel
theorem dX9_force_25 : decode cX9_force 25 = .ok (.iload_n 1, 1) := by decide +kernel
theorem dX9_force_26 : decode cX9_force 26 = .ok (.putfield 265, 3) := by decide +kernel
theorem dX9_force_29 : decode cX9_force 29 = .ok (.iload_n 2, 1) := by decide +kernel
theorem dX9_force_30 : decode cX9_force 30 = .ok (.ireturn, 1) := by decide +kernel
theorem dX9_says_0 : decode cX9_says 0 = .ok (.aload_n 0, 1) := by decide +kernel
theorem dX9_says_1 : decode cX9_says 1 = .ok (.aload_n 0, 1) := by decide +kernel
theorem dX9_says_2 : decode cX9_says 2 = .ok (.getfield 35, 3) := by decide +kernel
theorem dX9_says_5 : decode cX9_says 5 = .ok (.iload_n 2, 1) := by decide +kernel
theorem dX9_says_6 : decode cX9_says 6 = .ok (.iaload, 1) := by decide +kernel
theorem dX9_says_7 : decode cX9_says 7 = .ok (.putfield 207, 3) := by decide +kernel
theorem dX9_says_10 : decode cX9_says 10 = .ok (.aload_n 0, 1) := by decide +kernel
theorem dX9_says_11 : decode cX9_says 11 = .ok (.aload_n 0, 1) := by decide +kernel
theorem dX9_says_12 : decode cX9_says 12 = .ok (.iload_n 3, 1) := by decide +kernel
theorem dX9_says_13 : decode cX9_says 13 = .ok (.aload_n 0, 1) := by decide +kernel
theorem dX9_says_14 : decode cX9_says 14 = .ok (.getfield 35, 3) := by decide +kernel
theorem dX9_says_17 : decode cX9_says 17 = .ok (.iload_n 2, 1) := by decide +kernel
theorem dX9_says_18 : decode cX9_says 18 = .ok (.iaload, 1) := by decide +kernel
theorem dX9_says_19 : decode cX9_says 19 = .ok (.invokevirtual 139, 3) := by decide +kernel
theorem dX9_says_22 : decode cX9_says 22 = .ok (.putfield 210, 3) := by decide +kernel
theorem dX9_says_25 : decode cX9_says 25 = .ok (.aload_n 0, 1) := by decide +kernel
theorem dX9_says_26 : decode cX9_says 26 = .ok (.aload_n 0, 1) := by decide +kernel
theorem dX9_says_27 : decode cX9_says 27 = .ok (.getfield 41, 3) := by decide +kernel
theorem dX9_says_30 : decode cX9_says 30 = .ok (.iload_n 2, 1) := by decide +kernel
theorem dX9_says_31 : decode cX9_says 31 = .ok (.iaload, 1) := by decide +kernel
theorem dX9_says_32 : decode cX9_says 32 = .ok (.invokestatic 268, 3) := by decide +kernel
theorem dX9_says_35 : decode cX9_says 35 = .ok (.putfield 213, 3) := by decide +kernel
theorem dX9_says_38 : decode cX9_says 38 = .ok (.aload_n 0, 1) := by decide +kernel
theorem dX9_says_39 : decode cX9_says 39 = .ok (.iload 4, 2) := by decide +kernel
theorem dX9_says_41 : decode cX9_says 41 = .ok (.putfield 216, 3) := by decide +kernel
theorem dX9_says_44 : decode cX9_says 44 = .ok (.aload_n 0, 1) := by decide +kernel
theorem dX9_says_45 : decode cX9_says 45 = .ok (.aload_n 0, 1) := by decide +kernel
theorem dX9_says_46 : decode cX9_says 46 = .ok (.getfield 132, 3) := by decide +kernel
theorem dX9_says_49 : decode cX9_says 49 = .ok (.putfield 219, 3) := by decide +kernel
theorem dX9_says_52 : decode cX9_says 52 = .ok (.aload_n 0, 1) := by decide +kernel
theorem dX9_says_53 : decode cX9_says 53 = .ok (.aload_n 0, 1) := by decide +kernel
theorem dX9_says_54 : decode cX9_says 54 = .ok (.getfield 38, 3) := by decide +kernel
theorem dX9_says_57 : decode cX9_says 57 = .ok (.iload_n 2, 1) := by decide +kernel
theorem dX9_says_58 : decode cX9_says 58 = .ok (.iaload, 1) := by decide +kernel
theorem dX9_says_59 : decode cX9_says 59 = .ok (.invokestatic 268, 3) := by decide +kernel
theorem dX9_says_62 : decode cX9_says 62 = .ok (.putfield 222, 3) := by decide +kernel
theorem dX9_says_65 : decode cX9_says 65 = .ok (.aload_n 0, 1) := by decide +kernel
theorem dX9_says_66 : decode cX9_says 66 = .ok (.aload_n 0, 1) := by decide +kernel
theorem dX9_says_67 : decode cX9_says 67 = .ok (.getfield 265, 3) := by decide +kernel
theorem dX9_says_70 : decode cX9_says 70 = .ok (.iload_n 1, 1) := by decide +kernel
theorem dX9_says_71 : decode cX9_says 71 = .ok (.invokevirtual 262, 3) := by decide +kernel
theorem dX9_says_74 : decode cX9_says 74 = .ok (.ireturn, 1) := by decide +kernel
theorem dX9_sitting_0 : decode cX9_sitting 0 = .ok (.iconst 0, 1) := by decide +kernel
theorem dX9_sitting_1 : decode cX9_sitting 1 = .ok (.istore_n 2, 1) := by decide +kernel
theorem dX9_sitting_2 : decode cX9_sitting 2 = .ok (.iconst 0, 1) := by decide +kernel
theorem dX9_sitting_3 : decode cX9_sitting 3 = .ok (.istore_n 3, 1) := by decide +kernel
theorem dX9_sitting_4 : decode cX9_sitting 4 = .ok (.iload_n 3, 1) := by decide +kernel
theorem dX9_sitting_5 : decode cX9_sitting 5 = .ok (.aload_n 0, 1) := by decide +kernel
theorem dX9_sitting_6 : decode cX9_sitting 6 = .ok (.getfield 104, 3) := by decide +kernel
theorem dX9_sitting_9 : decode cX9_sitting 9 = .ok (.if_icmp .ge 25, 3) := by decide +kernel
theorem dX9_sitting_12 : decode cX9_sitting 12 = .ok (.aload_n 0, 1) := by decide +kernel
theorem dX9_sitting_13 : decode cX9_sitting 13 = .ok (.getfield 44, 3) := by decide +kernel
theorem dX9_sitting_16 : decode cX9_sitting 16 = .ok (.iload_n 3, 1) := by decide +kernel
theorem dX9_sitting_17 : decode cX9_sitting 17 = .ok (.iaload, 1) := by decide +kernel
theorem dX9_sitting_18 : decode cX9_sitting 18 = .ok (.iload_n 1, 1) := by decide +kernel
theorem dX9_sitting_19 : decode cX9_sitting 19 = .ok (.if_icmp .ne 9, 3) := by decide +kernel
theorem dX9_sitting_22 : decode cX9_sitting 22 = .ok (.iload_n 2, 1) := by decide +kernel
theorem dX9_sitting_23 : decode cX9_sitting 23 = .ok (.iconst 1, 1) := by decide +kernel
theorem dX9_sitting_24 : decode cX9_sitting 24 = .ok (.iload_n 3, 1) := by decide +kernel
theorem dX9_sitting_25 : decode cX9_sitting 25 = .ok (.ishl, 1) := by decide +kernel
theorem dX9_sitting_26 : decode cX9_sitting 26 = .ok (.ior, 1) := by decide +kernel
theorem dX9_sitting_27 : decode cX9_sitting 27 = .ok (.istore_n 2, 1) := by decide +kernel
theorem dX9_sitting_28 : decode cX9_sitting 28 = .ok (.iinc 3 1, 3) := by decide +kernel
theorem dX9_sitting_31 : decode cX9_sitting 31 = .ok (.goto (-27), 3) := by decide +kernel
theorem dX9_sitting_34 : decode cX9_sitting 34 = .ok (.iload_n 2, 1) := by decide +kernel
theorem dX9_sitting_35 : decode cX9_sitting 35 = .ok (.ireturn, 1) := by decide +kernel
theorem dX9_knowers_0 : decode cX9_knowers 0 = .ok (.iconst 0, 1) := by decide +kernel
theorem dX9_knowers_1 : decode cX9_knowers 1 = .ok (.istore_n 2, 1) := by decide +kernel
theorem dX9_knowers_2 : decode cX9_knowers 2 = .ok (.iconst 0, 1) := by decide +kernel
theorem dX9_knowers_3 : decode cX9_knowers 3 = .ok (.istore_n 3, 1) := by decide +kernel
theorem dX9_knowers_4 : decode cX9_knowers 4 = .ok (.iload_n 3, 1) := by decide +kernel
theorem dX9_knowers_5 : decode cX9_knowers 5 = .ok (.aload_n 0, 1) := by decide +kernel
theorem dX9_knowers_6 : decode cX9_knowers 6 = .ok (.getfield 104, 3) := by decide +kernel
theorem dX9_knowers_9 : decode cX9_knowers 9 = .ok (.if_icmp .ge 23, 3) := by decide +kernel
theorem dX9_knowers_12 : decode cX9_knowers 12 = .ok (.iload_n 2, 1) := by decide +kernel
theorem dX9_knowers_13 : decode cX9_knowers 13 = .ok (.aload_n 0, 1) := by decide +kernel
theorem dX9_knowers_14 : decode cX9_knowers 14 = .ok (.iload_n 3, 1) := by decide +kernel
theorem dX9_knowers_15 : decode cX9_knowers 15 = .ok (.invokevirtual 145, 3) := by decide +kernel
theorem dX9_knowers_18 : decode cX9_knowers 18 = .ok (.iload_n 1, 1) := by decide +kernel
theorem dX9_knowers_19 : decode cX9_knowers 19 = .ok (.ishr, 1) := by decide +kernel
theorem dX9_knowers_20 : decode cX9_knowers 20 = .ok (.iconst 1, 1) := by decide +kernel
theorem dX9_knowers_21 : decode cX9_knowers 21 = .ok (.iand, 1) := by decide +kernel
theorem dX9_knowers_22 : decode cX9_knowers 22 = .ok (.iload_n 3, 1) := by decide +kernel
theorem dX9_knowers_23 : decode cX9_knowers 23 = .ok (.ishl, 1) := by decide +kernel
theorem dX9_knowers_24 : decode cX9_knowers 24 = .ok (.ior, 1) := by decide +kernel
theorem dX9_knowers_25 : decode cX9_knowers 25 = .ok (.istore_n 2, 1) := by decide +kernel
theorem dX9_knowers_26 : decode cX9_knowers 26 = .ok (.iinc 3 1, 3) := by decide +kernel
theorem dX9_knowers_29 : decode cX9_knowers 29 = .ok (.goto (-25), 3) := by decide +kernel
theorem dX9_knowers_32 : decode cX9_knowers 32 = .ok (.iload_n 2, 1) := by decide +kernel
theorem dX9_knowers_33 : decode cX9_knowers 33 = .ok (.ireturn, 1) := by decide +kernel
theorem dX9_mayTell_0 : decode cX9_mayTell 0 = .ok (.iload_n 3, 1) := by decide +kernel
theorem dX9_mayTell_1 : decode cX9_mayTell 1 = .ok (.iconst 1, 1) := by decide +kernel
theorem dX9_mayTell_2 : decode cX9_mayTell 2 = .ok (.iload_n 1, 1) := by decide +kernel
theorem dX9_mayTell_3 : decode cX9_mayTell 3 = .ok (.ishl, 1) := by decide +kernel
theorem dX9_mayTell_4 : decode cX9_mayTell 4 = .ok (.iconst (-1), 1) := by decide +kernel
theorem dX9_mayTell_5 : decode cX9_mayTell 5 = .ok (.ixor, 1) := by decide +kernel
theorem dX9_mayTell_6 : decode cX9_mayTell 6 = .ok (.iand, 1) := by decide +kernel
theorem dX9_mayTell_7 : decode cX9_mayTell 7 = .ok (.istore 4, 2) := by decide +kernel
theorem dX9_mayTell_9 : decode cX9_mayTell 9 = .ok (.aload_n 0, 1) := by decide +kernel
theorem dX9_mayTell_10 : decode cX9_mayTell 10 = .ok (.getfield 38, 3) := by decide +kernel
theorem dX9_mayTell_13 : decode cX9_mayTell 13 = .ok (.iload_n 1, 1) := by decide +kernel
theorem dX9_mayTell_14 : decode cX9_mayTell 14 = .ok (.iaload, 1) := by decide +kernel
theorem dX9_mayTell_15 : decode cX9_mayTell 15 = .ok (.iload_n 2, 1) := by decide +kernel
theorem dX9_mayTell_16 : decode cX9_mayTell 16 = .ok (.ishr, 1) := by decide +kernel
theorem dX9_mayTell_17 : decode cX9_mayTell 17 = .ok (.iconst 1, 1) := by decide +kernel
theorem dX9_mayTell_18 : decode cX9_mayTell 18 = .ok (.iand, 1) := by decide +kernel
theorem dX9_mayTell_19 : decode cX9_mayTell 19 = .ok (.iconst 1, 1) := by decide +kernel
theorem dX9_mayTell_20 : decode cX9_mayTell 20 = .ok (.if_icmp .ne 37, 3) := by decide +kernel
theorem dX9_mayTell_23 : decode cX9_mayTell 23 = .ok (.iload 4, 2) := by decide +kernel
theorem dX9_mayTell_25 : decode cX9_mayTell 25 = .ok (.ifCond .eq 32, 3) := by decide +kernel
theorem dX9_mayTell_28 : decode cX9_mayTell 28 = .ok (.aload_n 0, 1) := by decide +kernel
theorem dX9_mayTell_29 : decode cX9_mayTell 29 = .ok (.iload_n 2, 1) := by decide +kernel
theorem dX9_mayTell_30 : decode cX9_mayTell 30 = .ok (.invokevirtual 271, 3) := by decide +kernel
theorem dX9_mayTell_33 : decode cX9_mayTell 33 = .ok (.iload 4, 2) := by decide +kernel
theorem dX9_mayTell_35 : decode cX9_mayTell 35 = .ok (.iand, 1) := by decide +kernel
theorem dX9_mayTell_36 : decode cX9_mayTell 36 = .ok (.ifCond .ne 21, 3) := by decide +kernel
theorem dX9_mayTell_39 : decode cX9_mayTell 39 = .ok (.aload_n 0, 1) := by decide +kernel
theorem dX9_mayTell_40 : decode cX9_mayTell 40 = .ok (.iconst 2, 1) := by decide +kernel
theorem dX9_mayTell_41 : decode cX9_mayTell 41 = .ok (.iload_n 1, 1) := by decide +kernel
theorem dX9_mayTell_42 : decode cX9_mayTell 42 = .ok (.iload_n 2, 1) := by decide +kernel
theorem dX9_mayTell_43 : decode cX9_mayTell 43 = .ok (.iload_n 3, 1) := by decide +kernel
theorem dX9_mayTell_44 : decode cX9_mayTell 44 = .ok (.invokestatic 268, 3) := by decide +kernel
theorem dX9_mayTell_47 : decode cX9_mayTell 47 = .ok (.invokevirtual 274, 3) := by decide +kernel
theorem dX9_mayTell_50 : decode cX9_mayTell 50 = .ok (.ifCond .ne 7, 3) := by decide +kernel
theorem dX9_mayTell_53 : decode cX9_mayTell 53 = .ok (.iconst 1, 1) := by decide +kernel
theorem dX9_mayTell_54 : decode cX9_mayTell 54 = .ok (.goto 4, 3) := by decide +kernel
theorem dX9_mayTell_57 : decode cX9_mayTell 57 = .ok (.iconst 0, 1) := by decide +kernel
theorem dX9_mayTell_58 : decode cX9_mayTell 58 = .ok (.ireturn, 1) := by decide +kernel
theorem dX9_teller_0 : decode cX9_teller 0 = .ok (.aload_n 0, 1) := by decide +kernel
theorem dX9_teller_1 : decode cX9_teller 1 = .ok (.iload_n 1, 1) := by decide +kernel
theorem dX9_teller_2 : decode cX9_teller 2 = .ok (.invokevirtual 278, 3) := by decide +kernel
theorem dX9_teller_5 : decode cX9_teller 5 = .ok (.istore_n 3, 1) := by decide +kernel
theorem dX9_teller_6 : decode cX9_teller 6 = .ok (.iconst 0, 1) := by decide +kernel
theorem dX9_teller_7 : decode cX9_teller 7 = .ok (.istore 4, 2) := by decide +kernel
theorem dX9_teller_9 : decode cX9_teller 9 = .ok (.iload 4, 2) := by decide +kernel
theorem dX9_teller_11 : decode cX9_teller 11 = .ok (.aload_n 0, 1) := by decide +kernel
theorem dX9_teller_12 : decode cX9_teller 12 = .ok (.getfield 104, 3) := by decide +kernel
theorem dX9_teller_15 : decode cX9_teller 15 = .ok (.if_icmp .ge 33, 3) := by decide +kernel
theorem dX9_teller_18 : decode cX9_teller 18 = .ok (.iload_n 3, 1) := by decide +kernel
theorem dX9_teller_19 : decode cX9_teller 19 = .ok (.iload 4, 2) := by decide +kernel
theorem dX9_teller_21 : decode cX9_teller 21 = .ok (.ishr, 1) := by decide +kernel
theorem dX9_teller_22 : decode cX9_teller 22 = .ok (.iconst 1, 1) := by decide +kernel
theorem dX9_teller_23 : decode cX9_teller 23 = .ok (.iand, 1) := by decide +kernel
theorem dX9_teller_24 : decode cX9_teller 24 = .ok (.iconst 1, 1) := by decide +kernel
theorem dX9_teller_25 : decode cX9_teller 25 = .ok (.if_icmp .ne 17, 3) := by decide +kernel
theorem dX9_teller_28 : decode cX9_teller 28 = .ok (.aload_n 0, 1) := by decide +kernel
theorem dX9_teller_29 : decode cX9_teller 29 = .ok (.iload 4, 2) := by decide +kernel
theorem dX9_teller_31 : decode cX9_teller 31 = .ok (.iload_n 2, 1) := by decide +kernel
theorem dX9_teller_32 : decode cX9_teller 32 = .ok (.iload_n 3, 1) := by decide +kernel
theorem dX9_teller_33 : decode cX9_teller 33 = .ok (.invokevirtual 281, 3) := by decide +kernel
theorem dX9_teller_36 : decode cX9_teller 36 = .ok (.ifCond .eq 6, 3) := by decide +kernel
theorem dX9_teller_39 : decode cX9_teller 39 = .ok (.iload 4, 2) := by decide +kernel
theorem dX9_teller_41 : decode cX9_teller 41 = .ok (.ireturn, 1) := by decide +kernel
theorem dX9_teller_42 : decode cX9_teller 42 = .ok (.iinc 4 1, 3) := by decide +kernel
theorem dX9_teller_45 : decode cX9_teller 45 = .ok (.goto (-36), 3) := by decide +kernel
theorem dX9_teller_48 : decode cX9_teller 48 = .ok (.iconst (-1), 1) := by decide +kernel
theorem dX9_teller_49 : decode cX9_teller 49 = .ok (.ireturn, 1) := by decide +kernel
theorem dX9_allMay_0 : decode cX9_allMay 0 = .ok (.iconst 0, 1) := by decide +kernel
theorem dX9_allMay_1 : decode cX9_allMay 1 = .ok (.istore_n 2, 1) := by decide +kernel
theorem dX9_allMay_2 : decode cX9_allMay 2 = .ok (.iconst 0, 1) := by decide +kernel
theorem dX9_allMay_3 : decode cX9_allMay 3 = .ok (.istore_n 3, 1) := by decide +kernel
theorem dX9_allMay_4 : decode cX9_allMay 4 = .ok (.iload_n 3, 1) := by decide +kernel
theorem dX9_allMay_5 : decode cX9_allMay 5 = .ok (.aload_n 0, 1) := by decide +kernel
theorem dX9_allMay_6 : decode cX9_allMay 6 = .ok (.getfield 97, 3) := by decide +kernel
theorem dX9_allMay_9 : decode cX9_allMay 9 = .ok (.if_icmp .ge 25, 3) := by decide +kernel
theorem dX9_allMay_12 : decode cX9_allMay 12 = .ok (.aload_n 0, 1) := by decide +kernel
theorem dX9_allMay_13 : decode cX9_allMay 13 = .ok (.iload_n 1, 1) := by decide +kernel
theorem dX9_allMay_14 : decode cX9_allMay 14 = .ok (.iload_n 3, 1) := by decide +kernel
theorem dX9_allMay_15 : decode cX9_allMay 15 = .ok (.invokevirtual 285, 3) := by decide +kernel
theorem dX9_allMay_18 : decode cX9_allMay 18 = .ok (.iconst (-1), 1) := by decide +kernel
theorem dX9_allMay_19 : decode cX9_allMay 19 = .ok (.if_icmp .eq 9, 3) := by decide +kernel
theorem dX9_allMay_22 : decode cX9_allMay 22 = .ok (.iload_n 2, 1) := by decide +kernel
theorem dX9_allMay_23 : decode cX9_allMay 23 = .ok (.iconst 1, 1) := by decide +kernel
theorem dX9_allMay_24 : decode cX9_allMay 24 = .ok (.iload_n 3, 1) := by decide +kernel
theorem dX9_allMay_25 : decode cX9_allMay 25 = .ok (.ishl, 1) := by decide +kernel
theorem dX9_allMay_26 : decode cX9_allMay 26 = .ok (.ior, 1) := by decide +kernel
theorem dX9_allMay_27 : decode cX9_allMay 27 = .ok (.istore_n 2, 1) := by decide +kernel
theorem dX9_allMay_28 : decode cX9_allMay 28 = .ok (.iinc 3 1, 3) := by decide +kernel
theorem dX9_allMay_31 : decode cX9_allMay 31 = .ok (.goto (-27), 3) := by decide +kernel
theorem dX9_allMay_34 : decode cX9_allMay 34 = .ok (.iload_n 2, 1) := by decide +kernel
theorem dX9_allMay_35 : decode cX9_allMay 35 = .ok (.ireturn, 1) := by decide +kernel
theorem dX9_may_0 : decode cX9_may 0 = .ok (.iload_n 1, 1) := by decide +kernel
theorem dX9_may_1 : decode cX9_may 1 = .ok (.invokestatic 288, 3) := by decide +kernel
theorem dX9_may_4 : decode cX9_may 4 = .ok (.ifCond .eq 11, 3) := by decide +kernel
theorem dX9_may_7 : decode cX9_may 7 = .ok (.aload_n 0, 1) := by decide +kernel
theorem dX9_may_8 : decode cX9_may 8 = .ok (.iload_n 1, 1) := by decide +kernel
theorem dX9_may_9 : decode cX9_may 9 = .ok (.invokevirtual 291, 3) := by decide +kernel
theorem dX9_may_12 : decode cX9_may 12 = .ok (.goto 5, 3) := by decide +kernel
theorem dX9_may_15 : decode cX9_may 15 = .ok (.bipush (-2), 2) := by decide +kernel
theorem dX9_may_17 : decode cX9_may 17 = .ok (.ireturn, 1) := by decide +kernel
theorem dX9_by_0 : decode cX9_by 0 = .ok (.iload_n 1, 1) := by decide +kernel
theorem dX9_by_1 : decode cX9_by 1 = .ok (.invokestatic 288, 3) := by decide +kernel
theorem dX9_by_4 : decode cX9_by 4 = .ok (.ifCond .eq 20, 3) := by decide +kernel
theorem dX9_by_7 : decode cX9_by 7 = .ok (.aload_n 0, 1) := by decide +kernel
theorem dX9_by_8 : decode cX9_by 8 = .ok (.iload_n 2, 1) := by decide +kernel
theorem dX9_by_9 : decode cX9_by 9 = .ok (.invokevirtual 113, 3) := by decide +kernel
theorem dX9_by_12 : decode cX9_by 12 = .ok (.ifCond .eq 12, 3) := by decide +kernel
theorem dX9_by_15 : decode cX9_by 15 = .ok (.aload_n 0, 1) := by decide +kernel
theorem dX9_by_16 : decode cX9_by 16 = .ok (.iload_n 1, 1) := by decide +kernel
theorem dX9_by_17 : decode cX9_by 17 = .ok (.iload_n 2, 1) := by decide +kernel
theorem dX9_by_18 : decode cX9_by 18 = .ok (.invokevirtual 285, 3) := by decide +kernel
theorem dX9_by_21 : decode cX9_by 21 = .ok (.goto 5, 3) := by decide +kernel
theorem dX9_by_24 : decode cX9_by 24 = .ok (.bipush (-2), 2) := by decide +kernel
theorem dX9_by_26 : decode cX9_by 26 = .ok (.ireturn, 1) := by decide +kernel
theorem dX9_worthBy_0 : decode cX9_worthBy 0 = .ok (.aload_n 0, 1) := by decide +kernel
theorem dX9_worthBy_1 : decode cX9_worthBy 1 = .ok (.iload_n 1, 1) := by decide +kernel
theorem dX9_worthBy_2 : decode cX9_worthBy 2 = .ok (.invokevirtual 278, 3) := by decide +kernel
theorem dX9_worthBy_5 : decode cX9_worthBy 5 = .ok (.istore 4, 2) := by decide +kernel
theorem dX9_worthBy_7 : decode cX9_worthBy 7 = .ok (.aload_n 0, 1) := by decide +kernel
theorem dX9_worthBy_8 : decode cX9_worthBy 8 = .ok (.iconst 1, 1) := by decide +kernel
theorem dX9_worthBy_9 : decode cX9_worthBy 9 = .ok (.iload_n 3, 1) := by decide +kernel
theorem dX9_worthBy_10 : decode cX9_worthBy 10 = .ok (.iload_n 2, 1) := by decide +kernel
theorem dX9_worthBy_11 : decode cX9_worthBy 11 = .ok (.iload 4, 2) := by decide +kernel
theorem dX9_worthBy_13 : decode cX9_worthBy 13 = .ok (.invokestatic 268, 3) := by decide +kernel
theorem dX9_worthBy_16 : decode cX9_worthBy 16 = .ok (.invokevirtual 274, 3) := by decide +kernel
theorem dX9_worthBy_19 : decode cX9_worthBy 19 = .ok (.bipush (-99), 2) := by decide +kernel
theorem dX9_worthBy_21 : decode cX9_worthBy 21 = .ok (.bipush 99, 2) := by decide +kernel
theorem dX9_worthBy_23 : decode cX9_worthBy 23 = .ok (.invokestatic 294, 3) := by decide +kernel
theorem dX9_worthBy_26 : decode cX9_worthBy 26 = .ok (.istore 5, 2) := by decide +kernel
theorem dX9_worthBy_28 : decode cX9_worthBy 28 = .ok (.iconst 0, 1) := by decide +kernel
theorem dX9_worthBy_29 : decode cX9_worthBy 29 = .ok (.istore 6, 2) := by decide +kernel
theorem dX9_worthBy_31 : decode cX9_worthBy 31 = .ok (.iload 6, 2) := by decide +kernel
theorem dX9_worthBy_33 : decode cX9_worthBy 33 = .ok (.aload_n 0, 1) := by decide +kernel
theorem dX9_worthBy_34 : decode cX9_worthBy 34 = .ok (.getfield 104, 3) := by decide +kernel
theorem dX9_worthBy_37 : decode cX9_worthBy 37 = .ok (.if_icmp .ge 50, 3) := by decide +kernel
theorem dX9_worthBy_40 : decode cX9_worthBy 40 = .ok (.iload 4, 2) := by decide +kernel
theorem dX9_worthBy_42 : decode cX9_worthBy 42 = .ok (.iload 6, 2) := by decide +kernel
theorem dX9_worthBy_44 : decode cX9_worthBy 44 = .ok (.ishr, 1) := by decide +kernel
theorem dX9_worthBy_45 : decode cX9_worthBy 45 = .ok (.iconst 1, 1) := by decide +kernel
theorem dX9_worthBy_46 : decode cX9_worthBy 46 = .ok (.iand, 1) := by decide +kernel
theorem dX9_worthBy_47 : decode cX9_worthBy 47 = .ok (.iconst 1, 1) := by decide +kernel
theorem dX9_worthBy_48 : decode cX9_worthBy 48 = .ok (.if_icmp .ne 33, 3) := by decide +kernel
theorem dX9_worthBy_51 : decode cX9_worthBy 51 = .ok (.iload 6, 2) := by decide +kernel
theorem dX9_worthBy_53 : decode cX9_worthBy 53 = .ok (.iload_n 3, 1) := by decide +kernel
theorem dX9_worthBy_54 : decode cX9_worthBy 54 = .ok (.if_icmp .eq 27, 3) := by decide +kernel
theorem dX9_worthBy_57 : decode cX9_worthBy 57 = .ok (.iload 5, 2) := by decide +kernel
theorem dX9_worthBy_59 : decode cX9_worthBy 59 = .ok (.aload_n 0, 1) := by decide +kernel
theorem dX9_worthBy_60 : decode cX9_worthBy 60 = .ok (.iconst 0, 1) := by decide +kernel
theorem dX9_worthBy_61 : decode cX9_worthBy 61 = .ok (.iload 6, 2) := by decide +kernel
theorem dX9_worthBy_63 : decode cX9_worthBy 63 = .ok (.iload_n 2, 1) := by decide +kernel
theorem dX9_worthBy_64 : decode cX9_worthBy 64 = .ok (.iload 4, 2) := by decide +kernel
theorem dX9_worthBy_66 : decode cX9_worthBy 66 = .ok (.invokestatic 268, 3) := by decide +kernel
theorem dX9_worthBy_69 : decode cX9_worthBy 69 = .ok (.invokevirtual 274, 3) := by decide +kernel
theorem dX9_worthBy_72 : decode cX9_worthBy 72 = .ok (.iconst 0, 1) := by decide +kernel
theorem dX9_worthBy_73 : decode cX9_worthBy 73 = .ok (.bipush 99, 2) := by decide +kernel
theorem dX9_worthBy_75 : decode cX9_worthBy 75 = .ok (.invokestatic 294, 3) := by decide +kernel
theorem dX9_worthBy_78 : decode cX9_worthBy 78 = .ok (.iadd, 1) := by decide +kernel
theorem dX9_worthBy_79 : decode cX9_worthBy 79 = .ok (.istore 5, 2) := by decide +kernel
theorem dX9_worthBy_81 : decode cX9_worthBy 81 = .ok (.iinc 6 1, 3) := by decide +kernel
theorem dX9_worthBy_84 : decode cX9_worthBy 84 = .ok (.goto (-53), 3) := by decide +kernel
theorem dX9_worthBy_87 : decode cX9_worthBy 87 = .ok (.iload 5, 2) := by decide +kernel
theorem dX9_worthBy_89 : decode cX9_worthBy 89 = .ok (.ireturn, 1) := by decide +kernel
theorem dX9_worth_0 : decode cX9_worth 0 = .ok (.iload_n 1, 1) := by decide +kernel
theorem dX9_worth_1 : decode cX9_worth 1 = .ok (.invokestatic 288, 3) := by decide +kernel
theorem dX9_worth_4 : decode cX9_worth 4 = .ok (.ifCond .eq 11, 3) := by decide +kernel
theorem dX9_worth_7 : decode cX9_worth 7 = .ok (.aload_n 0, 1) := by decide +kernel
theorem dX9_worth_8 : decode cX9_worth 8 = .ok (.iload_n 2, 1) := by decide +kernel
theorem dX9_worth_9 : decode cX9_worth 9 = .ok (.invokevirtual 113, 3) := by decide +kernel
theorem dX9_worth_12 : decode cX9_worth 12 = .ok (.ifCond .ne 7, 3) := by decide +kernel
theorem dX9_worth_15 : decode cX9_worth 15 = .ok (.ldc2_w 298, 3) := by decide +kernel
theorem dX9_worth_18 : decode cX9_worth 18 = .ok (.lreturn, 1) := by decide +kernel
theorem dX9_worth_19 : decode cX9_worth 19 = .ok (.aload_n 0, 1) := by decide +kernel
theorem dX9_worth_20 : decode cX9_worth 20 = .ok (.iload_n 1, 1) := by decide +kernel
theorem dX9_worth_21 : decode cX9_worth 21 = .ok (.iload_n 2, 1) := by decide +kernel
theorem dX9_worth_22 : decode cX9_worth 22 = .ok (.invokevirtual 285, 3) := by decide +kernel
theorem dX9_worth_25 : decode cX9_worth 25 = .ok (.istore_n 3, 1) := by decide +kernel
theorem dX9_worth_26 : decode cX9_worth 26 = .ok (.iload_n 3, 1) := by decide +kernel
theorem dX9_worth_27 : decode cX9_worth 27 = .ok (.iconst (-1), 1) := by decide +kernel
theorem dX9_worth_28 : decode cX9_worth 28 = .ok (.if_icmp .ne 9, 3) := by decide +kernel
theorem dX9_worth_31 : decode cX9_worth 31 = .ok (.ldc2_w 298, 3) := by decide +kernel
theorem dX9_worth_34 : decode cX9_worth 34 = .ok (.goto 11, 3) := by decide +kernel
theorem dX9_worth_37 : decode cX9_worth 37 = .ok (.aload_n 0, 1) := by decide +kernel
theorem dX9_worth_38 : decode cX9_worth 38 = .ok (.iload_n 1, 1) := by decide +kernel
theorem dX9_worth_39 : decode cX9_worth 39 = .ok (.iload_n 2, 1) := by decide +kernel
theorem dX9_worth_40 : decode cX9_worth 40 = .ok (.iload_n 3, 1) := by decide +kernel
theorem dX9_worth_41 : decode cX9_worth 41 = .ok (.invokevirtual 300, 3) := by decide +kernel
theorem dX9_worth_44 : decode cX9_worth 44 = .ok (.i2l, 1) := by decide +kernel
theorem dX9_worth_45 : decode cX9_worth 45 = .ok (.lreturn, 1) := by decide +kernel
theorem dX9_best_0 : decode cX9_best 0 = .ok (.iconst (-1), 1) := by decide +kernel
theorem dX9_best_1 : decode cX9_best 1 = .ok (.istore_n 2, 1) := by decide +kernel
theorem dX9_best_2 : decode cX9_best 2 = .ok (.iconst 0, 1) := by decide +kernel
theorem dX9_best_3 : decode cX9_best 3 = .ok (.istore_n 3, 1) := by decide +kernel
theorem dX9_best_4 : decode cX9_best 4 = .ok (.iload_n 3, 1) := by decide +kernel
theorem dX9_best_5 : decode cX9_best 5 = .ok (.aload_n 0, 1) := by decide +kernel
theorem dX9_best_6 : decode cX9_best 6 = .ok (.getfield 97, 3) := by decide +kernel
theorem dX9_best_9 : decode cX9_best 9 = .ok (.if_icmp .ge 55, 3) := by decide +kernel
theorem dX9_best_12 : decode cX9_best 12 = .ok (.aload_n 0, 1) := by decide +kernel
theorem dX9_best_13 : decode cX9_best 13 = .ok (.iload_n 1, 1) := by decide +kernel
theorem dX9_best_14 : decode cX9_best 14 = .ok (.iload_n 3, 1) := by decide +kernel
theorem dX9_best_15 : decode cX9_best 15 = .ok (.invokevirtual 285, 3) := by decide +kernel
theorem dX9_best_18 : decode cX9_best 18 = .ok (.istore 4, 2) := by decide +kernel
theorem dX9_best_20 : decode cX9_best 20 = .ok (.iload 4, 2) := by decide +kernel
theorem dX9_best_22 : decode cX9_best 22 = .ok (.iconst (-1), 1) := by decide +kernel
theorem dX9_best_23 : decode cX9_best 23 = .ok (.if_icmp .eq 35, 3) := by decide +kernel
theorem dX9_best_26 : decode cX9_best 26 = .ok (.aload_n 0, 1) := by decide +kernel
theorem dX9_best_27 : decode cX9_best 27 = .ok (.iload_n 1, 1) := by decide +kernel
theorem dX9_best_28 : decode cX9_best 28 = .ok (.iload_n 3, 1) := by decide +kernel
theorem dX9_best_29 : decode cX9_best 29 = .ok (.iload 4, 2) := by decide +kernel
theorem dX9_best_31 : decode cX9_best 31 = .ok (.invokevirtual 300, 3) := by decide +kernel
theorem dX9_best_34 : decode cX9_best 34 = .ok (.istore 5, 2) := by decide +kernel
theorem dX9_best_36 : decode cX9_best 36 = .ok (.iload_n 2, 1) := by decide +kernel
theorem dX9_best_37 : decode cX9_best 37 = .ok (.iconst (-1), 1) := by decide +kernel
theorem dX9_best_38 : decode cX9_best 38 = .ok (.if_icmp .eq 12, 3) := by decide +kernel
theorem dX9_best_41 : decode cX9_best 41 = .ok (.iload 5, 2) := by decide +kernel
theorem dX9_best_43 : decode cX9_best 43 = .ok (.aload_n 0, 1) := by decide +kernel
theorem dX9_best_44 : decode cX9_best 44 = .ok (.getfield 303, 3) := by decide +kernel
theorem dX9_best_47 : decode cX9_best 47 = .ok (.if_icmp .le 11, 3) := by decide +kernel
theorem dX9_best_50 : decode cX9_best 50 = .ok (.iload_n 3, 1) := by decide +kernel
theorem dX9_best_51 : decode cX9_best 51 = .ok (.istore_n 2, 1) := by decide +kernel
theorem dX9_best_52 : decode cX9_best 52 = .ok (.aload_n 0, 1) := by decide +kernel
theorem dX9_best_53 : decode cX9_best 53 = .ok (.iload 5, 2) := by decide +kernel
theorem dX9_best_55 : decode cX9_best 55 = .ok (.putfield 303, 3) := by decide +kernel
theorem dX9_best_58 : decode cX9_best 58 = .ok (.iinc 3 1, 3) := by decide +kernel
theorem dX9_best_61 : decode cX9_best 61 = .ok (.goto (-57), 3) := by decide +kernel
theorem dX9_best_64 : decode cX9_best 64 = .ok (.iload_n 2, 1) := by decide +kernel
theorem dX9_best_65 : decode cX9_best 65 = .ok (.ireturn, 1) := by decide +kernel
theorem dX9_most_0 : decode cX9_most 0 = .ok (.iload_n 1, 1) := by decide +kernel
theorem dX9_most_1 : decode cX9_most 1 = .ok (.invokestatic 288, 3) := by decide +kernel
theorem dX9_most_4 : decode cX9_most 4 = .ok (.ifCond .eq 13, 3) := by decide +kernel
theorem dX9_most_7 : decode cX9_most 7 = .ok (.iload_n 2, 1) := by decide +kernel
theorem dX9_most_8 : decode cX9_most 8 = .ok (.i2l, 1) := by decide +kernel
theorem dX9_most_9 : decode cX9_most 9 = .ok (.lconst 0, 1) := by decide +kernel
theorem dX9_most_10 : decode cX9_most 10 = .ok (.lconst 1, 1) := by decide +kernel
theorem dX9_most_11 : decode cX9_most 11 = .ok (.invokestatic 100, 3) := by decide +kernel
theorem dX9_most_14 : decode cX9_most 14 = .ok (.ifCond .ne 7, 3) := by decide +kernel
theorem dX9_most_17 : decode cX9_most 17 = .ok (.ldc2_w 298, 3) := by decide +kernel
theorem dX9_most_20 : decode cX9_most 20 = .ok (.lreturn, 1) := by decide +kernel
theorem dX9_most_21 : decode cX9_most 21 = .ok (.aload_n 0, 1) := by decide +kernel
theorem dX9_most_22 : decode cX9_most 22 = .ok (.iload_n 1, 1) := by decide +kernel
theorem dX9_most_23 : decode cX9_most 23 = .ok (.invokevirtual 306, 3) := by decide +kernel
theorem dX9_most_26 : decode cX9_most 26 = .ok (.istore_n 3, 1) := by decide +kernel
theorem dX9_most_27 : decode cX9_most 27 = .ok (.iload_n 3, 1) := by decide +kernel
theorem dX9_most_28 : decode cX9_most 28 = .ok (.iconst (-1), 1) := by decide +kernel
theorem dX9_most_29 : decode cX9_most 29 = .ok (.if_icmp .ne 9, 3) := by decide +kernel
theorem dX9_most_32 : decode cX9_most 32 = .ok (.ldc2_w 298, 3) := by decide +kernel
theorem dX9_most_35 : decode cX9_most 35 = .ok (.goto 17, 3) := by decide +kernel
theorem dX9_most_38 : decode cX9_most 38 = .ok (.iload_n 2, 1) := by decide +kernel
theorem dX9_most_39 : decode cX9_most 39 = .ok (.ifCond .ne 8, 3) := by decide +kernel
theorem dX9_most_42 : decode cX9_most 42 = .ok (.iload_n 3, 1) := by decide +kernel
theorem dX9_most_43 : decode cX9_most 43 = .ok (.i2l, 1) := by decide +kernel
theorem dX9_most_44 : decode cX9_most 44 = .ok (.goto 8, 3) := by decide +kernel
theorem dX9_most_47 : decode cX9_most 47 = .ok (.aload_n 0, 1) := by decide +kernel
theorem dX9_most_48 : decode cX9_most 48 = .ok (.getfield 303, 3) := by decide +kernel
theorem dX9_most_51 : decode cX9_most 51 = .ok (.i2l, 1) := by decide +kernel
theorem dX9_most_52 : decode cX9_most 52 = .ok (.lreturn, 1) := by decide +kernel
theorem dX9_tellIn_0 : decode cX9_tellIn 0 = .ok (.iconst 0, 1) := by decide +kernel
theorem dX9_tellIn_1 : decode cX9_tellIn 1 = .ok (.istore 4, 2) := by decide +kernel
theorem dX9_tellIn_3 : decode cX9_tellIn 3 = .ok (.iconst 0, 1) := by decide +kernel
theorem dX9_tellIn_4 : decode cX9_tellIn 4 = .ok (.istore 5, 2) := by decide +kernel
theorem dX9_tellIn_6 : decode cX9_tellIn 6 = .ok (.iload 5, 2) := by decide +kernel
theorem dX9_tellIn_8 : decode cX9_tellIn 8 = .ok (.aload_n 0, 1) := by decide +kernel
theorem dX9_tellIn_9 : decode cX9_tellIn 9 = .ok (.getfield 104, 3) := by decide +kernel
theorem dX9_tellIn_12 : decode cX9_tellIn 12 = .ok (.if_icmp .ge 58, 3) := by decide +kernel
theorem dX9_tellIn_15 : decode cX9_tellIn 15 = .ok (.aload_n 0, 1) := by decide +kernel
theorem dX9_tellIn_16 : decode cX9_tellIn 16 = .ok (.getfield 44, 3) := by decide +kernel
theorem dX9_tellIn_19 : decode cX9_tellIn 19 = .ok (.iload 5, 2) := by decide +kernel
theorem dX9_tellIn_21 : decode cX9_tellIn 21 = .ok (.iaload, 1) := by decide +kernel
theorem dX9_tellIn_22 : decode cX9_tellIn 22 = .ok (.iload_n 1, 1) := by decide +kernel
theorem dX9_tellIn_23 : decode cX9_tellIn 23 = .ok (.if_icmp .ne 41, 3) := by decide +kernel
theorem dX9_tellIn_26 : decode cX9_tellIn 26 = .ok (.iload 5, 2) := by decide +kernel
theorem dX9_tellIn_28 : decode cX9_tellIn 28 = .ok (.iload_n 3, 1) := by decide +kernel
theorem dX9_tellIn_29 : decode cX9_tellIn 29 = .ok (.if_icmp .eq 35, 3) := by decide +kernel
theorem dX9_tellIn_32 : decode cX9_tellIn 32 = .ok (.aload_n 0, 1) := by decide +kernel
theorem dX9_tellIn_33 : decode cX9_tellIn 33 = .ok (.getfield 41, 3) := by decide +kernel
theorem dX9_tellIn_36 : decode cX9_tellIn 36 = .ok (.iload 5, 2) := by decide +kernel
theorem dX9_tellIn_38 : decode cX9_tellIn 38 = .ok (.dup2, 1) := by decide +kernel
theorem dX9_tellIn_39 : decode cX9_tellIn 39 = .ok (.iaload, 1) := by decide +kernel
theorem dX9_tellIn_40 : decode cX9_tellIn 40 = .ok (.iconst 1, 1) := by decide +kernel
theorem dX9_tellIn_41 : decode cX9_tellIn 41 = .ok (.iload_n 2, 1) := by decide +kernel
theorem dX9_tellIn_42 : decode cX9_tellIn 42 = .ok (.ishl, 1) := by decide +kernel
theorem dX9_tellIn_43 : decode cX9_tellIn 43 = .ok (.ior, 1) := by decide +kernel
theorem dX9_tellIn_44 : decode cX9_tellIn 44 = .ok (.iastore, 1) := by decide +kernel
theorem dX9_tellIn_45 : decode cX9_tellIn 45 = .ok (.aload_n 0, 1) := by decide +kernel
theorem dX9_tellIn_46 : decode cX9_tellIn 46 = .ok (.getfield 47, 3) := by decide +kernel
theorem dX9_tellIn_49 : decode cX9_tellIn 49 = .ok (.bipush 8, 2) := by decide +kernel
theorem dX9_tellIn_51 : decode cX9_tellIn 51 = .ok (.iload 5, 2) := by decide +kernel
theorem dX9_tellIn_53 : decode cX9_tellIn 53 = .ok (.imul, 1) := by decide +kernel
theorem dX9_tellIn_54 : decode cX9_tellIn 54 = .ok (.iload_n 2, 1) := by decide +kernel
theorem dX9_tellIn_55 : decode cX9_tellIn 55 = .ok (.iadd, 1) := by decide +kernel
theorem dX9_tellIn_56 : decode cX9_tellIn 56 = .ok (.aload_n 0, 1) := by decide +kernel
theorem dX9_tellIn_57 : decode cX9_tellIn 57 = .ok (.getfield 132, 3) := by decide +kernel
theorem dX9_tellIn_60 : decode cX9_tellIn 60 = .ok (.iastore, 1) := by decide +kernel
theorem dX9_tellIn_61 : decode cX9_tellIn 61 = .ok (.iinc 4 1, 3) := by decide +kernel
theorem dX9_tellIn_64 : decode cX9_tellIn 64 = .ok (.iinc 5 1, 3) := by decide +kernel
theorem dX9_tellIn_67 : decode cX9_tellIn 67 = .ok (.goto (-61), 3) := by decide +kernel
theorem dX9_tellIn_70 : decode cX9_tellIn 70 = .ok (.iload 4, 2) := by decide +kernel
theorem dX9_tellIn_72 : decode cX9_tellIn 72 = .ok (.ireturn, 1) := by decide +kernel
theorem dX9_tell_0 : decode cX9_tell 0 = .ok (.iload_n 1, 1) := by decide +kernel
theorem dX9_tell_1 : decode cX9_tell 1 = .ok (.invokestatic 288, 3) := by decide +kernel
theorem dX9_tell_4 : decode cX9_tell 4 = .ok (.ifCond .eq 11, 3) := by decide +kernel
theorem dX9_tell_7 : decode cX9_tell 7 = .ok (.aload_n 0, 1) := by decide +kernel
theorem dX9_tell_8 : decode cX9_tell 8 = .ok (.iload_n 2, 1) := by decide +kernel
theorem dX9_tell_9 : decode cX9_tell 9 = .ok (.invokevirtual 113, 3) := by decide +kernel
theorem dX9_tell_12 : decode cX9_tell 12 = .ok (.ifCond .ne 6, 3) := by decide +kernel
theorem dX9_tell_15 : decode cX9_tell 15 = .ok (.bipush (-2), 2) := by decide +kernel
theorem dX9_tell_17 : decode cX9_tell 17 = .ok (.ireturn, 1) := by decide +kernel
theorem dX9_tell_18 : decode cX9_tell 18 = .ok (.aload_n 0, 1) := by decide +kernel
theorem dX9_tell_19 : decode cX9_tell 19 = .ok (.iload_n 1, 1) := by decide +kernel
theorem dX9_tell_20 : decode cX9_tell 20 = .ok (.iload_n 2, 1) := by decide +kernel
theorem dX9_tell_21 : decode cX9_tell 21 = .ok (.invokevirtual 285, 3) := by decide +kernel
theorem dX9_tell_24 : decode cX9_tell 24 = .ok (.istore_n 3, 1) := by decide +kernel
theorem dX9_tell_25 : decode cX9_tell 25 = .ok (.iload_n 3, 1) := by decide +kernel
theorem dX9_tell_26 : decode cX9_tell 26 = .ok (.iconst (-1), 1) := by decide +kernel
theorem dX9_tell_27 : decode cX9_tell 27 = .ok (.if_icmp .ne 8, 3) := by decide +kernel
theorem dX9_tell_30 : decode cX9_tell 30 = .ok (.bipush (-3), 2) := by decide +kernel
theorem dX9_tell_32 : decode cX9_tell 32 = .ok (.goto 10, 3) := by decide +kernel
theorem dX9_tell_35 : decode cX9_tell 35 = .ok (.aload_n 0, 1) := by decide +kernel
theorem dX9_tell_36 : decode cX9_tell 36 = .ok (.iload_n 1, 1) := by decide +kernel
theorem dX9_tell_37 : decode cX9_tell 37 = .ok (.iload_n 2, 1) := by decide +kernel
theorem dX9_tell_38 : decode cX9_tell 38 = .ok (.iload_n 3, 1) := by decide +kernel
theorem dX9_tell_39 : decode cX9_tell 39 = .ok (.invokevirtual 309, 3) := by decide +kernel
theorem dX9_tell_42 : decode cX9_tell 42 = .ok (.ireturn, 1) := by decide +kernel
theorem dX9_pass_0 : decode cX9_pass 0 = .ok (.aload_n 0, 1) := by decide +kernel
theorem dX9_pass_1 : decode cX9_pass 1 = .ok (.aload_n 0, 1) := by decide +kernel
theorem dX9_pass_2 : decode cX9_pass 2 = .ok (.getfield 132, 3) := by decide +kernel
theorem dX9_pass_5 : decode cX9_pass 5 = .ok (.sipush 999, 3) := by decide +kernel
theorem dX9_pass_8 : decode cX9_pass 8 = .ok (.if_icmp .ge 12, 3) := by decide +kernel
theorem dX9_pass_11 : decode cX9_pass 11 = .ok (.aload_n 0, 1) := by decide +kernel
theorem dX9_pass_12 : decode cX9_pass 12 = .ok (.getfield 132, 3) := by decide +kernel
theorem dX9_pass_15 : decode cX9_pass 15 = .ok (.iconst 1, 1) := by decide +kernel
theorem dX9_pass_16 : decode cX9_pass 16 = .ok (.iadd, 1) := by decide +kernel
theorem dX9_pass_17 : decode cX9_pass 17 = .ok (.goto 6, 3) := by decide +kernel
theorem dX9_pass_20 : decode cX9_pass 20 = .ok (.sipush 999, 3) := by decide +kernel
theorem dX9_pass_23 : decode cX9_pass 23 = .ok (.putfield 132, 3) := by decide +kernel
theorem dX9_pass_26 : decode cX9_pass 26 = .ok (.iconst 0, 1) := by decide +kernel
theorem dX9_pass_27 : decode cX9_pass 27 = .ok (.istore_n 1, 1) := by decide +kernel
theorem dX9_pass_28 : decode cX9_pass 28 = .ok (.iload_n 1, 1) := by decide +kernel
theorem dX9_pass_29 : decode cX9_pass 29 = .ok (.aload_n 0, 1) := by decide +kernel
theorem dX9_pass_30 : decode cX9_pass 30 = .ok (.getfield 104, 3) := by decide +kernel
theorem dX9_pass_33 : decode cX9_pass 33 = .ok (.if_icmp .ge 63, 3) := by decide +kernel
theorem dX9_pass_36 : decode cX9_pass 36 = .ok (.iconst 0, 1) := by decide +kernel
theorem dX9_pass_37 : decode cX9_pass 37 = .ok (.istore_n 2, 1) := by decide +kernel
theorem dX9_pass_38 : decode cX9_pass 38 = .ok (.iload_n 2, 1) := by decide +kernel
theorem dX9_pass_39 : decode cX9_pass 39 = .ok (.aload_n 0, 1) := by decide +kernel
theorem dX9_pass_40 : decode cX9_pass 40 = .ok (.getfield 97, 3) := by decide +kernel
theorem dX9_pass_43 : decode cX9_pass 43 = .ok (.if_icmp .ge 47, 3) := by decide +kernel
theorem dX9_pass_46 : decode cX9_pass 46 = .ok (.aload_n 0, 1) := by decide +kernel
theorem dX9_pass_47 : decode cX9_pass 47 = .ok (.getfield 132, 3) := by decide +kernel
theorem dX9_pass_50 : decode cX9_pass 50 = .ok (.aload_n 0, 1) := by decide +kernel
theorem dX9_pass_51 : decode cX9_pass 51 = .ok (.getfield 47, 3) := by decide +kernel
theorem dX9_pass_54 : decode cX9_pass 54 = .ok (.bipush 8, 2) := by decide +kernel
theorem dX9_pass_56 : decode cX9_pass 56 = .ok (.iload_n 1, 1) := by decide +kernel
theorem dX9_pass_57 : decode cX9_pass 57 = .ok (.imul, 1) := by decide +kernel
theorem dX9_pass_58 : decode cX9_pass 58 = .ok (.iload_n 2, 1) := by decide +kernel
theorem dX9_pass_59 : decode cX9_pass 59 = .ok (.iadd, 1) := by decide +kernel
theorem dX9_pass_60 : decode cX9_pass 60 = .ok (.iaload, 1) := by decide +kernel
theorem dX9_pass_61 : decode cX9_pass 61 = .ok (.isub, 1) := by decide +kernel
theorem dX9_pass_62 : decode cX9_pass 62 = .ok (.aload_n 0, 1) := by decide +kernel
theorem dX9_pass_63 : decode cX9_pass 63 = .ok (.iload_n 2, 1) := by decide +kernel
theorem dX9_pass_64 : decode cX9_pass 64 = .ok (.invokevirtual 135, 3) := by decide +kernel
theorem dX9_pass_67 : decode cX9_pass 67 = .ok (.if_icmp .lt 17, 3) := by decide +kernel
theorem dX9_pass_70 : decode cX9_pass 70 = .ok (.aload_n 0, 1) := by decide +kernel
theorem dX9_pass_71 : decode cX9_pass 71 = .ok (.getfield 41, 3) := by decide +kernel
theorem dX9_pass_74 : decode cX9_pass 74 = .ok (.iload_n 1, 1) := by decide +kernel
theorem dX9_pass_75 : decode cX9_pass 75 = .ok (.dup2, 1) := by decide +kernel
theorem dX9_pass_76 : decode cX9_pass 76 = .ok (.iaload, 1) := by decide +kernel
theorem dX9_pass_77 : decode cX9_pass 77 = .ok (.iconst 1, 1) := by decide +kernel
theorem dX9_pass_78 : decode cX9_pass 78 = .ok (.iload_n 2, 1) := by decide +kernel
theorem dX9_pass_79 : decode cX9_pass 79 = .ok (.ishl, 1) := by decide +kernel
theorem dX9_pass_80 : decode cX9_pass 80 = .ok (.iconst (-1), 1) := by decide +kernel
theorem dX9_pass_81 : decode cX9_pass 81 = .ok (.ixor, 1) := by decide +kernel
theorem dX9_pass_82 : decode cX9_pass 82 = .ok (.iand, 1) := by decide +kernel
theorem dX9_pass_83 : decode cX9_pass 83 = .ok (.iastore, 1) := by decide +kernel
theorem dX9_pass_84 : decode cX9_pass 84 = .ok (.iinc 2 1, 3) := by decide +kernel
theorem dX9_pass_87 : decode cX9_pass 87 = .ok (.goto (-49), 3) := by decide +kernel
theorem dX9_pass_90 : decode cX9_pass 90 = .ok (.iinc 1 1, 3) := by decide +kernel
theorem dX9_pass_93 : decode cX9_pass 93 = .ok (.goto (-65), 3) := by decide +kernel
theorem dX9_pass_96 : decode cX9_pass 96 = .ok (.aload_n 0, 1) := by decide +kernel
theorem dX9_pass_97 : decode cX9_pass 97 = .ok (.getfield 132, 3) := by decide +kernel
theorem dX9_pass_100 : decode cX9_pass 100 = .ok (.ireturn, 1) := by decide +kernel
theorem dX9_laysAside_0 : decode cX9_laysAside 0 = .ok (.iconst 0, 1) := by decide +kernel
theorem dX9_laysAside_1 : decode cX9_laysAside 1 = .ok (.istore_n 1, 1) := by decide +kernel
theorem dX9_laysAside_2 : decode cX9_laysAside 2 = .ok (.iload_n 1, 1) := by decide +kernel
theorem dX9_laysAside_3 : decode cX9_laysAside 3 = .ok (.bipush 8, 2) := by decide +kernel
theorem dX9_laysAside_5 : decode cX9_laysAside 5 = .ok (.if_icmp .ge 33, 3) := by decide +kernel
theorem dX9_laysAside_8 : decode cX9_laysAside 8 = .ok (.aload_n 0, 1) := by decide +kernel
theorem dX9_laysAside_9 : decode cX9_laysAside 9 = .ok (.getfield 50, 3) := by decide +kernel
theorem dX9_laysAside_12 : decode cX9_laysAside 12 = .ok (.iload_n 1, 1) := by decide +kernel
theorem dX9_laysAside_13 : decode cX9_laysAside 13 = .ok (.aload_n 0, 1) := by decide +kernel
theorem dX9_laysAside_14 : decode cX9_laysAside 14 = .ok (.getfield 41, 3) := by decide +kernel
theorem dX9_laysAside_17 : decode cX9_laysAside 17 = .ok (.iload_n 1, 1) := by decide +kernel
theorem dX9_laysAside_18 : decode cX9_laysAside 18 = .ok (.iaload, 1) := by decide +kernel
theorem dX9_laysAside_19 : decode cX9_laysAside 19 = .ok (.iastore, 1) := by decide +kernel
theorem dX9_laysAside_20 : decode cX9_laysAside 20 = .ok (.aload_n 0, 1) := by decide +kernel
theorem dX9_laysAside_21 : decode cX9_laysAside 21 = .ok (.getfield 53, 3) := by decide +kernel
theorem dX9_laysAside_24 : decode cX9_laysAside 24 = .ok (.iload_n 1, 1) := by decide +kernel
theorem dX9_laysAside_25 : decode cX9_laysAside 25 = .ok (.aload_n 0, 1) := by decide +kernel
theorem dX9_laysAside_26 : decode cX9_laysAside 26 = .ok (.getfield 44, 3) := by decide +kernel
theorem dX9_laysAside_29 : decode cX9_laysAside 29 = .ok (.iload_n 1, 1) := by decide +kernel
theorem dX9_laysAside_30 : decode cX9_laysAside 30 = .ok (.iaload, 1) := by decide +kernel
theorem dX9_laysAside_31 : decode cX9_laysAside 31 = .ok (.iastore, 1) := by decide +kernel
theorem dX9_laysAside_32 : decode cX9_laysAside 32 = .ok (.iinc 1 1, 3) := by decide +kernel
theorem dX9_laysAside_35 : decode cX9_laysAside 35 = .ok (.goto (-33), 3) := by decide +kernel
theorem dX9_laysAside_38 : decode cX9_laysAside 38 = .ok (.iconst 0, 1) := by decide +kernel
theorem dX9_laysAside_39 : decode cX9_laysAside 39 = .ok (.istore_n 1, 1) := by decide +kernel
theorem dX9_laysAside_40 : decode cX9_laysAside 40 = .ok (.iload_n 1, 1) := by decide +kernel
theorem dX9_laysAside_41 : decode cX9_laysAside 41 = .ok (.bipush 64, 2) := by decide +kernel
theorem dX9_laysAside_43 : decode cX9_laysAside 43 = .ok (.if_icmp .ge 21, 3) := by decide +kernel
theorem dX9_laysAside_46 : decode cX9_laysAside 46 = .ok (.aload_n 0, 1) := by decide +kernel
theorem dX9_laysAside_47 : decode cX9_laysAside 47 = .ok (.getfield 56, 3) := by decide +kernel
theorem dX9_laysAside_50 : decode cX9_laysAside 50 = .ok (.iload_n 1, 1) := by decide +kernel
theorem dX9_laysAside_51 : decode cX9_laysAside 51 = .ok (.aload_n 0, 1) := by decide +kernel
theorem dX9_laysAside_52 : decode cX9_laysAside 52 = .ok (.getfield 47, 3) := by decide +kernel
theorem dX9_laysAside_55 : decode cX9_laysAside 55 = .ok (.iload_n 1, 1) := by decide +kernel
theorem dX9_laysAside_56 : decode cX9_laysAside 56 = .ok (.iaload, 1) := by decide +kernel
theorem dX9_laysAside_57 : decode cX9_laysAside 57 = .ok (.iastore, 1) := by decide +kernel
theorem dX9_laysAside_58 : decode cX9_laysAside 58 = .ok (.iinc 1 1, 3) := by decide +kernel
theorem dX9_laysAside_61 : decode cX9_laysAside 61 = .ok (.goto (-21), 3) := by decide +kernel
theorem dX9_laysAside_64 : decode cX9_laysAside 64 = .ok (.aload_n 0, 1) := by decide +kernel
theorem dX9_laysAside_65 : decode cX9_laysAside 65 = .ok (.aload_n 0, 1) := by decide +kernel
theorem dX9_laysAside_66 : decode cX9_laysAside 66 = .ok (.getfield 132, 3) := by decide +kernel
theorem dX9_laysAside_69 : decode cX9_laysAside 69 = .ok (.putfield 312, 3) := by decide +kernel
theorem dX9_laysAside_72 : decode cX9_laysAside 72 = .ok (.return_, 1) := by decide +kernel
theorem dX9_laysBack_0 : decode cX9_laysBack 0 = .ok (.iconst 0, 1) := by decide +kernel
theorem dX9_laysBack_1 : decode cX9_laysBack 1 = .ok (.istore_n 1, 1) := by decide +kernel
theorem dX9_laysBack_2 : decode cX9_laysBack 2 = .ok (.iload_n 1, 1) := by decide +kernel
theorem dX9_laysBack_3 : decode cX9_laysBack 3 = .ok (.bipush 8, 2) := by decide +kernel
theorem dX9_laysBack_5 : decode cX9_laysBack 5 = .ok (.if_icmp .ge 33, 3) := by decide +kernel
theorem dX9_laysBack_8 : decode cX9_laysBack 8 = .ok (.aload_n 0, 1) := by decide +kernel
theorem dX9_laysBack_9 : decode cX9_laysBack 9 = .ok (.getfield 41, 3) := by decide +kernel
theorem dX9_laysBack_12 : decode cX9_laysBack 12 = .ok (.iload_n 1, 1) := by decide +kernel
theorem dX9_laysBack_13 : decode cX9_laysBack 13 = .ok (.aload_n 0, 1) := by decide +kernel
theorem dX9_laysBack_14 : decode cX9_laysBack 14 = .ok (.getfield 50, 3) := by decide +kernel
theorem dX9_laysBack_17 : decode cX9_laysBack 17 = .ok (.iload_n 1, 1) := by decide +kernel
theorem dX9_laysBack_18 : decode cX9_laysBack 18 = .ok (.iaload, 1) := by decide +kernel
theorem dX9_laysBack_19 : decode cX9_laysBack 19 = .ok (.iastore, 1) := by decide +kernel
theorem dX9_laysBack_20 : decode cX9_laysBack 20 = .ok (.aload_n 0, 1) := by decide +kernel
theorem dX9_laysBack_21 : decode cX9_laysBack 21 = .ok (.getfield 44, 3) := by decide +kernel
theorem dX9_laysBack_24 : decode cX9_laysBack 24 = .ok (.iload_n 1, 1) := by decide +kernel
theorem dX9_laysBack_25 : decode cX9_laysBack 25 = .ok (.aload_n 0, 1) := by decide +kernel
theorem dX9_laysBack_26 : decode cX9_laysBack 26 = .ok (.getfield 53, 3) := by decide +kernel
theorem dX9_laysBack_29 : decode cX9_laysBack 29 = .ok (.iload_n 1, 1) := by decide +kernel
theorem dX9_laysBack_30 : decode cX9_laysBack 30 = .ok (.iaload, 1) := by decide +kernel
theorem dX9_laysBack_31 : decode cX9_laysBack 31 = .ok (.iastore, 1) := by decide +kernel
theorem dX9_laysBack_32 : decode cX9_laysBack 32 = .ok (.iinc 1 1, 3) := by decide +kernel
theorem dX9_laysBack_35 : decode cX9_laysBack 35 = .ok (.goto (-33), 3) := by decide +kernel
theorem dX9_laysBack_38 : decode cX9_laysBack 38 = .ok (.iconst 0, 1) := by decide +kernel
theorem dX9_laysBack_39 : decode cX9_laysBack 39 = .ok (.istore_n 1, 1) := by decide +kernel
theorem dX9_laysBack_40 : decode cX9_laysBack 40 = .ok (.iload_n 1, 1) := by decide +kernel
theorem dX9_laysBack_41 : decode cX9_laysBack 41 = .ok (.bipush 64, 2) := by decide +kernel
theorem dX9_laysBack_43 : decode cX9_laysBack 43 = .ok (.if_icmp .ge 21, 3) := by decide +kernel
theorem dX9_laysBack_46 : decode cX9_laysBack 46 = .ok (.aload_n 0, 1) := by decide +kernel
theorem dX9_laysBack_47 : decode cX9_laysBack 47 = .ok (.getfield 47, 3) := by decide +kernel
theorem dX9_laysBack_50 : decode cX9_laysBack 50 = .ok (.iload_n 1, 1) := by decide +kernel
theorem dX9_laysBack_51 : decode cX9_laysBack 51 = .ok (.aload_n 0, 1) := by decide +kernel
theorem dX9_laysBack_52 : decode cX9_laysBack 52 = .ok (.getfield 56, 3) := by decide +kernel
theorem dX9_laysBack_55 : decode cX9_laysBack 55 = .ok (.iload_n 1, 1) := by decide +kernel
theorem dX9_laysBack_56 : decode cX9_laysBack 56 = .ok (.iaload, 1) := by decide +kernel
theorem dX9_laysBack_57 : decode cX9_laysBack 57 = .ok (.iastore, 1) := by decide +kernel
theorem dX9_laysBack_58 : decode cX9_laysBack 58 = .ok (.iinc 1 1, 3) := by decide +kernel
theorem dX9_laysBack_61 : decode cX9_laysBack 61 = .ok (.goto (-21), 3) := by decide +kernel
theorem dX9_laysBack_64 : decode cX9_laysBack 64 = .ok (.aload_n 0, 1) := by decide +kernel
theorem dX9_laysBack_65 : decode cX9_laysBack 65 = .ok (.aload_n 0, 1) := by decide +kernel
theorem dX9_laysBack_66 : decode cX9_laysBack 66 = .ok (.getfield 312, 3) := by decide +kernel
theorem dX9_laysBack_69 : decode cX9_laysBack 69 = .ok (.putfield 132, 3) := by decide +kernel
theorem dX9_laysBack_72 : decode cX9_laysBack 72 = .ok (.return_, 1) := by decide +kernel
theorem dX9_canAll_0 : decode cX9_canAll 0 = .ok (.iconst 1, 1) := by decide +kernel
theorem dX9_canAll_1 : decode cX9_canAll 1 = .ok (.istore_n 3, 1) := by decide +kernel
theorem dX9_canAll_2 : decode cX9_canAll 2 = .ok (.iconst 0, 1) := by decide +kernel
theorem dX9_canAll_3 : decode cX9_canAll 3 = .ok (.istore 4, 2) := by decide +kernel
theorem dX9_canAll_5 : decode cX9_canAll 5 = .ok (.iload 4, 2) := by decide +kernel
theorem dX9_canAll_7 : decode cX9_canAll 7 = .ok (.aload_n 0, 1) := by decide +kernel
theorem dX9_canAll_8 : decode cX9_canAll 8 = .ok (.getfield 97, 3) := by decide +kernel
theorem dX9_canAll_11 : decode cX9_canAll 11 = .ok (.if_icmp .ge 58, 3) := by decide +kernel
theorem dX9_canAll_14 : decode cX9_canAll 14 = .ok (.iload_n 3, 1) := by decide +kernel
theorem dX9_canAll_15 : decode cX9_canAll 15 = .ok (.ifCond .eq 54, 3) := by decide +kernel
theorem dX9_canAll_18 : decode cX9_canAll 18 = .ok (.iload_n 2, 1) := by decide +kernel
theorem dX9_canAll_19 : decode cX9_canAll 19 = .ok (.iload 4, 2) := by decide +kernel
theorem dX9_canAll_21 : decode cX9_canAll 21 = .ok (.ishr, 1) := by decide +kernel
theorem dX9_canAll_22 : decode cX9_canAll 22 = .ok (.iconst 1, 1) := by decide +kernel
theorem dX9_canAll_23 : decode cX9_canAll 23 = .ok (.iand, 1) := by decide +kernel
theorem dX9_canAll_24 : decode cX9_canAll 24 = .ok (.iconst 1, 1) := by decide +kernel
theorem dX9_canAll_25 : decode cX9_canAll 25 = .ok (.if_icmp .ne 38, 3) := by decide +kernel
theorem dX9_canAll_28 : decode cX9_canAll 28 = .ok (.aload_n 0, 1) := by decide +kernel
theorem dX9_canAll_29 : decode cX9_canAll 29 = .ok (.iload_n 1, 1) := by decide +kernel
theorem dX9_canAll_30 : decode cX9_canAll 30 = .ok (.iload 4, 2) := by decide +kernel
theorem dX9_canAll_32 : decode cX9_canAll 32 = .ok (.invokevirtual 285, 3) := by decide +kernel
theorem dX9_canAll_35 : decode cX9_canAll 35 = .ok (.istore 5, 2) := by decide +kernel
theorem dX9_canAll_37 : decode cX9_canAll 37 = .ok (.iload 5, 2) := by decide +kernel
theorem dX9_canAll_39 : decode cX9_canAll 39 = .ok (.iconst (-1), 1) := by decide +kernel
theorem dX9_canAll_40 : decode cX9_canAll 40 = .ok (.if_icmp .eq 7, 3) := by decide +kernel
theorem dX9_canAll_43 : decode cX9_canAll 43 = .ok (.iconst 1, 1) := by decide +kernel
theorem dX9_canAll_44 : decode cX9_canAll 44 = .ok (.goto 4, 3) := by decide +kernel
theorem dX9_canAll_47 : decode cX9_canAll 47 = .ok (.iconst 0, 1) := by decide +kernel
theorem dX9_canAll_48 : decode cX9_canAll 48 = .ok (.istore_n 3, 1) := by decide +kernel
theorem dX9_canAll_49 : decode cX9_canAll 49 = .ok (.iload_n 3, 1) := by decide +kernel
theorem dX9_canAll_50 : decode cX9_canAll 50 = .ok (.ifCond .eq 13, 3) := by decide +kernel
theorem dX9_canAll_53 : decode cX9_canAll 53 = .ok (.aload_n 0, 1) := by decide +kernel
theorem dX9_canAll_54 : decode cX9_canAll 54 = .ok (.iload_n 1, 1) := by decide +kernel
theorem dX9_canAll_55 : decode cX9_canAll 55 = .ok (.iload 4, 2) := by decide +kernel
theorem dX9_canAll_57 : decode cX9_canAll 57 = .ok (.iload 5, 2) := by decide +kernel
theorem dX9_canAll_59 : decode cX9_canAll 59 = .ok (.invokevirtual 309, 3) := by decide +kernel
theorem dX9_canAll_62 : decode cX9_canAll 62 = .ok (.pop, 1) := by decide +kernel
theorem dX9_canAll_63 : decode cX9_canAll 63 = .ok (.iinc 4 1, 3) := by decide +kernel
theorem dX9_canAll_66 : decode cX9_canAll 66 = .ok (.goto (-61), 3) := by decide +kernel
theorem dX9_canAll_69 : decode cX9_canAll 69 = .ok (.aload_n 0, 1) := by decide +kernel
theorem dX9_canAll_70 : decode cX9_canAll 70 = .ok (.invokevirtual 315, 3) := by decide +kernel
theorem dX9_canAll_73 : decode cX9_canAll 73 = .ok (.iload_n 3, 1) := by decide +kernel
theorem dX9_canAll_74 : decode cX9_canAll 74 = .ok (.ireturn, 1) := by decide +kernel
theorem dX9_goesOn_0 : decode cX9_goesOn 0 = .ok (.iload_n 1, 1) := by decide +kernel
theorem dX9_goesOn_1 : decode cX9_goesOn 1 = .ok (.invokestatic 288, 3) := by decide +kernel
theorem dX9_goesOn_4 : decode cX9_goesOn 4 = .ok (.ifCond .eq 13, 3) := by decide +kernel
theorem dX9_goesOn_7 : decode cX9_goesOn 7 = .ok (.iload_n 2, 1) := by decide +kernel
theorem dX9_goesOn_8 : decode cX9_goesOn 8 = .ok (.i2l, 1) := by decide +kernel
theorem dX9_goesOn_9 : decode cX9_goesOn 9 = .ok (.lconst 0, 1) := by decide +kernel
theorem dX9_goesOn_10 : decode cX9_goesOn 10 = .ok (.lconst 1, 1) := by decide +kernel
theorem dX9_goesOn_11 : decode cX9_goesOn 11 = .ok (.invokestatic 100, 3) := by decide +kernel
theorem dX9_goesOn_14 : decode cX9_goesOn 14 = .ok (.ifCond .ne 6, 3) := by decide +kernel
theorem dX9_goesOn_17 : decode cX9_goesOn 17 = .ok (.bipush (-2), 2) := by decide +kernel
theorem dX9_goesOn_19 : decode cX9_goesOn 19 = .ok (.ireturn, 1) := by decide +kernel
theorem dX9_goesOn_20 : decode cX9_goesOn 20 = .ok (.aload_n 0, 1) := by decide +kernel
theorem dX9_goesOn_21 : decode cX9_goesOn 21 = .ok (.invokevirtual 318, 3) := by decide +kernel
theorem dX9_goesOn_24 : decode cX9_goesOn 24 = .ok (.iconst 0, 1) := by decide +kernel
theorem dX9_goesOn_25 : decode cX9_goesOn 25 = .ok (.istore_n 3, 1) := by decide +kernel
theorem dX9_goesOn_26 : decode cX9_goesOn 26 = .ok (.iconst 1, 1) := by decide +kernel
theorem dX9_goesOn_27 : decode cX9_goesOn 27 = .ok (.istore 4, 2) := by decide +kernel
theorem dX9_goesOn_29 : decode cX9_goesOn 29 = .ok (.iload 4, 2) := by decide +kernel
theorem dX9_goesOn_31 : decode cX9_goesOn 31 = .ok (.iconst 1, 1) := by decide +kernel
theorem dX9_goesOn_32 : decode cX9_goesOn 32 = .ok (.aload_n 0, 1) := by decide +kernel
theorem dX9_goesOn_33 : decode cX9_goesOn 33 = .ok (.getfield 97, 3) := by decide +kernel
theorem dX9_goesOn_36 : decode cX9_goesOn 36 = .ok (.ishl, 1) := by decide +kernel
theorem dX9_goesOn_37 : decode cX9_goesOn 37 = .ok (.if_icmp .ge 34, 3) := by decide +kernel
theorem dX9_goesOn_40 : decode cX9_goesOn 40 = .ok (.iload 4, 2) := by decide +kernel
theorem dX9_goesOn_42 : decode cX9_goesOn 42 = .ok (.invokestatic 268, 3) := by decide +kernel
theorem dX9_goesOn_45 : decode cX9_goesOn 45 = .ok (.iload_n 3, 1) := by decide +kernel
theorem dX9_goesOn_46 : decode cX9_goesOn 46 = .ok (.invokestatic 268, 3) := by decide +kernel
theorem dX9_goesOn_49 : decode cX9_goesOn 49 = .ok (.if_icmp .le 16, 3) := by decide +kernel
theorem dX9_goesOn_52 : decode cX9_goesOn 52 = .ok (.aload_n 0, 1) := by decide +kernel
theorem dX9_goesOn_53 : decode cX9_goesOn 53 = .ok (.iload_n 1, 1) := by decide +kernel
theorem dX9_goesOn_54 : decode cX9_goesOn 54 = .ok (.iload 4, 2) := by decide +kernel
theorem dX9_goesOn_56 : decode cX9_goesOn 56 = .ok (.invokevirtual 321, 3) := by decide +kernel
theorem dX9_goesOn_59 : decode cX9_goesOn 59 = .ok (.ifCond .eq 6, 3) := by decide +kernel
theorem dX9_goesOn_62 : decode cX9_goesOn 62 = .ok (.iload 4, 2) := by decide +kernel
theorem dX9_goesOn_64 : decode cX9_goesOn 64 = .ok (.istore_n 3, 1) := by decide +kernel
theorem dX9_goesOn_65 : decode cX9_goesOn 65 = .ok (.iinc 4 1, 3) := by decide +kernel
theorem dX9_goesOn_68 : decode cX9_goesOn 68 = .ok (.goto (-39), 3) := by decide +kernel
theorem dX9_goesOn_71 : decode cX9_goesOn 71 = .ok (.iload_n 2, 1) := by decide +kernel
theorem dX9_goesOn_72 : decode cX9_goesOn 72 = .ok (.ifCond .ne 10, 3) := by decide +kernel
theorem dX9_goesOn_75 : decode cX9_goesOn 75 = .ok (.iload_n 3, 1) := by decide +kernel
theorem dX9_goesOn_76 : decode cX9_goesOn 76 = .ok (.invokestatic 268, 3) := by decide +kernel
theorem dX9_goesOn_79 : decode cX9_goesOn 79 = .ok (.goto 4, 3) := by decide +kernel
theorem dX9_goesOn_82 : decode cX9_goesOn 82 = .ok (.iload_n 3, 1) := by decide +kernel
theorem dX9_goesOn_83 : decode cX9_goesOn 83 = .ok (.ireturn, 1) := by decide +kernel
theorem dX9_isTired_0 : decode cX9_isTired 0 = .ok (.bipush 8, 2) := by decide +kernel
theorem dX9_isTired_2 : decode cX9_isTired 2 = .ok (.iload_n 1, 1) := by decide +kernel
theorem dX9_isTired_3 : decode cX9_isTired 3 = .ok (.imul, 1) := by decide +kernel
