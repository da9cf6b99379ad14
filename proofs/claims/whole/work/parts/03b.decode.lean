theorem dX4_study_135 : decode cX4_study 135 = .ok (.iload 5, 2) := by decide +kernel
theorem dX4_study_137 : decode cX4_study 137 = .ok (.ifCond .eq 17, 3) := by decide +kernel
theorem dX4_study_140 : decode cX4_study 140 = .ok (.aload_n 0, 1) := by decide +kernel
theorem dX4_study_141 : decode cX4_study 141 = .ok (.getfield 25, 3) := by decide +kernel
theorem dX4_study_144 : decode cX4_study 144 = .ok (.iload_n 3, 1) := by decide +kernel
theorem dX4_study_145 : decode cX4_study 145 = .ok (.laload, 1) := by decide +kernel
theorem dX4_study_146 : decode cX4_study 146 = .ok (.lconst 1, 1) := by decide +kernel
theorem dX4_study_147 : decode cX4_study 147 = .ok (.iload 4, 2) := by decide +kernel
theorem dX4_study_149 : decode cX4_study 149 = .ok (.lshl, 1) := by decide +kernel
theorem dX4_study_150 : decode cX4_study 150 = .ok (.lor, 1) := by decide +kernel
theorem dX4_study_151 : decode cX4_study 151 = .ok (.goto 9, 3) := by decide +kernel
theorem dX4_study_154 : decode cX4_study 154 = .ok (.aload_n 0, 1) := by decide +kernel
theorem dX4_study_155 : decode cX4_study 155 = .ok (.getfield 25, 3) := by decide +kernel
theorem dX4_study_158 : decode cX4_study 158 = .ok (.iload_n 3, 1) := by decide +kernel
theorem dX4_study_159 : decode cX4_study 159 = .ok (.laload, 1) := by decide +kernel
theorem dX4_study_160 : decode cX4_study 160 = .ok (.lastore, 1) := by decide +kernel
theorem dX4_study_161 : decode cX4_study 161 = .ok (.iload 5, 2) := by decide +kernel
theorem dX4_study_163 : decode cX4_study 163 = .ok (.ifCond .eq 9, 3) := by decide +kernel
theorem dX4_study_166 : decode cX4_study 166 = .ok (.iload_n 2, 1) := by decide +kernel
theorem dX4_study_167 : decode cX4_study 167 = .ok (.iconst 1, 1) := by decide +kernel
theorem dX4_study_168 : decode cX4_study 168 = .ok (.iadd, 1) := by decide +kernel
theorem dX4_study_169 : decode cX4_study 169 = .ok (.goto 4, 3) := by decide +kernel
theorem dX4_study_172 : decode cX4_study 172 = .ok (.iload_n 2, 1) := by decide +kernel
theorem dX4_study_173 : decode cX4_study 173 = .ok (.istore_n 2, 1) := by decide +kernel
theorem dX4_study_174 : decode cX4_study 174 = .ok (.iinc 4 1, 3) := by decide +kernel
theorem dX4_study_177 : decode cX4_study 177 = .ok (.goto (-150), 3) := by decide +kernel
theorem dX4_study_180 : decode cX4_study 180 = .ok (.iinc 3 1, 3) := by decide +kernel
theorem dX4_study_183 : decode cX4_study 183 = .ok (.goto (-174), 3) := by decide +kernel
theorem dX4_study_186 : decode cX4_study 186 = .ok (.iload_n 2, 1) := by decide +kernel
theorem dX4_study_187 : decode cX4_study 187 = .ok (.ireturn, 1) := by decide +kernel
theorem dX4_has_0 : decode cX4_has 0 = .ok (.lload_n 0, 1) := by decide +kernel
theorem dX4_has_1 : decode cX4_has 1 = .ok (.iload_n 2, 1) := by decide +kernel
theorem dX4_has_2 : decode cX4_has 2 = .ok (.lshr, 1) := by decide +kernel
theorem dX4_has_3 : decode cX4_has 3 = .ok (.lconst 1, 1) := by decide +kernel
theorem dX4_has_4 : decode cX4_has 4 = .ok (.land, 1) := by decide +kernel
theorem dX4_has_5 : decode cX4_has 5 = .ok (.lconst 1, 1) := by decide +kernel
theorem dX4_has_6 : decode cX4_has 6 = .ok (.lcmp, 1) := by decide +kernel
theorem dX4_has_7 : decode cX4_has 7 = .ok (.ifCond .ne 7, 3) := by decide +kernel
theorem dX4_has_10 : decode cX4_has 10 = .ok (.iconst 1, 1) := by decide +kernel
theorem dX4_has_11 : decode cX4_has 11 = .ok (.goto 4, 3) := by decide +kernel
theorem dX4_has_14 : decode cX4_has 14 = .ok (.iconst 0, 1) := by decide +kernel
theorem dX4_has_15 : decode cX4_has 15 = .ok (.ireturn, 1) := by decide +kernel
theorem dX4_inRing_0 : decode cX4_inRing 0 = .ok (.iconst 0, 1) := by decide +kernel
theorem dX4_inRing_1 : decode cX4_inRing 1 = .ok (.istore_n 1, 1) := by decide +kernel
theorem dX4_inRing_2 : decode cX4_inRing 2 = .ok (.iload_n 1, 1) := by decide +kernel
theorem dX4_inRing_3 : decode cX4_inRing 3 = .ok (.aload_n 0, 1) := by decide +kernel
theorem dX4_inRing_4 : decode cX4_inRing 4 = .ok (.getfield 90, 3) := by decide +kernel
theorem dX4_inRing_7 : decode cX4_inRing 7 = .ok (.if_icmp .ge 21, 3) := by decide +kernel
theorem dX4_inRing_10 : decode cX4_inRing 10 = .ok (.aload_n 0, 1) := by decide +kernel
theorem dX4_inRing_11 : decode cX4_inRing 11 = .ok (.getfield 29, 3) := by decide +kernel
theorem dX4_inRing_14 : decode cX4_inRing 14 = .ok (.iload_n 1, 1) := by decide +kernel
theorem dX4_inRing_15 : decode cX4_inRing 15 = .ok (.aload_n 0, 1) := by decide +kernel
theorem dX4_inRing_16 : decode cX4_inRing 16 = .ok (.getfield 25, 3) := by decide +kernel
theorem dX4_inRing_19 : decode cX4_inRing 19 = .ok (.iload_n 1, 1) := by decide +kernel
theorem dX4_inRing_20 : decode cX4_inRing 20 = .ok (.laload, 1) := by decide +kernel
theorem dX4_inRing_21 : decode cX4_inRing 21 = .ok (.lastore, 1) := by decide +kernel
theorem dX4_inRing_22 : decode cX4_inRing 22 = .ok (.iinc 1 1, 3) := by decide +kernel
theorem dX4_inRing_25 : decode cX4_inRing 25 = .ok (.goto (-23), 3) := by decide +kernel
theorem dX4_inRing_28 : decode cX4_inRing 28 = .ok (.iconst 0, 1) := by decide +kernel
theorem dX4_inRing_29 : decode cX4_inRing 29 = .ok (.istore_n 1, 1) := by decide +kernel
theorem dX4_inRing_30 : decode cX4_inRing 30 = .ok (.iload_n 1, 1) := by decide +kernel
theorem dX4_inRing_31 : decode cX4_inRing 31 = .ok (.aload_n 0, 1) := by decide +kernel
theorem dX4_inRing_32 : decode cX4_inRing 32 = .ok (.getfield 90, 3) := by decide +kernel
theorem dX4_inRing_35 : decode cX4_inRing 35 = .ok (.if_icmp .ge 66, 3) := by decide +kernel
theorem dX4_inRing_38 : decode cX4_inRing 38 = .ok (.iconst 0, 1) := by decide +kernel
theorem dX4_inRing_39 : decode cX4_inRing 39 = .ok (.istore_n 2, 1) := by decide +kernel
theorem dX4_inRing_40 : decode cX4_inRing 40 = .ok (.iload_n 2, 1) := by decide +kernel
theorem dX4_inRing_41 : decode cX4_inRing 41 = .ok (.aload_n 0, 1) := by decide +kernel
theorem dX4_inRing_42 : decode cX4_inRing 42 = .ok (.getfield 90, 3) := by decide +kernel
theorem dX4_inRing_45 : decode cX4_inRing 45 = .ok (.if_icmp .ge 50, 3) := by decide +kernel
theorem dX4_inRing_48 : decode cX4_inRing 48 = .ok (.aload_n 0, 1) := by decide +kernel
theorem dX4_inRing_49 : decode cX4_inRing 49 = .ok (.getfield 29, 3) := by decide +kernel
theorem dX4_inRing_52 : decode cX4_inRing 52 = .ok (.iload_n 2, 1) := by decide +kernel
theorem dX4_inRing_53 : decode cX4_inRing 53 = .ok (.aload_n 0, 1) := by decide +kernel
theorem dX4_inRing_54 : decode cX4_inRing 54 = .ok (.getfield 29, 3) := by decide +kernel
theorem dX4_inRing_57 : decode cX4_inRing 57 = .ok (.iload_n 2, 1) := by decide +kernel
theorem dX4_inRing_58 : decode cX4_inRing 58 = .ok (.laload, 1) := by decide +kernel
theorem dX4_inRing_59 : decode cX4_inRing 59 = .ok (.iload_n 1, 1) := by decide +kernel
theorem dX4_inRing_60 : decode cX4_inRing 60 = .ok (.invokestatic 104, 3) := by decide +kernel
theorem dX4_inRing_63 : decode cX4_inRing 63 = .ok (.ifCond .eq 19, 3) := by decide +kernel
theorem dX4_inRing_66 : decode cX4_inRing 66 = .ok (.aload_n 0, 1) := by decide +kernel
theorem dX4_inRing_67 : decode cX4_inRing 67 = .ok (.getfield 29, 3) := by decide +kernel
theorem dX4_inRing_70 : decode cX4_inRing 70 = .ok (.iload_n 2, 1) := by decide +kernel
theorem dX4_inRing_71 : decode cX4_inRing 71 = .ok (.laload, 1) := by decide +kernel
theorem dX4_inRing_72 : decode cX4_inRing 72 = .ok (.aload_n 0, 1) := by decide +kernel
theorem dX4_inRing_73 : decode cX4_inRing 73 = .ok (.getfield 29, 3) := by decide +kernel
theorem dX4_inRing_76 : decode cX4_inRing 76 = .ok (.iload_n 1, 1) := by decide +kernel
theorem dX4_inRing_77 : decode cX4_inRing 77 = .ok (.laload, 1) := by decide +kernel
theorem dX4_inRing_78 : decode cX4_inRing 78 = .ok (.lor, 1) := by decide +kernel
theorem dX4_inRing_79 : decode cX4_inRing 79 = .ok (.goto 9, 3) := by decide +kernel
theorem dX4_inRing_82 : decode cX4_inRing 82 = .ok (.aload_n 0, 1) := by decide +kernel
theorem dX4_inRing_83 : decode cX4_inRing 83 = .ok (.getfield 29, 3) := by decide +kernel
theorem dX4_inRing_86 : decode cX4_inRing 86 = .ok (.iload_n 2, 1) := by decide +kernel
theorem dX4_inRing_87 : decode cX4_inRing 87 = .ok (.laload, 1) := by decide +kernel
theorem dX4_inRing_88 : decode cX4_inRing 88 = .ok (.lastore, 1) := by decide +kernel
theorem dX4_inRing_89 : decode cX4_inRing 89 = .ok (.iinc 2 1, 3) := by decide +kernel
theorem dX4_inRing_92 : decode cX4_inRing 92 = .ok (.goto (-52), 3) := by decide +kernel
theorem dX4_inRing_95 : decode cX4_inRing 95 = .ok (.iinc 1 1, 3) := by decide +kernel
theorem dX4_inRing_98 : decode cX4_inRing 98 = .ok (.goto (-68), 3) := by decide +kernel
theorem dX4_inRing_101 : decode cX4_inRing 101 = .ok (.iconst (-1), 1) := by decide +kernel
theorem dX4_inRing_102 : decode cX4_inRing 102 = .ok (.istore_n 1, 1) := by decide +kernel
theorem dX4_inRing_103 : decode cX4_inRing 103 = .ok (.aload_n 0, 1) := by decide +kernel
theorem dX4_inRing_104 : decode cX4_inRing 104 = .ok (.getfield 90, 3) := by decide +kernel
theorem dX4_inRing_107 : decode cX4_inRing 107 = .ok (.iconst 1, 1) := by decide +kernel
theorem dX4_inRing_108 : decode cX4_inRing 108 = .ok (.isub, 1) := by decide +kernel
theorem dX4_inRing_109 : decode cX4_inRing 109 = .ok (.istore_n 2, 1) := by decide +kernel
theorem dX4_inRing_110 : decode cX4_inRing 110 = .ok (.iload_n 2, 1) := by decide +kernel
theorem dX4_inRing_111 : decode cX4_inRing 111 = .ok (.ifCond .lt 28, 3) := by decide +kernel
theorem dX4_inRing_114 : decode cX4_inRing 114 = .ok (.aload_n 0, 1) := by decide +kernel
theorem dX4_inRing_115 : decode cX4_inRing 115 = .ok (.getfield 29, 3) := by decide +kernel
theorem dX4_inRing_118 : decode cX4_inRing 118 = .ok (.iload_n 2, 1) := by decide +kernel
theorem dX4_inRing_119 : decode cX4_inRing 119 = .ok (.laload, 1) := by decide +kernel
theorem dX4_inRing_120 : decode cX4_inRing 120 = .ok (.iload_n 2, 1) := by decide +kernel
theorem dX4_inRing_121 : decode cX4_inRing 121 = .ok (.invokestatic 104, 3) := by decide +kernel
theorem dX4_inRing_124 : decode cX4_inRing 124 = .ok (.ifCond .eq 7, 3) := by decide +kernel
theorem dX4_inRing_127 : decode cX4_inRing 127 = .ok (.iload_n 2, 1) := by decide +kernel
theorem dX4_inRing_128 : decode cX4_inRing 128 = .ok (.goto 4, 3) := by decide +kernel
theorem dX4_inRing_131 : decode cX4_inRing 131 = .ok (.iload_n 1, 1) := by decide +kernel
theorem dX4_inRing_132 : decode cX4_inRing 132 = .ok (.istore_n 1, 1) := by decide +kernel
theorem dX4_inRing_133 : decode cX4_inRing 133 = .ok (.iinc 2 (-1), 3) := by decide +kernel
theorem dX4_inRing_136 : decode cX4_inRing 136 = .ok (.goto (-26), 3) := by decide +kernel
theorem dX4_inRing_139 : decode cX4_inRing 139 = .ok (.iload_n 1, 1) := by decide +kernel
theorem dX4_inRing_140 : decode cX4_inRing 140 = .ok (.ireturn, 1) := by decide +kernel
theorem dX4_countSteps_0 : decode cX4_countSteps 0 = .ok (.iconst 0, 1) := by decide +kernel
theorem dX4_countSteps_1 : decode cX4_countSteps 1 = .ok (.istore_n 2, 1) := by decide +kernel
theorem dX4_countSteps_2 : decode cX4_countSteps 2 = .ok (.iload_n 2, 1) := by decide +kernel
theorem dX4_countSteps_3 : decode cX4_countSteps 3 = .ok (.aload_n 0, 1) := by decide +kernel
theorem dX4_countSteps_4 : decode cX4_countSteps 4 = .ok (.getfield 90, 3) := by decide +kernel
theorem dX4_countSteps_7 : decode cX4_countSteps 7 = .ok (.if_icmp .ge 26, 3) := by decide +kernel
theorem dX4_countSteps_10 : decode cX4_countSteps 10 = .ok (.aload_n 0, 1) := by decide +kernel
theorem dX4_countSteps_11 : decode cX4_countSteps 11 = .ok (.getfield 35, 3) := by decide +kernel
theorem dX4_countSteps_14 : decode cX4_countSteps 14 = .ok (.iload_n 2, 1) := by decide +kernel
theorem dX4_countSteps_15 : decode cX4_countSteps 15 = .ok (.iload_n 2, 1) := by decide +kernel
theorem dX4_countSteps_16 : decode cX4_countSteps 16 = .ok (.iload_n 1, 1) := by decide +kernel
theorem dX4_countSteps_17 : decode cX4_countSteps 17 = .ok (.if_icmp .ne 7, 3) := by decide +kernel
theorem dX4_countSteps_20 : decode cX4_countSteps 20 = .ok (.iconst 0, 1) := by decide +kernel
theorem dX4_countSteps_21 : decode cX4_countSteps 21 = .ok (.goto 5, 3) := by decide +kernel
theorem dX4_countSteps_24 : decode cX4_countSteps 24 = .ok (.bipush 100, 2) := by decide +kernel
theorem dX4_countSteps_26 : decode cX4_countSteps 26 = .ok (.iastore, 1) := by decide +kernel
theorem dX4_countSteps_27 : decode cX4_countSteps 27 = .ok (.iinc 2 1, 3) := by decide +kernel
theorem dX4_countSteps_30 : decode cX4_countSteps 30 = .ok (.goto (-28), 3) := by decide +kernel
theorem dX4_countSteps_33 : decode cX4_countSteps 33 = .ok (.iconst 0, 1) := by decide +kernel
theorem dX4_countSteps_34 : decode cX4_countSteps 34 = .ok (.istore_n 2, 1) := by decide +kernel
theorem dX4_countSteps_35 : decode cX4_countSteps 35 = .ok (.iload_n 2, 1) := by decide +kernel
theorem dX4_countSteps_36 : decode cX4_countSteps 36 = .ok (.aload_n 0, 1) := by decide +kernel
theorem dX4_countSteps_37 : decode cX4_countSteps 37 = .ok (.getfield 90, 3) := by decide +kernel
theorem dX4_countSteps_40 : decode cX4_countSteps 40 = .ok (.if_icmp .ge 111, 3) := by decide +kernel
theorem dX4_countSteps_43 : decode cX4_countSteps 43 = .ok (.iconst 0, 1) := by decide +kernel
theorem dX4_countSteps_44 : decode cX4_countSteps 44 = .ok (.istore_n 3, 1) := by decide +kernel
theorem dX4_countSteps_45 : decode cX4_countSteps 45 = .ok (.iload_n 3, 1) := by decide +kernel
theorem dX4_countSteps_46 : decode cX4_countSteps 46 = .ok (.aload_n 0, 1) := by decide +kernel
theorem dX4_countSteps_47 : decode cX4_countSteps 47 = .ok (.getfield 90, 3) := by decide +kernel
theorem dX4_countSteps_50 : decode cX4_countSteps 50 = .ok (.if_icmp .ge 95, 3) := by decide +kernel
theorem dX4_countSteps_53 : decode cX4_countSteps 53 = .ok (.iconst 0, 1) := by decide +kernel
theorem dX4_countSteps_54 : decode cX4_countSteps 54 = .ok (.istore 4, 2) := by decide +kernel
theorem dX4_countSteps_56 : decode cX4_countSteps 56 = .ok (.iload 4, 2) := by decide +kernel
theorem dX4_countSteps_58 : decode cX4_countSteps 58 = .ok (.aload_n 0, 1) := by decide +kernel
theorem dX4_countSteps_59 : decode cX4_countSteps 59 = .ok (.getfield 90, 3) := by decide +kernel
theorem dX4_countSteps_62 : decode cX4_countSteps 62 = .ok (.if_icmp .ge 77, 3) := by decide +kernel
theorem dX4_countSteps_65 : decode cX4_countSteps 65 = .ok (.aload_n 0, 1) := by decide +kernel
theorem dX4_countSteps_66 : decode cX4_countSteps 66 = .ok (.getfield 25, 3) := by decide +kernel
theorem dX4_countSteps_69 : decode cX4_countSteps 69 = .ok (.iload_n 3, 1) := by decide +kernel
theorem dX4_countSteps_70 : decode cX4_countSteps 70 = .ok (.laload, 1) := by decide +kernel
theorem dX4_countSteps_71 : decode cX4_countSteps 71 = .ok (.iload 4, 2) := by decide +kernel
theorem dX4_countSteps_73 : decode cX4_countSteps 73 = .ok (.invokestatic 104, 3) := by decide +kernel
theorem dX4_countSteps_76 : decode cX4_countSteps 76 = .ok (.ifCond .eq 25, 3) := by decide +kernel
theorem dX4_countSteps_79 : decode cX4_countSteps 79 = .ok (.aload_n 0, 1) := by decide +kernel
theorem dX4_countSteps_80 : decode cX4_countSteps 80 = .ok (.getfield 35, 3) := by decide +kernel
theorem dX4_countSteps_83 : decode cX4_countSteps 83 = .ok (.iload 4, 2) := by decide +kernel
theorem dX4_countSteps_85 : decode cX4_countSteps 85 = .ok (.iaload, 1) := by decide +kernel
theorem dX4_countSteps_86 : decode cX4_countSteps 86 = .ok (.iconst 1, 1) := by decide +kernel
theorem dX4_countSteps_87 : decode cX4_countSteps 87 = .ok (.iadd, 1) := by decide +kernel
theorem dX4_countSteps_88 : decode cX4_countSteps 88 = .ok (.aload_n 0, 1) := by decide +kernel
theorem dX4_countSteps_89 : decode cX4_countSteps 89 = .ok (.getfield 35, 3) := by decide +kernel
theorem dX4_countSteps_92 : decode cX4_countSteps 92 = .ok (.iload_n 3, 1) := by decide +kernel
theorem dX4_countSteps_93 : decode cX4_countSteps 93 = .ok (.iaload, 1) := by decide +kernel
theorem dX4_countSteps_94 : decode cX4_countSteps 94 = .ok (.if_icmp .ge 7, 3) := by decide +kernel
theorem dX4_countSteps_97 : decode cX4_countSteps 97 = .ok (.iconst 1, 1) := by decide +kernel
theorem dX4_countSteps_98 : decode cX4_countSteps 98 = .ok (.goto 4, 3) := by decide +kernel
theorem dX4_countSteps_101 : decode cX4_countSteps 101 = .ok (.iconst 0, 1) := by decide +kernel
theorem dX4_countSteps_102 : decode cX4_countSteps 102 = .ok (.istore 5, 2) := by decide +kernel
theorem dX4_countSteps_104 : decode cX4_countSteps 104 = .ok (.aload_n 0, 1) := by decide +kernel
theorem dX4_countSteps_105 : decode cX4_countSteps 105 = .ok (.getfield 35, 3) := by decide +kernel
theorem dX4_countSteps_108 : decode cX4_countSteps 108 = .ok (.iload_n 3, 1) := by decide +kernel
theorem dX4_countSteps_109 : decode cX4_countSteps 109 = .ok (.iload 5, 2) := by decide +kernel
theorem dX4_countSteps_111 : decode cX4_countSteps 111 = .ok (.ifCond .eq 15, 3) := by decide +kernel
theorem dX4_countSteps_114 : decode cX4_countSteps 114 = .ok (.aload_n 0, 1) := by decide +kernel
theorem dX4_countSteps_115 : decode cX4_countSteps 115 = .ok (.getfield 35, 3) := by decide +kernel
theorem dX4_countSteps_118 : decode cX4_countSteps 118 = .ok (.iload 4, 2) := by decide +kernel
theorem dX4_countSteps_120 : decode cX4_countSteps 120 = .ok (.iaload, 1) := by decide +kernel
theorem dX4_countSteps_121 : decode cX4_countSteps 121 = .ok (.iconst 1, 1) := by decide +kernel
theorem dX4_countSteps_122 : decode cX4_countSteps 122 = .ok (.iadd, 1) := by decide +kernel
theorem dX4_countSteps_123 : decode cX4_countSteps 123 = .ok (.goto 9, 3) := by decide +kernel
theorem dX4_countSteps_126 : decode cX4_countSteps 126 = .ok (.aload_n 0, 1) := by decide +kernel
theorem dX4_countSteps_127 : decode cX4_countSteps 127 = .ok (.getfield 35, 3) := by decide +kernel
theorem dX4_countSteps_130 : decode cX4_countSteps 130 = .ok (.iload_n 3, 1) := by decide +kernel
theorem dX4_countSteps_131 : decode cX4_countSteps 131 = .ok (.iaload, 1) := by decide +kernel
theorem dX4_countSteps_132 : decode cX4_countSteps 132 = .ok (.iastore, 1) := by decide +kernel
theorem dX4_countSteps_133 : decode cX4_countSteps 133 = .ok (.iinc 4 1, 3) := by decide +kernel
theorem dX4_countSteps_136 : decode cX4_countSteps 136 = .ok (.goto (-80), 3) := by decide +kernel
theorem dX4_countSteps_139 : decode cX4_countSteps 139 = .ok (.iinc 3 1, 3) := by decide +kernel
theorem dX4_countSteps_142 : decode cX4_countSteps 142 = .ok (.goto (-97), 3) := by decide +kernel
theorem dX4_countSteps_145 : decode cX4_countSteps 145 = .ok (.iinc 2 1, 3) := by decide +kernel
theorem dX4_countSteps_148 : decode cX4_countSteps 148 = .ok (.goto (-113), 3) := by decide +kernel
theorem dX4_countSteps_151 : decode cX4_countSteps 151 = .ok (.return_, 1) := by decide +kernel
theorem dX4_tellRing_0 : decode cX4_tellRing 0 = .ok (.aload_n 0, 1) := by decide +kernel
theorem dX4_tellRing_1 : decode cX4_tellRing 1 = .ok (.iload_n 1, 1) := by decide +kernel
theorem dX4_tellRing_2 : decode cX4_tellRing 2 = .ok (.invokevirtual 108, 3) := by decide +kernel
theorem dX4_tellRing_5 : decode cX4_tellRing 5 = .ok (.aload_n 0, 1) := by decide +kernel
theorem dX4_tellRing_6 : decode cX4_tellRing 6 = .ok (.iconst 0, 1) := by decide +kernel
theorem dX4_tellRing_7 : decode cX4_tellRing 7 = .ok (.putfield 112, 3) := by decide +kernel
theorem dX4_tellRing_10 : decode cX4_tellRing 10 = .ok (.iload_n 1, 1) := by decide +kernel
theorem dX4_tellRing_11 : decode cX4_tellRing 11 = .ok (.istore_n 2, 1) := by decide +kernel
theorem dX4_tellRing_12 : decode cX4_tellRing 12 = .ok (.iconst 1, 1) := by decide +kernel
theorem dX4_tellRing_13 : decode cX4_tellRing 13 = .ok (.istore_n 3, 1) := by decide +kernel
theorem dX4_tellRing_14 : decode cX4_tellRing 14 = .ok (.iload_n 3, 1) := by decide +kernel
theorem dX4_tellRing_15 : decode cX4_tellRing 15 = .ok (.ifCond .eq 118, 3) := by decide +kernel
theorem dX4_tellRing_18 : decode cX4_tellRing 18 = .ok (.aload_n 0, 1) := by decide +kernel
theorem dX4_tellRing_19 : decode cX4_tellRing 19 = .ok (.getfield 53, 3) := by decide +kernel
theorem dX4_tellRing_22 : decode cX4_tellRing 22 = .ok (.aload_n 0, 1) := by decide +kernel
theorem dX4_tellRing_23 : decode cX4_tellRing 23 = .ok (.getfield 112, 3) := by decide +kernel
theorem dX4_tellRing_26 : decode cX4_tellRing 26 = .ok (.iload_n 2, 1) := by decide +kernel
theorem dX4_tellRing_27 : decode cX4_tellRing 27 = .ok (.iastore, 1) := by decide +kernel
theorem dX4_tellRing_28 : decode cX4_tellRing 28 = .ok (.aload_n 0, 1) := by decide +kernel
theorem dX4_tellRing_29 : decode cX4_tellRing 29 = .ok (.dup, 1) := by decide +kernel
theorem dX4_tellRing_30 : decode cX4_tellRing 30 = .ok (.getfield 112, 3) := by decide +kernel
theorem dX4_tellRing_33 : decode cX4_tellRing 33 = .ok (.iconst 1, 1) := by decide +kernel
theorem dX4_tellRing_34 : decode cX4_tellRing 34 = .ok (.iadd, 1) := by decide +kernel
theorem dX4_tellRing_35 : decode cX4_tellRing 35 = .ok (.putfield 112, 3) := by decide +kernel
theorem dX4_tellRing_38 : decode cX4_tellRing 38 = .ok (.iconst (-1), 1) := by decide +kernel
theorem dX4_tellRing_39 : decode cX4_tellRing 39 = .ok (.istore 4, 2) := by decide +kernel
theorem dX4_tellRing_41 : decode cX4_tellRing 41 = .ok (.iconst 0, 1) := by decide +kernel
theorem dX4_tellRing_42 : decode cX4_tellRing 42 = .ok (.istore 5, 2) := by decide +kernel
theorem dX4_tellRing_44 : decode cX4_tellRing 44 = .ok (.iload 5, 2) := by decide +kernel
theorem dX4_tellRing_46 : decode cX4_tellRing 46 = .ok (.aload_n 0, 1) := by decide +kernel
theorem dX4_tellRing_47 : decode cX4_tellRing 47 = .ok (.getfield 90, 3) := by decide +kernel
theorem dX4_tellRing_50 : decode cX4_tellRing 50 = .ok (.if_icmp .ge 66, 3) := by decide +kernel
theorem dX4_tellRing_53 : decode cX4_tellRing 53 = .ok (.aload_n 0, 1) := by decide +kernel
theorem dX4_tellRing_54 : decode cX4_tellRing 54 = .ok (.getfield 25, 3) := by decide +kernel
theorem dX4_tellRing_57 : decode cX4_tellRing 57 = .ok (.iload_n 2, 1) := by decide +kernel
theorem dX4_tellRing_58 : decode cX4_tellRing 58 = .ok (.laload, 1) := by decide +kernel
theorem dX4_tellRing_59 : decode cX4_tellRing 59 = .ok (.iload 5, 2) := by decide +kernel
theorem dX4_tellRing_61 : decode cX4_tellRing 61 = .ok (.invokestatic 104, 3) := by decide +kernel
theorem dX4_tellRing_64 : decode cX4_tellRing 64 = .ok (.ifCond .eq 29, 3) := by decide +kernel
theorem dX4_tellRing_67 : decode cX4_tellRing 67 = .ok (.iload 4, 2) := by decide +kernel
theorem dX4_tellRing_69 : decode cX4_tellRing 69 = .ok (.ifCond .lt 20, 3) := by decide +kernel
theorem dX4_tellRing_72 : decode cX4_tellRing 72 = .ok (.aload_n 0, 1) := by decide +kernel
theorem dX4_tellRing_73 : decode cX4_tellRing 73 = .ok (.getfield 35, 3) := by decide +kernel
theorem dX4_tellRing_76 : decode cX4_tellRing 76 = .ok (.iload 5, 2) := by decide +kernel
theorem dX4_tellRing_78 : decode cX4_tellRing 78 = .ok (.iaload, 1) := by decide +kernel
theorem dX4_tellRing_79 : decode cX4_tellRing 79 = .ok (.aload_n 0, 1) := by decide +kernel
theorem dX4_tellRing_80 : decode cX4_tellRing 80 = .ok (.getfield 35, 3) := by decide +kernel
theorem dX4_tellRing_83 : decode cX4_tellRing 83 = .ok (.iload 4, 2) := by decide +kernel
theorem dX4_tellRing_85 : decode cX4_tellRing 85 = .ok (.iaload, 1) := by decide +kernel
theorem dX4_tellRing_86 : decode cX4_tellRing 86 = .ok (.if_icmp .ge 7, 3) := by decide +kernel
theorem dX4_tellRing_89 : decode cX4_tellRing 89 = .ok (.iconst 1, 1) := by decide +kernel
theorem dX4_tellRing_90 : decode cX4_tellRing 90 = .ok (.goto 4, 3) := by decide +kernel
theorem dX4_tellRing_93 : decode cX4_tellRing 93 = .ok (.iconst 0, 1) := by decide +kernel
theorem dX4_tellRing_94 : decode cX4_tellRing 94 = .ok (.istore 6, 2) := by decide +kernel
theorem dX4_tellRing_96 : decode cX4_tellRing 96 = .ok (.iload 6, 2) := by decide +kernel
theorem dX4_tellRing_98 : decode cX4_tellRing 98 = .ok (.ifCond .eq 8, 3) := by decide +kernel
theorem dX4_tellRing_101 : decode cX4_tellRing 101 = .ok (.iload 5, 2) := by decide +kernel
theorem dX4_tellRing_103 : decode cX4_tellRing 103 = .ok (.goto 5, 3) := by decide +kernel
theorem dX4_tellRing_106 : decode cX4_tellRing 106 = .ok (.iload 4, 2) := by decide +kernel
theorem dX4_tellRing_108 : decode cX4_tellRing 108 = .ok (.istore 4, 2) := by decide +kernel
theorem dX4_tellRing_110 : decode cX4_tellRing 110 = .ok (.iinc 5 1, 3) := by decide +kernel
theorem dX4_tellRing_113 : decode cX4_tellRing 113 = .ok (.goto (-69), 3) := by decide +kernel
theorem dX4_tellRing_116 : decode cX4_tellRing 116 = .ok (.iload 4, 2) := by decide +kernel
theorem dX4_tellRing_118 : decode cX4_tellRing 118 = .ok (.istore_n 2, 1) := by decide +kernel
theorem dX4_tellRing_119 : decode cX4_tellRing 119 = .ok (.iload_n 2, 1) := by decide +kernel
theorem dX4_tellRing_120 : decode cX4_tellRing 120 = .ok (.iload_n 1, 1) := by decide +kernel
theorem dX4_tellRing_121 : decode cX4_tellRing 121 = .ok (.if_icmp .eq 7, 3) := by decide +kernel
theorem dX4_tellRing_124 : decode cX4_tellRing 124 = .ok (.iconst 1, 1) := by decide +kernel
theorem dX4_tellRing_125 : decode cX4_tellRing 125 = .ok (.goto 4, 3) := by decide +kernel
theorem dX4_tellRing_128 : decode cX4_tellRing 128 = .ok (.iconst 0, 1) := by decide +kernel
theorem dX4_tellRing_129 : decode cX4_tellRing 129 = .ok (.istore_n 3, 1) := by decide +kernel
theorem dX4_tellRing_130 : decode cX4_tellRing 130 = .ok (.goto (-116), 3) := by decide +kernel
theorem dX4_tellRing_133 : decode cX4_tellRing 133 = .ok (.return_, 1) := by decide +kernel
theorem dX4_free_0 : decode cX4_free 0 = .ok (.aload_n 0, 1) := by decide +kernel
theorem dX4_free_1 : decode cX4_free 1 = .ok (.getfield 32, 3) := by decide +kernel
theorem dX4_free_4 : decode cX4_free 4 = .ok (.iload_n 1, 1) := by decide +kernel
theorem dX4_free_5 : decode cX4_free 5 = .ok (.iaload, 1) := by decide +kernel
theorem dX4_free_6 : decode cX4_free 6 = .ok (.ifCond .ge 7, 3) := by decide +kernel
theorem dX4_free_9 : decode cX4_free 9 = .ok (.iconst 1, 1) := by decide +kernel
theorem dX4_free_10 : decode cX4_free 10 = .ok (.goto 4, 3) := by decide +kernel
theorem dX4_free_13 : decode cX4_free 13 = .ok (.iconst 0, 1) := by decide +kernel
theorem dX4_free_14 : decode cX4_free 14 = .ok (.istore_n 3, 1) := by decide +kernel
theorem dX4_free_15 : decode cX4_free 15 = .ok (.iconst 0, 1) := by decide +kernel
theorem dX4_free_16 : decode cX4_free 16 = .ok (.istore 4, 2) := by decide +kernel
theorem dX4_free_18 : decode cX4_free 18 = .ok (.iload 4, 2) := by decide +kernel
theorem dX4_free_20 : decode cX4_free 20 = .ok (.aload_n 0, 1) := by decide +kernel
theorem dX4_free_21 : decode cX4_free 21 = .ok (.getfield 90, 3) := by decide +kernel
theorem dX4_free_24 : decode cX4_free 24 = .ok (.if_icmp .ge 50, 3) := by decide +kernel
theorem dX4_free_27 : decode cX4_free 27 = .ok (.iload_n 3, 1) := by decide +kernel
theorem dX4_free_28 : decode cX4_free 28 = .ok (.ifCond .eq 38, 3) := by decide +kernel
theorem dX4_free_31 : decode cX4_free 31 = .ok (.aload_n 0, 1) := by decide +kernel
theorem dX4_free_32 : decode cX4_free 32 = .ok (.getfield 25, 3) := by decide +kernel
theorem dX4_free_35 : decode cX4_free 35 = .ok (.iload 4, 2) := by decide +kernel
theorem dX4_free_37 : decode cX4_free 37 = .ok (.laload, 1) := by decide +kernel
theorem dX4_free_38 : decode cX4_free 38 = .ok (.iload_n 1, 1) := by decide +kernel
theorem dX4_free_39 : decode cX4_free 39 = .ok (.invokestatic 104, 3) := by decide +kernel
theorem dX4_free_42 : decode cX4_free 42 = .ok (.ifCond .eq 20, 3) := by decide +kernel
theorem dX4_free_45 : decode cX4_free 45 = .ok (.aload_n 0, 1) := by decide +kernel
theorem dX4_free_46 : decode cX4_free 46 = .ok (.getfield 32, 3) := by decide +kernel
theorem dX4_free_49 : decode cX4_free 49 = .ok (.iload 4, 2) := by decide +kernel
theorem dX4_free_51 : decode cX4_free 51 = .ok (.iaload, 1) := by decide +kernel
theorem dX4_free_52 : decode cX4_free 52 = .ok (.iconst 0, 1) := by decide +kernel
theorem dX4_free_53 : decode cX4_free 53 = .ok (.iload_n 2, 1) := by decide +kernel
theorem dX4_free_54 : decode cX4_free 54 = .ok (.iconst 1, 1) := by decide +kernel
theorem dX4_free_55 : decode cX4_free 55 = .ok (.isub, 1) := by decide +kernel
theorem dX4_free_56 : decode cX4_free 56 = .ok (.invokestatic 60, 3) := by decide +kernel
theorem dX4_free_59 : decode cX4_free 59 = .ok (.ifCond .eq 7, 3) := by decide +kernel
theorem dX4_free_62 : decode cX4_free 62 = .ok (.iconst 1, 1) := by decide +kernel
theorem dX4_free_63 : decode cX4_free 63 = .ok (.goto 4, 3) := by decide +kernel
theorem dX4_free_66 : decode cX4_free 66 = .ok (.iconst 0, 1) := by decide +kernel
theorem dX4_free_67 : decode cX4_free 67 = .ok (.istore_n 3, 1) := by decide +kernel
theorem dX4_free_68 : decode cX4_free 68 = .ok (.iinc 4 1, 3) := by decide +kernel
theorem dX4_free_71 : decode cX4_free 71 = .ok (.goto (-53), 3) := by decide +kernel
theorem dX4_free_74 : decode cX4_free 74 = .ok (.iload_n 3, 1) := by decide +kernel
theorem dX4_free_75 : decode cX4_free 75 = .ok (.ireturn, 1) := by decide +kernel
theorem dX4_nextFor_0 : decode cX4_nextFor 0 = .ok (.iconst (-1), 1) := by decide +kernel
theorem dX4_nextFor_1 : decode cX4_nextFor 1 = .ok (.istore 5, 2) := by decide +kernel
theorem dX4_nextFor_3 : decode cX4_nextFor 3 = .ok (.aload_n 0, 1) := by decide +kernel
theorem dX4_nextFor_4 : decode cX4_nextFor 4 = .ok (.getfield 90, 3) := by decide +kernel
theorem dX4_nextFor_7 : decode cX4_nextFor 7 = .ok (.iconst 1, 1) := by decide +kernel
theorem dX4_nextFor_8 : decode cX4_nextFor 8 = .ok (.isub, 1) := by decide +kernel
theorem dX4_nextFor_9 : decode cX4_nextFor 9 = .ok (.istore 6, 2) := by decide +kernel
theorem dX4_nextFor_11 : decode cX4_nextFor 11 = .ok (.iload 6, 2) := by decide +kernel
theorem dX4_nextFor_13 : decode cX4_nextFor 13 = .ok (.ifCond .lt 150, 3) := by decide +kernel
theorem dX4_nextFor_16 : decode cX4_nextFor 16 = .ok (.aload_n 0, 1) := by decide +kernel
theorem dX4_nextFor_17 : decode cX4_nextFor 17 = .ok (.getfield 16, 3) := by decide +kernel
theorem dX4_nextFor_20 : decode cX4_nextFor 20 = .ok (.iload 6, 2) := by decide +kernel
theorem dX4_nextFor_22 : decode cX4_nextFor 22 = .ok (.iaload, 1) := by decide +kernel
theorem dX4_nextFor_23 : decode cX4_nextFor 23 = .ok (.iload_n 3, 1) := by decide +kernel
theorem dX4_nextFor_24 : decode cX4_nextFor 24 = .ok (.if_icmp .gt 21, 3) := by decide +kernel
theorem dX4_nextFor_27 : decode cX4_nextFor 27 = .ok (.aload_n 0, 1) := by decide +kernel
theorem dX4_nextFor_28 : decode cX4_nextFor 28 = .ok (.getfield 16, 3) := by decide +kernel
theorem dX4_nextFor_31 : decode cX4_nextFor 31 = .ok (.iload 6, 2) := by decide +kernel
theorem dX4_nextFor_33 : decode cX4_nextFor 33 = .ok (.iaload, 1) := by decide +kernel
theorem dX4_nextFor_34 : decode cX4_nextFor 34 = .ok (.iload_n 3, 1) := by decide +kernel
theorem dX4_nextFor_35 : decode cX4_nextFor 35 = .ok (.if_icmp .ne 14, 3) := by decide +kernel
theorem dX4_nextFor_38 : decode cX4_nextFor 38 = .ok (.iload 6, 2) := by decide +kernel
theorem dX4_nextFor_40 : decode cX4_nextFor 40 = .ok (.iload 4, 2) := by decide +kernel
theorem dX4_nextFor_42 : decode cX4_nextFor 42 = .ok (.if_icmp .le 7, 3) := by decide +kernel
theorem dX4_nextFor_45 : decode cX4_nextFor 45 = .ok (.iconst 1, 1) := by decide +kernel
theorem dX4_nextFor_46 : decode cX4_nextFor 46 = .ok (.goto 4, 3) := by decide +kernel
theorem dX4_nextFor_49 : decode cX4_nextFor 49 = .ok (.iconst 0, 1) := by decide +kernel
theorem dX4_nextFor_50 : decode cX4_nextFor 50 = .ok (.istore 7, 2) := by decide +kernel
theorem dX4_nextFor_52 : decode cX4_nextFor 52 = .ok (.iload_n 2, 1) := by decide +kernel
theorem dX4_nextFor_53 : decode cX4_nextFor 53 = .ok (.ifCond .lt 51, 3) := by decide +kernel
theorem dX4_nextFor_56 : decode cX4_nextFor 56 = .ok (.aload_n 0, 1) := by decide +kernel
theorem dX4_nextFor_57 : decode cX4_nextFor 57 = .ok (.getfield 16, 3) := by decide +kernel
theorem dX4_nextFor_60 : decode cX4_nextFor 60 = .ok (.iload 6, 2) := by decide +kernel
theorem dX4_nextFor_62 : decode cX4_nextFor 62 = .ok (.iaload, 1) := by decide +kernel
theorem dX4_nextFor_63 : decode cX4_nextFor 63 = .ok (.aload_n 0, 1) := by decide +kernel
theorem dX4_nextFor_64 : decode cX4_nextFor 64 = .ok (.getfield 19, 3) := by decide +kernel
theorem dX4_nextFor_67 : decode cX4_nextFor 67 = .ok (.iload_n 2, 1) := by decide +kernel
theorem dX4_nextFor_68 : decode cX4_nextFor 68 = .ok (.iaload, 1) := by decide +kernel
theorem dX4_nextFor_69 : decode cX4_nextFor 69 = .ok (.if_icmp .gt 35, 3) := by decide +kernel
theorem dX4_nextFor_72 : decode cX4_nextFor 72 = .ok (.aload_n 0, 1) := by decide +kernel
theorem dX4_nextFor_73 : decode cX4_nextFor 73 = .ok (.getfield 16, 3) := by decide +kernel
theorem dX4_nextFor_76 : decode cX4_nextFor 76 = .ok (.iload 6, 2) := by decide +kernel
theorem dX4_nextFor_78 : decode cX4_nextFor 78 = .ok (.iaload, 1) := by decide +kernel
theorem dX4_nextFor_79 : decode cX4_nextFor 79 = .ok (.aload_n 0, 1) := by decide +kernel
theorem dX4_nextFor_80 : decode cX4_nextFor 80 = .ok (.getfield 19, 3) := by decide +kernel
theorem dX4_nextFor_83 : decode cX4_nextFor 83 = .ok (.iload_n 2, 1) := by decide +kernel
theorem dX4_nextFor_84 : decode cX4_nextFor 84 = .ok (.iaload, 1) := by decide +kernel
theorem dX4_nextFor_85 : decode cX4_nextFor 85 = .ok (.if_icmp .ne 23, 3) := by decide +kernel
theorem dX4_nextFor_88 : decode cX4_nextFor 88 = .ok (.aload_n 0, 1) := by decide +kernel
theorem dX4_nextFor_89 : decode cX4_nextFor 89 = .ok (.getfield 13, 3) := by decide +kernel
theorem dX4_nextFor_92 : decode cX4_nextFor 92 = .ok (.iload 6, 2) := by decide +kernel
theorem dX4_nextFor_94 : decode cX4_nextFor 94 = .ok (.iaload, 1) := by decide +kernel
theorem dX4_nextFor_95 : decode cX4_nextFor 95 = .ok (.aload_n 0, 1) := by decide +kernel
theorem dX4_nextFor_96 : decode cX4_nextFor 96 = .ok (.getfield 13, 3) := by decide +kernel
theorem dX4_nextFor_99 : decode cX4_nextFor 99 = .ok (.iload_n 2, 1) := by decide +kernel
theorem dX4_nextFor_100 : decode cX4_nextFor 100 = .ok (.iaload, 1) := by decide +kernel
theorem dX4_nextFor_101 : decode cX4_nextFor 101 = .ok (.if_icmp .ne 7, 3) := by decide +kernel
theorem dX4_nextFor_104 : decode cX4_nextFor 104 = .ok (.iconst 1, 1) := by decide +kernel
theorem dX4_nextFor_105 : decode cX4_nextFor 105 = .ok (.goto 4, 3) := by decide +kernel
theorem dX4_nextFor_108 : decode cX4_nextFor 108 = .ok (.iconst 0, 1) := by decide +kernel
theorem dX4_nextFor_109 : decode cX4_nextFor 109 = .ok (.istore 8, 2) := by decide +kernel
theorem dX4_nextFor_111 : decode cX4_nextFor 111 = .ok (.iload 7, 2) := by decide +kernel
theorem dX4_nextFor_113 : decode cX4_nextFor 113 = .ok (.ifCond .eq 44, 3) := by decide +kernel
theorem dX4_nextFor_116 : decode cX4_nextFor 116 = .ok (.iload 8, 2) := by decide +kernel
theorem dX4_nextFor_118 : decode cX4_nextFor 118 = .ok (.ifCond .eq 39, 3) := by decide +kernel
theorem dX4_nextFor_121 : decode cX4_nextFor 121 = .ok (.aload_n 0, 1) := by decide +kernel
theorem dX4_nextFor_122 : decode cX4_nextFor 122 = .ok (.iload 6, 2) := by decide +kernel
theorem dX4_nextFor_124 : decode cX4_nextFor 124 = .ok (.iload_n 1, 1) := by decide +kernel
theorem dX4_nextFor_125 : decode cX4_nextFor 125 = .ok (.invokevirtual 115, 3) := by decide +kernel
theorem dX4_nextFor_128 : decode cX4_nextFor 128 = .ok (.ifCond .eq 29, 3) := by decide +kernel
theorem dX4_nextFor_131 : decode cX4_nextFor 131 = .ok (.iload 5, 2) := by decide +kernel
theorem dX4_nextFor_133 : decode cX4_nextFor 133 = .ok (.ifCond .lt 20, 3) := by decide +kernel
theorem dX4_nextFor_136 : decode cX4_nextFor 136 = .ok (.aload_n 0, 1) := by decide +kernel
theorem dX4_nextFor_137 : decode cX4_nextFor 137 = .ok (.getfield 16, 3) := by decide +kernel
theorem dX4_nextFor_140 : decode cX4_nextFor 140 = .ok (.iload 6, 2) := by decide +kernel
theorem dX4_nextFor_142 : decode cX4_nextFor 142 = .ok (.iaload, 1) := by decide +kernel
theorem dX4_nextFor_143 : decode cX4_nextFor 143 = .ok (.aload_n 0, 1) := by decide +kernel
theorem dX4_nextFor_144 : decode cX4_nextFor 144 = .ok (.getfield 16, 3) := by decide +kernel
theorem dX4_nextFor_147 : decode cX4_nextFor 147 = .ok (.iload 5, 2) := by decide +kernel
theorem dX4_nextFor_149 : decode cX4_nextFor 149 = .ok (.iaload, 1) := by decide +kernel
theorem dX4_nextFor_150 : decode cX4_nextFor 150 = .ok (.if_icmp .gt 7, 3) := by decide +kernel
theorem dX4_nextFor_153 : decode cX4_nextFor 153 = .ok (.iload 6, 2) := by decide +kernel
theorem dX4_nextFor_155 : decode cX4_nextFor 155 = .ok (.istore 5, 2) := by decide +kernel
theorem dX4_nextFor_157 : decode cX4_nextFor 157 = .ok (.iinc 6 (-1), 3) := by decide +kernel
theorem dX4_nextFor_160 : decode cX4_nextFor 160 = .ok (.goto (-149), 3) := by decide +kernel
theorem dX4_nextFor_163 : decode cX4_nextFor 163 = .ok (.iload 5, 2) := by decide +kernel
theorem dX4_nextFor_165 : decode cX4_nextFor 165 = .ok (.ireturn, 1) := by decide +kernel
theorem dX4_fill_0 : decode cX4_fill 0 = .ok (.iconst 0, 1) := by decide +kernel
theorem dX4_fill_1 : decode cX4_fill 1 = .ok (.istore_n 1, 1) := by decide +kernel
theorem dX4_fill_2 : decode cX4_fill 2 = .ok (.iconst 0, 1) := by decide +kernel
theorem dX4_fill_3 : decode cX4_fill 3 = .ok (.istore_n 2, 1) := by decide +kernel
theorem dX4_fill_4 : decode cX4_fill 4 = .ok (.iconst 0, 1) := by decide +kernel
theorem dX4_fill_5 : decode cX4_fill 5 = .ok (.istore_n 3, 1) := by decide +kernel
theorem dX4_fill_6 : decode cX4_fill 6 = .ok (.iload_n 3, 1) := by decide +kernel
theorem dX4_fill_7 : decode cX4_fill 7 = .ok (.aload_n 0, 1) := by decide +kernel
theorem dX4_fill_8 : decode cX4_fill 8 = .ok (.getfield 90, 3) := by decide +kernel
theorem dX4_fill_11 : decode cX4_fill 11 = .ok (.if_icmp .ge 16, 3) := by decide +kernel
theorem dX4_fill_14 : decode cX4_fill 14 = .ok (.aload_n 0, 1) := by decide +kernel
theorem dX4_fill_15 : decode cX4_fill 15 = .ok (.getfield 32, 3) := by decide +kernel
theorem dX4_fill_18 : decode cX4_fill 18 = .ok (.iload_n 3, 1) := by decide +kernel
theorem dX4_fill_19 : decode cX4_fill 19 = .ok (.iconst (-1), 1) := by decide +kernel
theorem dX4_fill_20 : decode cX4_fill 20 = .ok (.iastore, 1) := by decide +kernel
theorem dX4_fill_21 : decode cX4_fill 21 = .ok (.iinc 3 1, 3) := by decide +kernel
theorem dX4_fill_24 : decode cX4_fill 24 = .ok (.goto (-18), 3) := by decide +kernel
theorem dX4_fill_27 : decode cX4_fill 27 = .ok (.iload_n 1, 1) := by decide +kernel
theorem dX4_fill_28 : decode cX4_fill 28 = .ok (.aload_n 0, 1) := by decide +kernel
theorem dX4_fill_29 : decode cX4_fill 29 = .ok (.getfield 90, 3) := by decide +kernel
theorem dX4_fill_32 : decode cX4_fill 32 = .ok (.if_icmp .ge 58, 3) := by decide +kernel
theorem dX4_fill_35 : decode cX4_fill 35 = .ok (.iconst (-1), 1) := by decide +kernel
theorem dX4_fill_36 : decode cX4_fill 36 = .ok (.istore_n 3, 1) := by decide +kernel
theorem dX4_fill_37 : decode cX4_fill 37 = .ok (.aload_n 0, 1) := by decide +kernel
theorem dX4_fill_38 : decode cX4_fill 38 = .ok (.iload_n 2, 1) := by decide +kernel
theorem dX4_fill_39 : decode cX4_fill 39 = .ok (.iconst (-1), 1) := by decide +kernel
theorem dX4_fill_40 : decode cX4_fill 40 = .ok (.iconst (-1), 1) := by decide +kernel
theorem dX4_fill_41 : decode cX4_fill 41 = .ok (.iconst (-1), 1) := by decide +kernel
theorem dX4_fill_42 : decode cX4_fill 42 = .ok (.invokevirtual 119, 3) := by decide +kernel
theorem dX4_fill_45 : decode cX4_fill 45 = .ok (.istore 4, 2) := by decide +kernel
theorem dX4_fill_47 : decode cX4_fill 47 = .ok (.iload 4, 2) := by decide +kernel
theorem dX4_fill_49 : decode cX4_fill 49 = .ok (.ifCond .lt 35, 3) := by decide +kernel
theorem dX4_fill_52 : decode cX4_fill 52 = .ok (.aload_n 0, 1) := by decide +kernel
theorem dX4_fill_53 : decode cX4_fill 53 = .ok (.getfield 32, 3) := by decide +kernel
theorem dX4_fill_56 : decode cX4_fill 56 = .ok (.iload 4, 2) := by decide +kernel
theorem dX4_fill_58 : decode cX4_fill 58 = .ok (.iload_n 2, 1) := by decide +kernel
theorem dX4_fill_59 : decode cX4_fill 59 = .ok (.iastore, 1) := by decide +kernel
theorem dX4_fill_60 : decode cX4_fill 60 = .ok (.iinc 1 1, 3) := by decide +kernel
theorem dX4_fill_63 : decode cX4_fill 63 = .ok (.iload 4, 2) := by decide +kernel
theorem dX4_fill_65 : decode cX4_fill 65 = .ok (.istore_n 3, 1) := by decide +kernel
theorem dX4_fill_66 : decode cX4_fill 66 = .ok (.aload_n 0, 1) := by decide +kernel
theorem dX4_fill_67 : decode cX4_fill 67 = .ok (.iload_n 2, 1) := by decide +kernel
theorem dX4_fill_68 : decode cX4_fill 68 = .ok (.iload_n 3, 1) := by decide +kernel
theorem dX4_fill_69 : decode cX4_fill 69 = .ok (.aload_n 0, 1) := by decide +kernel
theorem dX4_fill_70 : decode cX4_fill 70 = .ok (.getfield 16, 3) := by decide +kernel
theorem dX4_fill_73 : decode cX4_fill 73 = .ok (.iload_n 3, 1) := by decide +kernel
theorem dX4_fill_74 : decode cX4_fill 74 = .ok (.iaload, 1) := by decide +kernel
theorem dX4_fill_75 : decode cX4_fill 75 = .ok (.iload_n 3, 1) := by decide +kernel
theorem dX4_fill_76 : decode cX4_fill 76 = .ok (.invokevirtual 119, 3) := by decide +kernel
theorem dX4_fill_79 : decode cX4_fill 79 = .ok (.istore 4, 2) := by decide +kernel
theorem dX4_fill_81 : decode cX4_fill 81 = .ok (.goto (-34), 3) := by decide +kernel
theorem dX4_fill_84 : decode cX4_fill 84 = .ok (.iinc 2 1, 3) := by decide +kernel
theorem dX4_fill_87 : decode cX4_fill 87 = .ok (.goto (-60), 3) := by decide +kernel
theorem dX4_fill_90 : decode cX4_fill 90 = .ok (.iload_n 2, 1) := by decide +kernel
theorem dX4_fill_91 : decode cX4_fill 91 = .ok (.ireturn, 1) := by decide +kernel
theorem dX4_layNow_0 : decode cX4_layNow 0 = .ok (.aload_n 0, 1) := by decide +kernel
theorem dX4_layNow_1 : decode cX4_layNow 1 = .ok (.aload_n 0, 1) := by decide +kernel
theorem dX4_layNow_2 : decode cX4_layNow 2 = .ok (.invokevirtual 123, 3) := by decide +kernel
theorem dX4_layNow_5 : decode cX4_layNow 5 = .ok (.putfield 71, 3) := by decide +kernel
theorem dX4_layNow_8 : decode cX4_layNow 8 = .ok (.aload_n 0, 1) := by decide +kernel
theorem dX4_layNow_9 : decode cX4_layNow 9 = .ok (.iconst 1, 1) := by decide +kernel
theorem dX4_layNow_10 : decode cX4_layNow 10 = .ok (.putfield 64, 3) := by decide +kernel
theorem dX4_layNow_13 : decode cX4_layNow 13 = .ok (.aload_n 0, 1) := by decide +kernel
theorem dX4_layNow_14 : decode cX4_layNow 14 = .ok (.aload_n 0, 1) := by decide +kernel
theorem dX4_layNow_15 : decode cX4_layNow 15 = .ok (.getfield 90, 3) := by decide +kernel
theorem dX4_layNow_18 : decode cX4_layNow 18 = .ok (.putfield 68, 3) := by decide +kernel
theorem dX4_layNow_21 : decode cX4_layNow 21 = .ok (.iconst 0, 1) := by decide +kernel
theorem dX4_layNow_22 : decode cX4_layNow 22 = .ok (.istore_n 1, 1) := by decide +kernel
theorem dX4_layNow_23 : decode cX4_layNow 23 = .ok (.iload_n 1, 1) := by decide +kernel
theorem dX4_layNow_24 : decode cX4_layNow 24 = .ok (.aload_n 0, 1) := by decide +kernel
theorem dX4_layNow_25 : decode cX4_layNow 25 = .ok (.getfield 90, 3) := by decide +kernel
theorem dX4_layNow_28 : decode cX4_layNow 28 = .ok (.if_icmp .ge 69, 3) := by decide +kernel
theorem dX4_layNow_31 : decode cX4_layNow 31 = .ok (.aload_n 0, 1) := by decide +kernel
theorem dX4_layNow_32 : decode cX4_layNow 32 = .ok (.getfield 38, 3) := by decide +kernel
theorem dX4_layNow_35 : decode cX4_layNow 35 = .ok (.iload_n 1, 1) := by decide +kernel
theorem dX4_layNow_36 : decode cX4_layNow 36 = .ok (.aload_n 0, 1) := by decide +kernel
theorem dX4_layNow_37 : decode cX4_layNow 37 = .ok (.getfield 13, 3) := by decide +kernel
theorem dX4_layNow_40 : decode cX4_layNow 40 = .ok (.iload_n 1, 1) := by decide +kernel
theorem dX4_layNow_41 : decode cX4_layNow 41 = .ok (.iaload, 1) := by decide +kernel
theorem dX4_layNow_42 : decode cX4_layNow 42 = .ok (.iastore, 1) := by decide +kernel
theorem dX4_layNow_43 : decode cX4_layNow 43 = .ok (.aload_n 0, 1) := by decide +kernel
theorem dX4_layNow_44 : decode cX4_layNow 44 = .ok (.getfield 41, 3) := by decide +kernel
theorem dX4_layNow_47 : decode cX4_layNow 47 = .ok (.iload_n 1, 1) := by decide +kernel
theorem dX4_layNow_48 : decode cX4_layNow 48 = .ok (.aload_n 0, 1) := by decide +kernel
theorem dX4_layNow_49 : decode cX4_layNow 49 = .ok (.getfield 16, 3) := by decide +kernel
theorem dX4_layNow_52 : decode cX4_layNow 52 = .ok (.iload_n 1, 1) := by decide +kernel
theorem dX4_layNow_53 : decode cX4_layNow 53 = .ok (.iaload, 1) := by decide +kernel
theorem dX4_layNow_54 : decode cX4_layNow 54 = .ok (.iastore, 1) := by decide +kernel
theorem dX4_layNow_55 : decode cX4_layNow 55 = .ok (.aload_n 0, 1) := by decide +kernel
theorem dX4_layNow_56 : decode cX4_layNow 56 = .ok (.getfield 44, 3) := by decide +kernel
theorem dX4_layNow_59 : decode cX4_layNow 59 = .ok (.iload_n 1, 1) := by decide +kernel
theorem dX4_layNow_60 : decode cX4_layNow 60 = .ok (.aload_n 0, 1) := by decide +kernel
theorem dX4_layNow_61 : decode cX4_layNow 61 = .ok (.getfield 19, 3) := by decide +kernel
theorem dX4_layNow_64 : decode cX4_layNow 64 = .ok (.iload_n 1, 1) := by decide +kernel
theorem dX4_layNow_65 : decode cX4_layNow 65 = .ok (.iaload, 1) := by decide +kernel
theorem dX4_layNow_66 : decode cX4_layNow 66 = .ok (.iastore, 1) := by decide +kernel
theorem dX4_layNow_67 : decode cX4_layNow 67 = .ok (.aload_n 0, 1) := by decide +kernel
theorem dX4_layNow_68 : decode cX4_layNow 68 = .ok (.getfield 47, 3) := by decide +kernel
theorem dX4_layNow_71 : decode cX4_layNow 71 = .ok (.iload_n 1, 1) := by decide +kernel
theorem dX4_layNow_72 : decode cX4_layNow 72 = .ok (.aload_n 0, 1) := by decide +kernel
theorem dX4_layNow_73 : decode cX4_layNow 73 = .ok (.getfield 22, 3) := by decide +kernel
theorem dX4_layNow_76 : decode cX4_layNow 76 = .ok (.iload_n 1, 1) := by decide +kernel
theorem dX4_layNow_77 : decode cX4_layNow 77 = .ok (.iaload, 1) := by decide +kernel
theorem dX4_layNow_78 : decode cX4_layNow 78 = .ok (.iastore, 1) := by decide +kernel
theorem dX4_layNow_79 : decode cX4_layNow 79 = .ok (.aload_n 0, 1) := by decide +kernel
theorem dX4_layNow_80 : decode cX4_layNow 80 = .ok (.getfield 50, 3) := by decide +kernel
theorem dX4_layNow_83 : decode cX4_layNow 83 = .ok (.iload_n 1, 1) := by decide +kernel
theorem dX4_layNow_84 : decode cX4_layNow 84 = .ok (.aload_n 0, 1) := by decide +kernel
theorem dX4_layNow_85 : decode cX4_layNow 85 = .ok (.getfield 32, 3) := by decide +kernel
theorem dX4_layNow_88 : decode cX4_layNow 88 = .ok (.iload_n 1, 1) := by decide +kernel
theorem dX4_layNow_89 : decode cX4_layNow 89 = .ok (.iaload, 1) := by decide +kernel
theorem dX4_layNow_90 : decode cX4_layNow 90 = .ok (.iastore, 1) := by decide +kernel
theorem dX4_layNow_91 : decode cX4_layNow 91 = .ok (.iinc 1 1, 3) := by decide +kernel
theorem dX4_layNow_94 : decode cX4_layNow 94 = .ok (.goto (-71), 3) := by decide +kernel
theorem dX4_layNow_97 : decode cX4_layNow 97 = .ok (.aload_n 0, 1) := by decide +kernel
theorem dX4_layNow_98 : decode cX4_layNow 98 = .ok (.dup, 1) := by decide +kernel
theorem dX4_layNow_99 : decode cX4_layNow 99 = .ok (.getfield 127, 3) := by decide +kernel
theorem dX4_layNow_102 : decode cX4_layNow 102 = .ok (.iconst 1, 1) := by decide +kernel
theorem dX4_layNow_103 : decode cX4_layNow 103 = .ok (.iadd, 1) := by decide +kernel
theorem dX4_layNow_104 : decode cX4_layNow 104 = .ok (.putfield 127, 3) := by decide +kernel
theorem dX4_layNow_107 : decode cX4_layNow 107 = .ok (.aload_n 0, 1) := by decide +kernel
theorem dX4_layNow_108 : decode cX4_layNow 108 = .ok (.getfield 71, 3) := by decide +kernel
theorem dX4_layNow_111 : decode cX4_layNow 111 = .ok (.ireturn, 1) := by decide +kernel
theorem dX4_noRing_0 : decode cX4_noRing 0 = .ok (.aload_n 0, 1) := by decide +kernel
theorem dX4_noRing_1 : decode cX4_noRing 1 = .ok (.invokevirtual 130, 3) := by decide +kernel
theorem dX4_noRing_4 : decode cX4_noRing 4 = .ok (.istore_n 1, 1) := by decide +kernel
theorem dX4_noRing_5 : decode cX4_noRing 5 = .ok (.iload_n 1, 1) := by decide +kernel
theorem dX4_noRing_6 : decode cX4_noRing 6 = .ok (.ifCond .ge 5, 3) := by decide +kernel
theorem dX4_noRing_9 : decode cX4_noRing 9 = .ok (.iconst 1, 1) := by decide +kernel
theorem dX4_noRing_10 : decode cX4_noRing 10 = .ok (.ireturn, 1) := by decide +kernel
theorem dX4_noRing_11 : decode cX4_noRing 11 = .ok (.aload_n 0, 1) := by decide +kernel
theorem dX4_noRing_12 : decode cX4_noRing 12 = .ok (.iload_n 1, 1) := by decide +kernel
theorem dX4_noRing_13 : decode cX4_noRing 13 = .ok (.invokevirtual 133, 3) := by decide +kernel
theorem dX4_noRing_16 : decode cX4_noRing 16 = .ok (.aload_n 0, 1) := by decide +kernel
theorem dX4_noRing_17 : decode cX4_noRing 17 = .ok (.dup, 1) := by decide +kernel
theorem dX4_noRing_18 : decode cX4_noRing 18 = .ok (.getfield 136, 3) := by decide +kernel
theorem dX4_noRing_21 : decode cX4_noRing 21 = .ok (.iconst 1, 1) := by decide +kernel
theorem dX4_noRing_22 : decode cX4_noRing 22 = .ok (.iadd, 1) := by decide +kernel
theorem dX4_noRing_23 : decode cX4_noRing 23 = .ok (.putfield 136, 3) := by decide +kernel
theorem dX4_noRing_26 : decode cX4_noRing 26 = .ok (.aload_n 0, 1) := by decide +kernel
theorem dX4_noRing_27 : decode cX4_noRing 27 = .ok (.iconst 2, 1) := by decide +kernel
theorem dX4_noRing_28 : decode cX4_noRing 28 = .ok (.putfield 56, 3) := by decide +kernel
theorem dX4_noRing_31 : decode cX4_noRing 31 = .ok (.iconst 0, 1) := by decide +kernel
theorem dX4_noRing_32 : decode cX4_noRing 32 = .ok (.ireturn, 1) := by decide +kernel
theorem dX4_lay_0 : decode cX4_lay 0 = .ok (.aload_n 0, 1) := by decide +kernel
theorem dX4_lay_1 : decode cX4_lay 1 = .ok (.iconst 0, 1) := by decide +kernel
theorem dX4_lay_2 : decode cX4_lay 2 = .ok (.putfield 56, 3) := by decide +kernel
theorem dX4_lay_5 : decode cX4_lay 5 = .ok (.aload_n 0, 1) := by decide +kernel
theorem dX4_lay_6 : decode cX4_lay 6 = .ok (.invokevirtual 139, 3) := by decide +kernel
theorem dX4_lay_9 : decode cX4_lay 9 = .ok (.ifCond .eq 9, 3) := by decide +kernel
theorem dX4_lay_12 : decode cX4_lay 12 = .ok (.aload_n 0, 1) := by decide +kernel
theorem dX4_lay_13 : decode cX4_lay 13 = .ok (.iconst 1, 1) := by decide +kernel
theorem dX4_lay_14 : decode cX4_lay 14 = .ok (.invokevirtual 143, 3) := by decide +kernel
theorem dX4_lay_17 : decode cX4_lay 17 = .ok (.ireturn, 1) := by decide +kernel
theorem dX4_lay_18 : decode cX4_lay 18 = .ok (.aload_n 0, 1) := by decide +kernel
theorem dX4_lay_19 : decode cX4_lay 19 = .ok (.iload_n 1, 1) := by decide +kernel
theorem dX4_lay_20 : decode cX4_lay 20 = .ok (.invokevirtual 146, 3) := by decide +kernel
theorem dX4_lay_23 : decode cX4_lay 23 = .ok (.istore_n 2, 1) := by decide +kernel
theorem dX4_lay_24 : decode cX4_lay 24 = .ok (.aload_n 0, 1) := by decide +kernel
theorem dX4_lay_25 : decode cX4_lay 25 = .ok (.invokevirtual 150, 3) := by decide +kernel
theorem dX4_lay_28 : decode cX4_lay 28 = .ok (.ifCond .eq 10, 3) := by decide +kernel
theorem dX4_lay_31 : decode cX4_lay 31 = .ok (.aload_n 0, 1) := by decide +kernel
theorem dX4_lay_32 : decode cX4_lay 32 = .ok (.invokevirtual 153, 3) := by decide +kernel
theorem dX4_lay_35 : decode cX4_lay 35 = .ok (.goto 4, 3) := by decide +kernel
theorem dX4_lay_38 : decode cX4_lay 38 = .ok (.iconst 0, 1) := by decide +kernel
theorem dX4_lay_39 : decode cX4_lay 39 = .ok (.ireturn, 1) := by decide +kernel
theorem dX4_layAny_0 : decode cX4_layAny 0 = .ok (.aload_n 0, 1) := by decide +kernel
theorem dX4_layAny_1 : decode cX4_layAny 1 = .ok (.iconst 0, 1) := by decide +kernel
theorem dX4_layAny_2 : decode cX4_layAny 2 = .ok (.putfield 56, 3) := by decide +kernel
theorem dX4_layAny_5 : decode cX4_layAny 5 = .ok (.aload_n 0, 1) := by decide +kernel
theorem dX4_layAny_6 : decode cX4_layAny 6 = .ok (.invokevirtual 139, 3) := by decide +kernel
theorem dX4_layAny_9 : decode cX4_layAny 9 = .ok (.ifCond .eq 9, 3) := by decide +kernel
theorem dX4_layAny_12 : decode cX4_layAny 12 = .ok (.aload_n 0, 1) := by decide +kernel
theorem dX4_layAny_13 : decode cX4_layAny 13 = .ok (.iconst 1, 1) := by decide +kernel
theorem dX4_layAny_14 : decode cX4_layAny 14 = .ok (.invokevirtual 143, 3) := by decide +kernel
theorem dX4_layAny_17 : decode cX4_layAny 17 = .ok (.ireturn, 1) := by decide +kernel
theorem dX4_layAny_18 : decode cX4_layAny 18 = .ok (.aload_n 0, 1) := by decide +kernel
theorem dX4_layAny_19 : decode cX4_layAny 19 = .ok (.iconst 0, 1) := by decide +kernel
theorem dX4_layAny_20 : decode cX4_layAny 20 = .ok (.invokevirtual 146, 3) := by decide +kernel
theorem dX4_layAny_23 : decode cX4_layAny 23 = .ok (.istore_n 1, 1) := by decide +kernel
theorem dX4_layAny_24 : decode cX4_layAny 24 = .ok (.aload_n 0, 1) := by decide +kernel
theorem dX4_layAny_25 : decode cX4_layAny 25 = .ok (.invokevirtual 130, 3) := by decide +kernel
theorem dX4_layAny_28 : decode cX4_layAny 28 = .ok (.ifCond .ge 8, 3) := by decide +kernel
theorem dX4_layAny_31 : decode cX4_layAny 31 = .ok (.aload_n 0, 1) := by decide +kernel
theorem dX4_layAny_32 : decode cX4_layAny 32 = .ok (.invokevirtual 153, 3) := by decide +kernel
theorem dX4_layAny_35 : decode cX4_layAny 35 = .ok (.ireturn, 1) := by decide +kernel
theorem dX4_layAny_36 : decode cX4_layAny 36 = .ok (.aload_n 0, 1) := by decide +kernel
theorem dX4_layAny_37 : decode cX4_layAny 37 = .ok (.iconst 1, 1) := by decide +kernel
theorem dX4_layAny_38 : decode cX4_layAny 38 = .ok (.invokevirtual 146, 3) := by decide +kernel
theorem dX4_layAny_41 : decode cX4_layAny 41 = .ok (.istore_n 1, 1) := by decide +kernel
theorem dX4_layAny_42 : decode cX4_layAny 42 = .ok (.aload_n 0, 1) := by decide +kernel
theorem dX4_layAny_43 : decode cX4_layAny 43 = .ok (.invokevirtual 150, 3) := by decide +kernel
theorem dX4_layAny_46 : decode cX4_layAny 46 = .ok (.ifCond .eq 14, 3) := by decide +kernel
theorem dX4_layAny_49 : decode cX4_layAny 49 = .ok (.sipush 1000, 3) := by decide +kernel
theorem dX4_layAny_52 : decode cX4_layAny 52 = .ok (.aload_n 0, 1) := by decide +kernel
theorem dX4_layAny_53 : decode cX4_layAny 53 = .ok (.invokevirtual 153, 3) := by decide +kernel
theorem dX4_layAny_56 : decode cX4_layAny 56 = .ok (.iadd, 1) := by decide +kernel
theorem dX4_layAny_57 : decode cX4_layAny 57 = .ok (.goto 4, 3) := by decide +kernel
theorem dX4_layAny_60 : decode cX4_layAny 60 = .ok (.iconst 0, 1) := by decide +kernel
theorem dX4_layAny_61 : decode cX4_layAny 61 = .ok (.ireturn, 1) := by decide +kernel
theorem dX4_ring_0 : decode cX4_ring 0 = .ok (.aload_n 0, 1) := by decide +kernel
theorem dX4_ring_1 : decode cX4_ring 1 = .ok (.iconst 0, 1) := by decide +kernel
theorem dX4_ring_2 : decode cX4_ring 2 = .ok (.putfield 56, 3) := by decide +kernel
theorem dX4_ring_5 : decode cX4_ring 5 = .ok (.iload_n 1, 1) := by decide +kernel
theorem dX4_ring_6 : decode cX4_ring 6 = .ok (.iconst 0, 1) := by decide +kernel
theorem dX4_ring_7 : decode cX4_ring 7 = .ok (.aload_n 0, 1) := by decide +kernel
theorem dX4_ring_8 : decode cX4_ring 8 = .ok (.getfield 112, 3) := by decide +kernel
theorem dX4_ring_11 : decode cX4_ring 11 = .ok (.iconst 1, 1) := by decide +kernel
theorem dX4_ring_12 : decode cX4_ring 12 = .ok (.isub, 1) := by decide +kernel
theorem dX4_ring_13 : decode cX4_ring 13 = .ok (.invokestatic 60, 3) := by decide +kernel
theorem dX4_ring_16 : decode cX4_ring 16 = .ok (.ifCond .eq 12, 3) := by decide +kernel
theorem dX4_ring_19 : decode cX4_ring 19 = .ok (.aload_n 0, 1) := by decide +kernel
theorem dX4_ring_20 : decode cX4_ring 20 = .ok (.getfield 53, 3) := by decide +kernel
theorem dX4_ring_23 : decode cX4_ring 23 = .ok (.iload_n 1, 1) := by decide +kernel
theorem dX4_ring_24 : decode cX4_ring 24 = .ok (.iaload, 1) := by decide +kernel
theorem dX4_ring_25 : decode cX4_ring 25 = .ok (.goto 4, 3) := by decide +kernel
theorem dX4_ring_28 : decode cX4_ring 28 = .ok (.iconst (-1), 1) := by decide +kernel
theorem dX4_ring_29 : decode cX4_ring 29 = .ok (.ireturn, 1) := by decide +kernel
theorem dX4_segment_0 : decode cX4_segment 0 = .ok (.aload_n 0, 1) := by decide +kernel
theorem dX4_segment_1 : decode cX4_segment 1 = .ok (.iload_n 1, 1) := by decide +kernel
theorem dX4_segment_2 : decode cX4_segment 2 = .ok (.iconst 0, 1) := by decide +kernel
theorem dX4_segment_3 : decode cX4_segment 3 = .ok (.aload_n 0, 1) := by decide +kernel
theorem dX4_segment_4 : decode cX4_segment 4 = .ok (.getfield 68, 3) := by decide +kernel
theorem dX4_segment_7 : decode cX4_segment 7 = .ok (.iconst 1, 1) := by decide +kernel
theorem dX4_segment_8 : decode cX4_segment 8 = .ok (.isub, 1) := by decide +kernel
theorem dX4_segment_9 : decode cX4_segment 9 = .ok (.invokestatic 60, 3) := by decide +kernel
theorem dX4_segment_12 : decode cX4_segment 12 = .ok (.ifCond .eq 16, 3) := by decide +kernel
theorem dX4_segment_15 : decode cX4_segment 15 = .ok (.iload_n 2, 1) := by decide +kernel
theorem dX4_segment_16 : decode cX4_segment 16 = .ok (.iconst 0, 1) := by decide +kernel
theorem dX4_segment_17 : decode cX4_segment 17 = .ok (.iconst 3, 1) := by decide +kernel
theorem dX4_segment_18 : decode cX4_segment 18 = .ok (.invokestatic 60, 3) := by decide +kernel
theorem dX4_segment_21 : decode cX4_segment 21 = .ok (.ifCond .eq 7, 3) := by decide +kernel
theorem dX4_segment_24 : decode cX4_segment 24 = .ok (.iconst 0, 1) := by decide +kernel
theorem dX4_segment_25 : decode cX4_segment 25 = .ok (.goto 4, 3) := by decide +kernel
theorem dX4_segment_28 : decode cX4_segment 28 = .ok (.iconst 1, 1) := by decide +kernel
theorem dX4_segment_29 : decode cX4_segment 29 = .ok (.putfield 56, 3) := by decide +kernel
theorem dX4_segment_32 : decode cX4_segment 32 = .ok (.aload_n 0, 1) := by decide +kernel
theorem dX4_segment_33 : decode cX4_segment 33 = .ok (.getfield 56, 3) := by decide +kernel
theorem dX4_segment_36 : decode cX4_segment 36 = .ok (.ifCond .le 5, 3) := by decide +kernel
theorem dX4_segment_39 : decode cX4_segment 39 = .ok (.iconst 0, 1) := by decide +kernel
theorem dX4_segment_40 : decode cX4_segment 40 = .ok (.ireturn, 1) := by decide +kernel
theorem dX4_segment_41 : decode cX4_segment 41 = .ok (.iload_n 2, 1) := by decide +kernel
theorem dX4_segment_42 : decode cX4_segment 42 = .ok (.ifCond .ne 12, 3) := by decide +kernel
theorem dX4_segment_45 : decode cX4_segment 45 = .ok (.aload_n 0, 1) := by decide +kernel
theorem dX4_segment_46 : decode cX4_segment 46 = .ok (.getfield 38, 3) := by decide +kernel
theorem dX4_segment_49 : decode cX4_segment 49 = .ok (.iload_n 1, 1) := by decide +kernel
theorem dX4_segment_50 : decode cX4_segment 50 = .ok (.iaload, 1) := by decide +kernel
theorem dX4_segment_51 : decode cX4_segment 51 = .ok (.goto 37, 3) := by decide +kernel
theorem dX4_segment_54 : decode cX4_segment 54 = .ok (.iload_n 2, 1) := by decide +kernel
theorem dX4_segment_55 : decode cX4_segment 55 = .ok (.iconst 1, 1) := by decide +kernel
theorem dX4_segment_56 : decode cX4_segment 56 = .ok (.if_icmp .ne 12, 3) := by decide +kernel
theorem dX4_segment_59 : decode cX4_segment 59 = .ok (.aload_n 0, 1) := by decide +kernel
theorem dX4_segment_60 : decode cX4_segment 60 = .ok (.getfield 41, 3) := by decide +kernel
theorem dX4_segment_63 : decode cX4_segment 63 = .ok (.iload_n 1, 1) := by decide +kernel
theorem dX4_segment_64 : decode cX4_segment 64 = .ok (.iaload, 1) := by decide +kernel
theorem dX4_segment_65 : decode cX4_segment 65 = .ok (.goto 23, 3) := by decide +kernel
theorem dX4_segment_68 : decode cX4_segment 68 = .ok (.iload_n 2, 1) := by decide +kernel
theorem dX4_segment_69 : decode cX4_segment 69 = .ok (.iconst 2, 1) := by decide +kernel
theorem dX4_segment_70 : decode cX4_segment 70 = .ok (.if_icmp .ne 12, 3) := by decide +kernel
theorem dX4_segment_73 : decode cX4_segment 73 = .ok (.aload_n 0, 1) := by decide +kernel
theorem dX4_segment_74 : decode cX4_segment 74 = .ok (.getfield 44, 3) := by decide +kernel
theorem dX4_segment_77 : decode cX4_segment 77 = .ok (.iload_n 1, 1) := by decide +kernel
theorem dX4_segment_78 : decode cX4_segment 78 = .ok (.iaload, 1) := by decide +kernel
theorem dX4_segment_79 : decode cX4_segment 79 = .ok (.goto 9, 3) := by decide +kernel
theorem dX4_segment_82 : decode cX4_segment 82 = .ok (.aload_n 0, 1) := by decide +kernel
theorem dX4_segment_83 : decode cX4_segment 83 = .ok (.getfield 50, 3) := by decide +kernel
theorem dX4_segment_86 : decode cX4_segment 86 = .ok (.iload_n 1, 1) := by decide +kernel
theorem dX4_segment_87 : decode cX4_segment 87 = .ok (.iaload, 1) := by decide +kernel
theorem dX4_segment_88 : decode cX4_segment 88 = .ok (.ireturn, 1) := by decide +kernel
theorem dX4_out_0 : decode cX4_out 0 = .ok (.aload_n 0, 1) := by decide +kernel
theorem dX4_out_1 : decode cX4_out 1 = .ok (.iload_n 1, 1) := by decide +kernel
theorem dX4_out_2 : decode cX4_out 2 = .ok (.ifCond .eq 7, 3) := by decide +kernel
theorem dX4_out_5 : decode cX4_out 5 = .ok (.iconst 0, 1) := by decide +kernel
theorem dX4_out_6 : decode cX4_out 6 = .ok (.goto 4, 3) := by decide +kernel
theorem dX4_out_9 : decode cX4_out 9 = .ok (.iconst 1, 1) := by decide +kernel
theorem dX4_out_10 : decode cX4_out 10 = .ok (.putfield 56, 3) := by decide +kernel
theorem dX4_out_13 : decode cX4_out 13 = .ok (.iload_n 1, 1) := by decide +kernel
theorem dX4_out_14 : decode cX4_out 14 = .ok (.ifCond .ne 7, 3) := by decide +kernel
theorem dX4_out_17 : decode cX4_out 17 = .ok (.iconst 1, 1) := by decide +kernel
theorem dX4_out_18 : decode cX4_out 18 = .ok (.goto 4, 3) := by decide +kernel
theorem dX4_out_21 : decode cX4_out 21 = .ok (.iconst 0, 1) := by decide +kernel
theorem dX4_out_22 : decode cX4_out 22 = .ok (.ireturn, 1) := by decide +kernel
theorem dX4_levelAt_0 : decode cX4_levelAt 0 = .ok (.iconst 0, 1) := by decide +kernel
theorem dX4_levelAt_1 : decode cX4_levelAt 1 = .ok (.istore_n 3, 1) := by decide +kernel
theorem dX4_levelAt_2 : decode cX4_levelAt 2 = .ok (.iconst 0, 1) := by decide +kernel
theorem dX4_levelAt_3 : decode cX4_levelAt 3 = .ok (.istore 4, 2) := by decide +kernel
theorem dX4_levelAt_5 : decode cX4_levelAt 5 = .ok (.iload 4, 2) := by decide +kernel
theorem dX4_levelAt_7 : decode cX4_levelAt 7 = .ok (.aload_n 0, 1) := by decide +kernel
theorem dX4_levelAt_8 : decode cX4_levelAt 8 = .ok (.getfield 68, 3) := by decide +kernel
theorem dX4_levelAt_11 : decode cX4_levelAt 11 = .ok (.if_icmp .ge 53, 3) := by decide +kernel
theorem dX4_levelAt_14 : decode cX4_levelAt 14 = .ok (.aload_n 0, 1) := by decide +kernel
theorem dX4_levelAt_15 : decode cX4_levelAt 15 = .ok (.getfield 50, 3) := by decide +kernel
theorem dX4_levelAt_18 : decode cX4_levelAt 18 = .ok (.iload 4, 2) := by decide +kernel
theorem dX4_levelAt_20 : decode cX4_levelAt 20 = .ok (.iaload, 1) := by decide +kernel
theorem dX4_levelAt_21 : decode cX4_levelAt 21 = .ok (.iload_n 1, 1) := by decide +kernel
theorem dX4_levelAt_22 : decode cX4_levelAt 22 = .ok (.if_icmp .ne 34, 3) := by decide +kernel
theorem dX4_levelAt_25 : decode cX4_levelAt 25 = .ok (.iload_n 2, 1) := by decide +kernel
theorem dX4_levelAt_26 : decode cX4_levelAt 26 = .ok (.aload_n 0, 1) := by decide +kernel
theorem dX4_levelAt_27 : decode cX4_levelAt 27 = .ok (.getfield 41, 3) := by decide +kernel
theorem dX4_levelAt_30 : decode cX4_levelAt 30 = .ok (.iload 4, 2) := by decide +kernel
theorem dX4_levelAt_32 : decode cX4_levelAt 32 = .ok (.iaload, 1) := by decide +kernel
theorem dX4_levelAt_33 : decode cX4_levelAt 33 = .ok (.aload_n 0, 1) := by decide +kernel
theorem dX4_levelAt_34 : decode cX4_levelAt 34 = .ok (.getfield 44, 3) := by decide +kernel
theorem dX4_levelAt_37 : decode cX4_levelAt 37 = .ok (.iload 4, 2) := by decide +kernel
theorem dX4_levelAt_39 : decode cX4_levelAt 39 = .ok (.iaload, 1) := by decide +kernel
theorem dX4_levelAt_40 : decode cX4_levelAt 40 = .ok (.invokestatic 60, 3) := by decide +kernel
theorem dX4_levelAt_43 : decode cX4_levelAt 43 = .ok (.ifCond .eq 13, 3) := by decide +kernel
theorem dX4_levelAt_46 : decode cX4_levelAt 46 = .ok (.aload_n 0, 1) := by decide +kernel
theorem dX4_levelAt_47 : decode cX4_levelAt 47 = .ok (.getfield 38, 3) := by decide +kernel
theorem dX4_levelAt_50 : decode cX4_levelAt 50 = .ok (.iload 4, 2) := by decide +kernel
theorem dX4_levelAt_52 : decode cX4_levelAt 52 = .ok (.iaload, 1) := by decide +kernel
theorem dX4_levelAt_53 : decode cX4_levelAt 53 = .ok (.goto 4, 3) := by decide +kernel
theorem dX4_levelAt_56 : decode cX4_levelAt 56 = .ok (.iload_n 3, 1) := by decide +kernel
theorem dX4_levelAt_57 : decode cX4_levelAt 57 = .ok (.istore_n 3, 1) := by decide +kernel
theorem dX4_levelAt_58 : decode cX4_levelAt 58 = .ok (.iinc 4 1, 3) := by decide +kernel
theorem dX4_levelAt_61 : decode cX4_levelAt 61 = .ok (.goto (-56), 3) := by decide +kernel
theorem dX4_levelAt_64 : decode cX4_levelAt 64 = .ok (.iload_n 3, 1) := by decide +kernel
theorem dX4_levelAt_65 : decode cX4_levelAt 65 = .ok (.ireturn, 1) := by decide +kernel
theorem dX4_level_0 : decode cX4_level 0 = .ok (.aload_n 0, 1) := by decide +kernel
theorem dX4_level_1 : decode cX4_level 1 = .ok (.iload_n 1, 1) := by decide +kernel
theorem dX4_level_2 : decode cX4_level 2 = .ok (.iconst 0, 1) := by decide +kernel
theorem dX4_level_3 : decode cX4_level 3 = .ok (.aload_n 0, 1) := by decide +kernel
theorem dX4_level_4 : decode cX4_level 4 = .ok (.getfield 71, 3) := by decide +kernel
theorem dX4_level_7 : decode cX4_level 7 = .ok (.iconst 1, 1) := by decide +kernel
theorem dX4_level_8 : decode cX4_level 8 = .ok (.isub, 1) := by decide +kernel
theorem dX4_level_9 : decode cX4_level 9 = .ok (.invokestatic 60, 3) := by decide +kernel
theorem dX4_level_12 : decode cX4_level 12 = .ok (.ifCond .eq 17, 3) := by decide +kernel
theorem dX4_level_15 : decode cX4_level 15 = .ok (.iload_n 2, 1) := by decide +kernel
theorem dX4_level_16 : decode cX4_level 16 = .ok (.iconst 0, 1) := by decide +kernel
theorem dX4_level_17 : decode cX4_level 17 = .ok (.bipush 19, 2) := by decide +kernel
theorem dX4_level_19 : decode cX4_level 19 = .ok (.invokestatic 60, 3) := by decide +kernel
theorem dX4_level_22 : decode cX4_level 22 = .ok (.ifCond .eq 7, 3) := by decide +kernel
theorem dX4_level_25 : decode cX4_level 25 = .ok (.iconst 1, 1) := by decide +kernel
theorem dX4_level_26 : decode cX4_level 26 = .ok (.goto 4, 3) := by decide +kernel
theorem dX4_level_29 : decode cX4_level 29 = .ok (.iconst 0, 1) := by decide +kernel
theorem dX4_level_30 : decode cX4_level 30 = .ok (.invokevirtual 156, 3) := by decide +kernel
theorem dX4_level_33 : decode cX4_level 33 = .ok (.ifCond .eq 7, 3) := by decide +kernel
theorem dX4_level_36 : decode cX4_level 36 = .ok (.iconst 0, 1) := by decide +kernel
theorem dX4_level_37 : decode cX4_level 37 = .ok (.goto 9, 3) := by decide +kernel
theorem dX4_level_40 : decode cX4_level 40 = .ok (.aload_n 0, 1) := by decide +kernel
theorem dX4_level_41 : decode cX4_level 41 = .ok (.iload_n 1, 1) := by decide +kernel
theorem dX4_level_42 : decode cX4_level 42 = .ok (.iload_n 2, 1) := by decide +kernel
theorem dX4_level_43 : decode cX4_level 43 = .ok (.invokevirtual 160, 3) := by decide +kernel
theorem dX4_level_46 : decode cX4_level 46 = .ok (.ireturn, 1) := by decide +kernel
theorem dX4_lies_0 : decode cX4_lies 0 = .ok (.iconst 0, 1) := by decide +kernel
theorem dX4_lies_1 : decode cX4_lies 1 = .ok (.istore 4, 2) := by decide +kernel
theorem dX4_lies_3 : decode cX4_lies 3 = .ok (.iconst 0, 1) := by decide +kernel
theorem dX4_lies_4 : decode cX4_lies 4 = .ok (.istore 5, 2) := by decide +kernel
theorem dX4_lies_6 : decode cX4_lies 6 = .ok (.iload 5, 2) := by decide +kernel
theorem dX4_lies_8 : decode cX4_lies 8 = .ok (.aload_n 0, 1) := by decide +kernel
theorem dX4_lies_9 : decode cX4_lies 9 = .ok (.getfield 68, 3) := by decide +kernel
theorem dX4_lies_12 : decode cX4_lies 12 = .ok (.if_icmp .ge 58, 3) := by decide +kernel
theorem dX4_lies_15 : decode cX4_lies 15 = .ok (.iload 4, 2) := by decide +kernel
theorem dX4_lies_17 : decode cX4_lies 17 = .ok (.ifCond .ne 40, 3) := by decide +kernel
theorem dX4_lies_20 : decode cX4_lies 20 = .ok (.aload_n 0, 1) := by decide +kernel
theorem dX4_lies_21 : decode cX4_lies 21 = .ok (.getfield 38, 3) := by decide +kernel
theorem dX4_lies_24 : decode cX4_lies 24 = .ok (.iload 5, 2) := by decide +kernel
theorem dX4_lies_26 : decode cX4_lies 26 = .ok (.iaload, 1) := by decide +kernel
theorem dX4_lies_27 : decode cX4_lies 27 = .ok (.iload_n 1, 1) := by decide +kernel
theorem dX4_lies_28 : decode cX4_lies 28 = .ok (.if_icmp .ne 33, 3) := by decide +kernel
theorem dX4_lies_31 : decode cX4_lies 31 = .ok (.aload_n 0, 1) := by decide +kernel
theorem dX4_lies_32 : decode cX4_lies 32 = .ok (.getfield 50, 3) := by decide +kernel
theorem dX4_lies_35 : decode cX4_lies 35 = .ok (.iload 5, 2) := by decide +kernel
theorem dX4_lies_37 : decode cX4_lies 37 = .ok (.iaload, 1) := by decide +kernel
theorem dX4_lies_38 : decode cX4_lies 38 = .ok (.iload_n 3, 1) := by decide +kernel
theorem dX4_lies_39 : decode cX4_lies 39 = .ok (.if_icmp .ne 22, 3) := by decide +kernel
theorem dX4_lies_42 : decode cX4_lies 42 = .ok (.aload_n 0, 1) := by decide +kernel
theorem dX4_lies_43 : decode cX4_lies 43 = .ok (.getfield 47, 3) := by decide +kernel
theorem dX4_lies_46 : decode cX4_lies 46 = .ok (.iload 5, 2) := by decide +kernel
theorem dX4_lies_48 : decode cX4_lies 48 = .ok (.iaload, 1) := by decide +kernel
theorem dX4_lies_49 : decode cX4_lies 49 = .ok (.iload_n 2, 1) := by decide +kernel
theorem dX4_lies_50 : decode cX4_lies 50 = .ok (.ishr, 1) := by decide +kernel
theorem dX4_lies_51 : decode cX4_lies 51 = .ok (.iconst 1, 1) := by decide +kernel
theorem dX4_lies_52 : decode cX4_lies 52 = .ok (.iand, 1) := by decide +kernel
theorem dX4_lies_53 : decode cX4_lies 53 = .ok (.iconst 1, 1) := by decide +kernel
theorem dX4_lies_54 : decode cX4_lies 54 = .ok (.if_icmp .ne 7, 3) := by decide +kernel
theorem dX4_lies_57 : decode cX4_lies 57 = .ok (.iconst 1, 1) := by decide +kernel
theorem dX4_lies_58 : decode cX4_lies 58 = .ok (.goto 4, 3) := by decide +kernel
theorem dX4_lies_61 : decode cX4_lies 61 = .ok (.iconst 0, 1) := by decide +kernel
theorem dX4_lies_62 : decode cX4_lies 62 = .ok (.istore 4, 2) := by decide +kernel
theorem dX4_lies_64 : decode cX4_lies 64 = .ok (.iinc 5 1, 3) := by decide +kernel
theorem dX4_lies_67 : decode cX4_lies 67 = .ok (.goto (-61), 3) := by decide +kernel
theorem dX4_lies_70 : decode cX4_lies 70 = .ok (.iload 4, 2) := by decide +kernel
theorem dX4_lies_72 : decode cX4_lies 72 = .ok (.ireturn, 1) := by decide +kernel
theorem dX4_uprightAt_0 : decode cX4_uprightAt 0 = .ok (.aload_n 0, 1) := by decide +kernel
theorem dX4_uprightAt_1 : decode cX4_uprightAt 1 = .ok (.getfield 7, 3) := by decide +kernel
theorem dX4_uprightAt_4 : decode cX4_uprightAt 4 = .ok (.iload_n 1, 1) := by decide +kernel
theorem dX4_uprightAt_5 : decode cX4_uprightAt 5 = .ok (.iaload, 1) := by decide +kernel
theorem dX4_uprightAt_6 : decode cX4_uprightAt 6 = .ok (.istore_n 3, 1) := by decide +kernel
theorem dX4_uprightAt_7 : decode cX4_uprightAt 7 = .ok (.aload_n 0, 1) := by decide +kernel
theorem dX4_uprightAt_8 : decode cX4_uprightAt 8 = .ok (.getfield 7, 3) := by decide +kernel
theorem dX4_uprightAt_11 : decode cX4_uprightAt 11 = .ok (.bipush 20, 2) := by decide +kernel
theorem dX4_uprightAt_13 : decode cX4_uprightAt 13 = .ok (.iload_n 1, 1) := by decide +kernel
theorem dX4_uprightAt_14 : decode cX4_uprightAt 14 = .ok (.iadd, 1) := by decide +kernel
theorem dX4_uprightAt_15 : decode cX4_uprightAt 15 = .ok (.iaload, 1) := by decide +kernel
theorem dX4_uprightAt_16 : decode cX4_uprightAt 16 = .ok (.istore 4, 2) := by decide +kernel
theorem dX4_uprightAt_18 : decode cX4_uprightAt 18 = .ok (.iload_n 3, 1) := by decide +kernel
theorem dX4_uprightAt_19 : decode cX4_uprightAt 19 = .ok (.iload 4, 2) := by decide +kernel
theorem dX4_uprightAt_21 : decode cX4_uprightAt 21 = .ok (.if_icmp .ne 5, 3) := by decide +kernel
theorem dX4_uprightAt_24 : decode cX4_uprightAt 24 = .ok (.iload_n 3, 1) := by decide +kernel
theorem dX4_uprightAt_25 : decode cX4_uprightAt 25 = .ok (.ireturn, 1) := by decide +kernel
theorem dX4_uprightAt_26 : decode cX4_uprightAt 26 = .ok (.iload_n 2, 1) := by decide +kernel
theorem dX4_uprightAt_27 : decode cX4_uprightAt 27 = .ok (.iconst (-1), 1) := by decide +kernel
theorem dX4_uprightAt_28 : decode cX4_uprightAt 28 = .ok (.if_icmp .ne 7, 3) := by decide +kernel
theorem dX4_uprightAt_31 : decode cX4_uprightAt 31 = .ok (.iconst 1, 1) := by decide +kernel
theorem dX4_uprightAt_32 : decode cX4_uprightAt 32 = .ok (.goto 4, 3) := by decide +kernel
theorem dX4_uprightAt_35 : decode cX4_uprightAt 35 = .ok (.iconst 0, 1) := by decide +kernel
theorem dX4_uprightAt_36 : decode cX4_uprightAt 36 = .ok (.istore 5, 2) := by decide +kernel
theorem dX4_uprightAt_38 : decode cX4_uprightAt 38 = .ok (.iload_n 2, 1) := by decide +kernel
theorem dX4_uprightAt_39 : decode cX4_uprightAt 39 = .ok (.aload_n 0, 1) := by decide +kernel
theorem dX4_uprightAt_40 : decode cX4_uprightAt 40 = .ok (.getfield 71, 3) := by decide +kernel
theorem dX4_uprightAt_43 : decode cX4_uprightAt 43 = .ok (.if_icmp .ne 7, 3) := by decide +kernel
theorem dX4_uprightAt_46 : decode cX4_uprightAt 46 = .ok (.iconst 1, 1) := by decide +kernel
theorem dX4_uprightAt_47 : decode cX4_uprightAt 47 = .ok (.goto 4, 3) := by decide +kernel
theorem dX4_uprightAt_50 : decode cX4_uprightAt 50 = .ok (.iconst 0, 1) := by decide +kernel
theorem dX4_uprightAt_51 : decode cX4_uprightAt 51 = .ok (.istore 6, 2) := by decide +kernel
theorem dX4_uprightAt_53 : decode cX4_uprightAt 53 = .ok (.iconst 0, 1) := by decide +kernel
theorem dX4_uprightAt_54 : decode cX4_uprightAt 54 = .ok (.istore 7, 2) := by decide +kernel
theorem dX4_uprightAt_56 : decode cX4_uprightAt 56 = .ok (.iload 7, 2) := by decide +kernel
theorem dX4_uprightAt_58 : decode cX4_uprightAt 58 = .ok (.aload_n 0, 1) := by decide +kernel
theorem dX4_uprightAt_59 : decode cX4_uprightAt 59 = .ok (.getfield 71, 3) := by decide +kernel
theorem dX4_uprightAt_62 : decode cX4_uprightAt 62 = .ok (.if_icmp .ge 68, 3) := by decide +kernel
theorem dX4_uprightAt_65 : decode cX4_uprightAt 65 = .ok (.iload 5, 2) := by decide +kernel
theorem dX4_uprightAt_67 : decode cX4_uprightAt 67 = .ok (.ifCond .ne 20, 3) := by decide +kernel
theorem dX4_uprightAt_70 : decode cX4_uprightAt 70 = .ok (.iload 7, 2) := by decide +kernel
theorem dX4_uprightAt_72 : decode cX4_uprightAt 72 = .ok (.iload_n 2, 1) := by decide +kernel
theorem dX4_uprightAt_73 : decode cX4_uprightAt 73 = .ok (.if_icmp .lt 18, 3) := by decide +kernel
theorem dX4_uprightAt_76 : decode cX4_uprightAt 76 = .ok (.aload_n 0, 1) := by decide +kernel
theorem dX4_uprightAt_77 : decode cX4_uprightAt 77 = .ok (.iload_n 3, 1) := by decide +kernel
theorem dX4_uprightAt_78 : decode cX4_uprightAt 78 = .ok (.iload_n 1, 1) := by decide +kernel
theorem dX4_uprightAt_79 : decode cX4_uprightAt 79 = .ok (.iload 7, 2) := by decide +kernel
theorem dX4_uprightAt_81 : decode cX4_uprightAt 81 = .ok (.invokevirtual 164, 3) := by decide +kernel
theorem dX4_uprightAt_84 : decode cX4_uprightAt 84 = .ok (.ifCond .eq 7, 3) := by decide +kernel
theorem dX4_uprightAt_87 : decode cX4_uprightAt 87 = .ok (.iconst 1, 1) := by decide +kernel
theorem dX4_uprightAt_88 : decode cX4_uprightAt 88 = .ok (.goto 4, 3) := by decide +kernel
theorem dX4_uprightAt_91 : decode cX4_uprightAt 91 = .ok (.iconst 0, 1) := by decide +kernel
theorem dX4_uprightAt_92 : decode cX4_uprightAt 92 = .ok (.istore 5, 2) := by decide +kernel
theorem dX4_uprightAt_94 : decode cX4_uprightAt 94 = .ok (.iload 6, 2) := by decide +kernel
theorem dX4_uprightAt_96 : decode cX4_uprightAt 96 = .ok (.ifCond .ne 21, 3) := by decide +kernel
theorem dX4_uprightAt_99 : decode cX4_uprightAt 99 = .ok (.iload 7, 2) := by decide +kernel
theorem dX4_uprightAt_101 : decode cX4_uprightAt 101 = .ok (.iload_n 2, 1) := by decide +kernel
theorem dX4_uprightAt_102 : decode cX4_uprightAt 102 = .ok (.if_icmp .gt 19, 3) := by decide +kernel
theorem dX4_uprightAt_105 : decode cX4_uprightAt 105 = .ok (.aload_n 0, 1) := by decide +kernel
theorem dX4_uprightAt_106 : decode cX4_uprightAt 106 = .ok (.iload 4, 2) := by decide +kernel
theorem dX4_uprightAt_108 : decode cX4_uprightAt 108 = .ok (.iload_n 1, 1) := by decide +kernel
theorem dX4_uprightAt_109 : decode cX4_uprightAt 109 = .ok (.iload 7, 2) := by decide +kernel
theorem dX4_uprightAt_111 : decode cX4_uprightAt 111 = .ok (.invokevirtual 164, 3) := by decide +kernel
theorem dX4_uprightAt_114 : decode cX4_uprightAt 114 = .ok (.ifCond .eq 7, 3) := by decide +kernel
theorem dX4_uprightAt_117 : decode cX4_uprightAt 117 = .ok (.iconst 1, 1) := by decide +kernel
theorem dX4_uprightAt_118 : decode cX4_uprightAt 118 = .ok (.goto 4, 3) := by decide +kernel
theorem dX4_uprightAt_121 : decode cX4_uprightAt 121 = .ok (.iconst 0, 1) := by decide +kernel
theorem dX4_uprightAt_122 : decode cX4_uprightAt 122 = .ok (.istore 6, 2) := by decide +kernel
theorem dX4_uprightAt_124 : decode cX4_uprightAt 124 = .ok (.iinc 7 1, 3) := by decide +kernel
theorem dX4_uprightAt_127 : decode cX4_uprightAt 127 = .ok (.goto (-71), 3) := by decide +kernel
theorem dX4_uprightAt_130 : decode cX4_uprightAt 130 = .ok (.iload_n 3, 1) := by decide +kernel
theorem dX4_uprightAt_131 : decode cX4_uprightAt 131 = .ok (.ifCond .le 12, 3) := by decide +kernel
theorem dX4_uprightAt_134 : decode cX4_uprightAt 134 = .ok (.iload 5, 2) := by decide +kernel
theorem dX4_uprightAt_136 : decode cX4_uprightAt 136 = .ok (.ifCond .eq 7, 3) := by decide +kernel
theorem dX4_uprightAt_139 : decode cX4_uprightAt 139 = .ok (.iload_n 3, 1) := by decide +kernel
theorem dX4_uprightAt_140 : decode cX4_uprightAt 140 = .ok (.goto 19, 3) := by decide +kernel
theorem dX4_uprightAt_143 : decode cX4_uprightAt 143 = .ok (.iload 4, 2) := by decide +kernel
theorem dX4_uprightAt_145 : decode cX4_uprightAt 145 = .ok (.ifCond .le 13, 3) := by decide +kernel
theorem dX4_uprightAt_148 : decode cX4_uprightAt 148 = .ok (.iload 6, 2) := by decide +kernel
theorem dX4_uprightAt_150 : decode cX4_uprightAt 150 = .ok (.ifCond .eq 8, 3) := by decide +kernel
theorem dX4_uprightAt_153 : decode cX4_uprightAt 153 = .ok (.iload 4, 2) := by decide +kernel
theorem dX4_uprightAt_155 : decode cX4_uprightAt 155 = .ok (.goto 4, 3) := by decide +kernel
theorem dX4_uprightAt_158 : decode cX4_uprightAt 158 = .ok (.iconst 0, 1) := by decide +kernel
theorem dX4_uprightAt_159 : decode cX4_uprightAt 159 = .ok (.ireturn, 1) := by decide +kernel
theorem dX4_upright_0 : decode cX4_upright 0 = .ok (.aload_n 0, 1) := by decide +kernel
theorem dX4_upright_1 : decode cX4_upright 1 = .ok (.aload_n 0, 1) := by decide +kernel
theorem dX4_upright_2 : decode cX4_upright 2 = .ok (.getfield 64, 3) := by decide +kernel
theorem dX4_upright_5 : decode cX4_upright 5 = .ok (.ifCond .eq 29, 3) := by decide +kernel
theorem dX4_upright_8 : decode cX4_upright 8 = .ok (.iload_n 1, 1) := by decide +kernel
theorem dX4_upright_9 : decode cX4_upright 9 = .ok (.iconst 0, 1) := by decide +kernel
theorem dX4_upright_10 : decode cX4_upright 10 = .ok (.bipush 19, 2) := by decide +kernel
theorem dX4_upright_12 : decode cX4_upright 12 = .ok (.invokestatic 60, 3) := by decide +kernel
theorem dX4_upright_15 : decode cX4_upright 15 = .ok (.ifCond .eq 19, 3) := by decide +kernel
theorem dX4_upright_18 : decode cX4_upright 18 = .ok (.iload_n 2, 1) := by decide +kernel
theorem dX4_upright_19 : decode cX4_upright 19 = .ok (.iconst (-1), 1) := by decide +kernel
theorem dX4_upright_20 : decode cX4_upright 20 = .ok (.aload_n 0, 1) := by decide +kernel
theorem dX4_upright_21 : decode cX4_upright 21 = .ok (.getfield 71, 3) := by decide +kernel
theorem dX4_upright_24 : decode cX4_upright 24 = .ok (.invokestatic 60, 3) := by decide +kernel
theorem dX4_upright_27 : decode cX4_upright 27 = .ok (.ifCond .eq 7, 3) := by decide +kernel
theorem dX4_upright_30 : decode cX4_upright 30 = .ok (.iconst 1, 1) := by decide +kernel
theorem dX4_upright_31 : decode cX4_upright 31 = .ok (.goto 4, 3) := by decide +kernel
theorem dX4_upright_34 : decode cX4_upright 34 = .ok (.iconst 0, 1) := by decide +kernel
theorem dX4_upright_35 : decode cX4_upright 35 = .ok (.invokevirtual 156, 3) := by decide +kernel
theorem dX4_upright_38 : decode cX4_upright 38 = .ok (.ifCond .eq 7, 3) := by decide +kernel
theorem dX4_upright_41 : decode cX4_upright 41 = .ok (.iconst 0, 1) := by decide +kernel
theorem dX4_upright_42 : decode cX4_upright 42 = .ok (.goto 9, 3) := by decide +kernel
theorem dX4_upright_45 : decode cX4_upright 45 = .ok (.aload_n 0, 1) := by decide +kernel
theorem dX4_upright_46 : decode cX4_upright 46 = .ok (.iload_n 1, 1) := by decide +kernel
theorem dX4_upright_47 : decode cX4_upright 47 = .ok (.iload_n 2, 1) := by decide +kernel
theorem dX4_upright_48 : decode cX4_upright 48 = .ok (.invokevirtual 167, 3) := by decide +kernel
theorem dX4_upright_51 : decode cX4_upright 51 = .ok (.ireturn, 1) := by decide +kernel
theorem dX4_viaAt_0 : decode cX4_viaAt 0 = .ok (.aload_n 0, 1) := by decide +kernel
theorem dX4_viaAt_1 : decode cX4_viaAt 1 = .ok (.iload_n 1, 1) := by decide +kernel
theorem dX4_viaAt_2 : decode cX4_viaAt 2 = .ok (.iload_n 2, 1) := by decide +kernel
theorem dX4_viaAt_3 : decode cX4_viaAt 3 = .ok (.invokevirtual 160, 3) := by decide +kernel
theorem dX4_viaAt_6 : decode cX4_viaAt 6 = .ok (.istore_n 3, 1) := by decide +kernel
theorem dX4_viaAt_7 : decode cX4_viaAt 7 = .ok (.iload_n 3, 1) := by decide +kernel
theorem dX4_viaAt_8 : decode cX4_viaAt 8 = .ok (.ifCond .le 27, 3) := by decide +kernel
theorem dX4_viaAt_11 : decode cX4_viaAt 11 = .ok (.aload_n 0, 1) := by decide +kernel
theorem dX4_viaAt_12 : decode cX4_viaAt 12 = .ok (.iload_n 2, 1) := by decide +kernel
theorem dX4_viaAt_13 : decode cX4_viaAt 13 = .ok (.iload_n 1, 1) := by decide +kernel
theorem dX4_viaAt_14 : decode cX4_viaAt 14 = .ok (.invokevirtual 167, 3) := by decide +kernel
theorem dX4_viaAt_17 : decode cX4_viaAt 17 = .ok (.iload_n 3, 1) := by decide +kernel
theorem dX4_viaAt_18 : decode cX4_viaAt 18 = .ok (.if_icmp .ne 17, 3) := by decide +kernel
theorem dX4_viaAt_21 : decode cX4_viaAt 21 = .ok (.aload_n 0, 1) := by decide +kernel
theorem dX4_viaAt_22 : decode cX4_viaAt 22 = .ok (.iload_n 3, 1) := by decide +kernel
theorem dX4_viaAt_23 : decode cX4_viaAt 23 = .ok (.iload_n 2, 1) := by decide +kernel
theorem dX4_viaAt_24 : decode cX4_viaAt 24 = .ok (.iload_n 1, 1) := by decide +kernel
theorem dX4_viaAt_25 : decode cX4_viaAt 25 = .ok (.invokevirtual 164, 3) := by decide +kernel
theorem dX4_viaAt_28 : decode cX4_viaAt 28 = .ok (.ifCond .eq 7, 3) := by decide +kernel
theorem dX4_viaAt_31 : decode cX4_viaAt 31 = .ok (.iconst 1, 1) := by decide +kernel
theorem dX4_viaAt_32 : decode cX4_viaAt 32 = .ok (.goto 4, 3) := by decide +kernel
theorem dX4_viaAt_35 : decode cX4_viaAt 35 = .ok (.iconst 0, 1) := by decide +kernel
theorem dX4_viaAt_36 : decode cX4_viaAt 36 = .ok (.ireturn, 1) := by decide +kernel
theorem dX4_via_0 : decode cX4_via 0 = .ok (.aload_n 0, 1) := by decide +kernel
theorem dX4_via_1 : decode cX4_via 1 = .ok (.iload_n 1, 1) := by decide +kernel
theorem dX4_via_2 : decode cX4_via 2 = .ok (.iconst 0, 1) := by decide +kernel
theorem dX4_via_3 : decode cX4_via 3 = .ok (.aload_n 0, 1) := by decide +kernel
theorem dX4_via_4 : decode cX4_via 4 = .ok (.getfield 71, 3) := by decide +kernel
theorem dX4_via_7 : decode cX4_via 7 = .ok (.iconst 1, 1) := by decide +kernel
theorem dX4_via_8 : decode cX4_via 8 = .ok (.isub, 1) := by decide +kernel
theorem dX4_via_9 : decode cX4_via 9 = .ok (.invokestatic 60, 3) := by decide +kernel
theorem dX4_via_12 : decode cX4_via 12 = .ok (.ifCond .eq 17, 3) := by decide +kernel
theorem dX4_via_15 : decode cX4_via 15 = .ok (.iload_n 2, 1) := by decide +kernel
theorem dX4_via_16 : decode cX4_via 16 = .ok (.iconst 0, 1) := by decide +kernel
theorem dX4_via_17 : decode cX4_via 17 = .ok (.bipush 19, 2) := by decide +kernel
theorem dX4_via_19 : decode cX4_via 19 = .ok (.invokestatic 60, 3) := by decide +kernel
theorem dX4_via_22 : decode cX4_via 22 = .ok (.ifCond .eq 7, 3) := by decide +kernel
theorem dX4_via_25 : decode cX4_via 25 = .ok (.iconst 1, 1) := by decide +kernel
theorem dX4_via_26 : decode cX4_via 26 = .ok (.goto 4, 3) := by decide +kernel
theorem dX4_via_29 : decode cX4_via 29 = .ok (.iconst 0, 1) := by decide +kernel
theorem dX4_via_30 : decode cX4_via 30 = .ok (.invokevirtual 156, 3) := by decide +kernel
theorem dX4_via_33 : decode cX4_via 33 = .ok (.ifCond .ne 16, 3) := by decide +kernel
theorem dX4_via_36 : decode cX4_via 36 = .ok (.aload_n 0, 1) := by decide +kernel
theorem dX4_via_37 : decode cX4_via 37 = .ok (.iload_n 1, 1) := by decide +kernel
theorem dX4_via_38 : decode cX4_via 38 = .ok (.iload_n 2, 1) := by decide +kernel
theorem dX4_via_39 : decode cX4_via 39 = .ok (.invokevirtual 170, 3) := by decide +kernel
theorem dX4_via_42 : decode cX4_via 42 = .ok (.ifCond .eq 7, 3) := by decide +kernel
theorem dX4_via_45 : decode cX4_via 45 = .ok (.iconst 1, 1) := by decide +kernel
theorem dX4_via_46 : decode cX4_via 46 = .ok (.goto 4, 3) := by decide +kernel
theorem dX4_via_49 : decode cX4_via 49 = .ok (.iconst 0, 1) := by decide +kernel
theorem dX4_via_50 : decode cX4_via 50 = .ok (.ireturn, 1) := by decide +kernel
theorem dX4_density_0 : decode cX4_density 0 = .ok (.aload_n 0, 1) := by decide +kernel
theorem dX4_density_1 : decode cX4_density 1 = .ok (.iconst 0, 1) := by decide +kernel
theorem dX4_density_2 : decode cX4_density 2 = .ok (.putfield 56, 3) := by decide +kernel
theorem dX4_density_5 : decode cX4_density 5 = .ok (.iconst 0, 1) := by decide +kernel
theorem dX4_density_6 : decode cX4_density 6 = .ok (.istore_n 1, 1) := by decide +kernel
theorem dX4_density_7 : decode cX4_density 7 = .ok (.iconst 0, 1) := by decide +kernel
theorem dX4_density_8 : decode cX4_density 8 = .ok (.istore_n 2, 1) := by decide +kernel
theorem dX4_density_9 : decode cX4_density 9 = .ok (.iload_n 2, 1) := by decide +kernel
theorem dX4_density_10 : decode cX4_density 10 = .ok (.bipush 20, 2) := by decide +kernel
theorem dX4_density_12 : decode cX4_density 12 = .ok (.if_icmp .ge 93, 3) := by decide +kernel
theorem dX4_density_15 : decode cX4_density 15 = .ok (.iconst 0, 1) := by decide +kernel
theorem dX4_density_16 : decode cX4_density 16 = .ok (.istore_n 3, 1) := by decide +kernel
theorem dX4_density_17 : decode cX4_density 17 = .ok (.iconst 1, 1) := by decide +kernel
theorem dX4_density_18 : decode cX4_density 18 = .ok (.istore 4, 2) := by decide +kernel
theorem dX4_density_20 : decode cX4_density 20 = .ok (.iload 4, 2) := by decide +kernel
theorem dX4_density_22 : decode cX4_density 22 = .ok (.bipush 9, 2) := by decide +kernel
theorem dX4_density_24 : decode cX4_density 24 = .ok (.if_icmp .gt 64, 3) := by decide +kernel
theorem dX4_density_27 : decode cX4_density 27 = .ok (.aload_n 0, 1) := by decide +kernel
theorem dX4_density_28 : decode cX4_density 28 = .ok (.iload 4, 2) := by decide +kernel
theorem dX4_density_30 : decode cX4_density 30 = .ok (.invokevirtual 87, 3) := by decide +kernel
theorem dX4_density_33 : decode cX4_density 33 = .ok (.iconst 3, 1) := by decide +kernel
theorem dX4_density_34 : decode cX4_density 34 = .ok (.if_icmp .ne 32, 3) := by decide +kernel
theorem dX4_density_37 : decode cX4_density 37 = .ok (.iload_n 2, 1) := by decide +kernel
theorem dX4_density_38 : decode cX4_density 38 = .ok (.aload_n 0, 1) := by decide +kernel
theorem dX4_density_39 : decode cX4_density 39 = .ok (.iload 4, 2) := by decide +kernel
theorem dX4_density_41 : decode cX4_density 41 = .ok (.invokevirtual 78, 3) := by decide +kernel
theorem dX4_density_44 : decode cX4_density 44 = .ok (.invokestatic 81, 3) := by decide +kernel
theorem dX4_density_47 : decode cX4_density 47 = .ok (.aload_n 0, 1) := by decide +kernel
theorem dX4_density_48 : decode cX4_density 48 = .ok (.iload 4, 2) := by decide +kernel
theorem dX4_density_50 : decode cX4_density 50 = .ok (.invokevirtual 78, 3) := by decide +kernel
theorem dX4_density_53 : decode cX4_density 53 = .ok (.invokestatic 84, 3) := by decide +kernel
theorem dX4_density_56 : decode cX4_density 56 = .ok (.invokestatic 60, 3) := by decide +kernel
theorem dX4_density_59 : decode cX4_density 59 = .ok (.ifCond .eq 7, 3) := by decide +kernel
theorem dX4_density_62 : decode cX4_density 62 = .ok (.iconst 1, 1) := by decide +kernel
theorem dX4_density_63 : decode cX4_density 63 = .ok (.goto 4, 3) := by decide +kernel
theorem dX4_density_66 : decode cX4_density 66 = .ok (.iconst 0, 1) := by decide +kernel
theorem dX4_density_67 : decode cX4_density 67 = .ok (.istore 5, 2) := by decide +kernel
theorem dX4_density_69 : decode cX4_density 69 = .ok (.iload 5, 2) := by decide +kernel
theorem dX4_density_71 : decode cX4_density 71 = .ok (.ifCond .eq 9, 3) := by decide +kernel
theorem dX4_density_74 : decode cX4_density 74 = .ok (.iload_n 3, 1) := by decide +kernel
theorem dX4_density_75 : decode cX4_density 75 = .ok (.iconst 1, 1) := by decide +kernel
theorem dX4_density_76 : decode cX4_density 76 = .ok (.iadd, 1) := by decide +kernel
theorem dX4_density_77 : decode cX4_density 77 = .ok (.goto 4, 3) := by decide +kernel
theorem dX4_density_80 : decode cX4_density 80 = .ok (.iload_n 3, 1) := by decide +kernel
theorem dX4_density_81 : decode cX4_density 81 = .ok (.istore_n 3, 1) := by decide +kernel
theorem dX4_density_82 : decode cX4_density 82 = .ok (.iinc 4 1, 3) := by decide +kernel
theorem dX4_density_85 : decode cX4_density 85 = .ok (.goto (-65), 3) := by decide +kernel
theorem dX4_density_88 : decode cX4_density 88 = .ok (.iload_n 3, 1) := by decide +kernel
theorem dX4_density_89 : decode cX4_density 89 = .ok (.iload_n 1, 1) := by decide +kernel
theorem dX4_density_90 : decode cX4_density 90 = .ok (.if_icmp .le 7, 3) := by decide +kernel
theorem dX4_density_93 : decode cX4_density 93 = .ok (.iload_n 3, 1) := by decide +kernel
theorem dX4_density_94 : decode cX4_density 94 = .ok (.goto 4, 3) := by decide +kernel
theorem dX4_density_97 : decode cX4_density 97 = .ok (.iload_n 1, 1) := by decide +kernel
theorem dX4_density_98 : decode cX4_density 98 = .ok (.istore_n 1, 1) := by decide +kernel
theorem dX4_density_99 : decode cX4_density 99 = .ok (.iinc 2 1, 3) := by decide +kernel
theorem dX4_density_102 : decode cX4_density 102 = .ok (.goto (-93), 3) := by decide +kernel
theorem dX4_density_105 : decode cX4_density 105 = .ok (.iload_n 1, 1) := by decide +kernel
theorem dX4_density_106 : decode cX4_density 106 = .ok (.ireturn, 1) := by decide +kernel
theorem dX4_pairs_0 : decode cX4_pairs 0 = .ok (.aload_n 0, 1) := by decide +kernel
theorem dX4_pairs_1 : decode cX4_pairs 1 = .ok (.iconst 0, 1) := by decide +kernel
theorem dX4_pairs_2 : decode cX4_pairs 2 = .ok (.putfield 56, 3) := by decide +kernel
theorem dX4_pairs_5 : decode cX4_pairs 5 = .ok (.aload_n 0, 1) := by decide +kernel
theorem dX4_pairs_6 : decode cX4_pairs 6 = .ok (.iload_n 1, 1) := by decide +kernel
theorem dX4_pairs_7 : decode cX4_pairs 7 = .ok (.invokevirtual 146, 3) := by decide +kernel
theorem dX4_pairs_10 : decode cX4_pairs 10 = .ok (.ireturn, 1) := by decide +kernel
theorem dX4_net_0 : decode cX4_net 0 = .ok (.aload_n 0, 1) := by decide +kernel
theorem dX4_net_1 : decode cX4_net 1 = .ok (.iload_n 1, 1) := by decide +kernel
theorem dX4_net_2 : decode cX4_net 2 = .ok (.iconst 1, 1) := by decide +kernel
theorem dX4_net_3 : decode cX4_net 3 = .ok (.bipush 9, 2) := by decide +kernel
theorem dX4_net_5 : decode cX4_net 5 = .ok (.invokestatic 60, 3) := by decide +kernel
theorem dX4_net_8 : decode cX4_net 8 = .ok (.ifCond .eq 16, 3) := by decide +kernel
theorem dX4_net_11 : decode cX4_net 11 = .ok (.iload_n 2, 1) := by decide +kernel
theorem dX4_net_12 : decode cX4_net 12 = .ok (.iconst 0, 1) := by decide +kernel
theorem dX4_net_13 : decode cX4_net 13 = .ok (.iconst 3, 1) := by decide +kernel
theorem dX4_net_14 : decode cX4_net 14 = .ok (.invokestatic 60, 3) := by decide +kernel
theorem dX4_net_17 : decode cX4_net 17 = .ok (.ifCond .eq 7, 3) := by decide +kernel
theorem dX4_net_20 : decode cX4_net 20 = .ok (.iconst 1, 1) := by decide +kernel
theorem dX4_net_21 : decode cX4_net 21 = .ok (.goto 4, 3) := by decide +kernel
theorem dX4_net_24 : decode cX4_net 24 = .ok (.iconst 0, 1) := by decide +kernel
theorem dX4_net_25 : decode cX4_net 25 = .ok (.invokevirtual 156, 3) := by decide +kernel
theorem dX4_net_28 : decode cX4_net 28 = .ok (.ifCond .eq 5, 3) := by decide +kernel
theorem dX4_net_31 : decode cX4_net 31 = .ok (.iconst 0, 1) := by decide +kernel
theorem dX4_net_32 : decode cX4_net 32 = .ok (.ireturn, 1) := by decide +kernel
theorem dX4_net_33 : decode cX4_net 33 = .ok (.aload_n 0, 1) := by decide +kernel
theorem dX4_net_34 : decode cX4_net 34 = .ok (.iload_n 1, 1) := by decide +kernel
theorem dX4_net_35 : decode cX4_net 35 = .ok (.invokevirtual 87, 3) := by decide +kernel
theorem dX4_net_38 : decode cX4_net 38 = .ok (.istore_n 3, 1) := by decide +kernel
theorem dX4_net_39 : decode cX4_net 39 = .ok (.iload_n 2, 1) := by decide +kernel
theorem dX4_net_40 : decode cX4_net 40 = .ok (.iconst 2, 1) := by decide +kernel
theorem dX4_net_41 : decode cX4_net 41 = .ok (.if_icmp .ge 36, 3) := by decide +kernel
theorem dX4_net_44 : decode cX4_net 44 = .ok (.iload_n 3, 1) := by decide +kernel
theorem dX4_net_45 : decode cX4_net 45 = .ok (.iconst 3, 1) := by decide +kernel
theorem dX4_net_46 : decode cX4_net 46 = .ok (.if_icmp .ge 7, 3) := by decide +kernel
theorem dX4_net_49 : decode cX4_net 49 = .ok (.iconst (-1), 1) := by decide +kernel
theorem dX4_net_50 : decode cX4_net 50 = .ok (.goto 26, 3) := by decide +kernel
theorem dX4_net_53 : decode cX4_net 53 = .ok (.iload_n 2, 1) := by decide +kernel
theorem dX4_net_54 : decode cX4_net 54 = .ok (.ifCond .ne 14, 3) := by decide +kernel
theorem dX4_net_57 : decode cX4_net 57 = .ok (.aload_n 0, 1) := by decide +kernel
theorem dX4_net_58 : decode cX4_net 58 = .ok (.iload_n 1, 1) := by decide +kernel
theorem dX4_net_59 : decode cX4_net 59 = .ok (.invokevirtual 78, 3) := by decide +kernel
theorem dX4_net_62 : decode cX4_net 62 = .ok (.invokestatic 81, 3) := by decide +kernel
theorem dX4_net_65 : decode cX4_net 65 = .ok (.goto 11, 3) := by decide +kernel
theorem dX4_net_68 : decode cX4_net 68 = .ok (.aload_n 0, 1) := by decide +kernel
theorem dX4_net_69 : decode cX4_net 69 = .ok (.iload_n 1, 1) := by decide +kernel
theorem dX4_net_70 : decode cX4_net 70 = .ok (.invokevirtual 78, 3) := by decide +kernel
theorem dX4_net_73 : decode cX4_net 73 = .ok (.invokestatic 84, 3) := by decide +kernel
theorem dX4_net_76 : decode cX4_net 76 = .ok (.ireturn, 1) := by decide +kernel
theorem dX4_net_77 : decode cX4_net 77 = .ok (.iload_n 2, 1) := by decide +kernel
theorem dX4_net_78 : decode cX4_net 78 = .ok (.iconst 2, 1) := by decide +kernel
theorem dX4_net_79 : decode cX4_net 79 = .ok (.if_icmp .ne 11, 3) := by decide +kernel
theorem dX4_net_82 : decode cX4_net 82 = .ok (.aload_n 0, 1) := by decide +kernel
theorem dX4_net_83 : decode cX4_net 83 = .ok (.iload_n 1, 1) := by decide +kernel
theorem dX4_net_84 : decode cX4_net 84 = .ok (.invokevirtual 74, 3) := by decide +kernel
theorem dX4_net_87 : decode cX4_net 87 = .ok (.goto 4, 3) := by decide +kernel
theorem dX4_net_90 : decode cX4_net 90 = .ok (.iload_n 3, 1) := by decide +kernel
theorem dX4_net_91 : decode cX4_net 91 = .ok (.ireturn, 1) := by decide +kernel
theorem dX4_vias_0 : decode cX4_vias 0 = .ok (.iconst 0, 1) := by decide +kernel
theorem dX4_vias_1 : decode cX4_vias 1 = .ok (.istore_n 1, 1) := by decide +kernel
theorem dX4_vias_2 : decode cX4_vias 2 = .ok (.iconst 0, 1) := by decide +kernel
theorem dX4_vias_3 : decode cX4_vias 3 = .ok (.istore_n 2, 1) := by decide +kernel
theorem dX4_vias_4 : decode cX4_vias 4 = .ok (.iload_n 2, 1) := by decide +kernel
theorem dX4_vias_5 : decode cX4_vias 5 = .ok (.aload_n 0, 1) := by decide +kernel
theorem dX4_vias_6 : decode cX4_vias 6 = .ok (.getfield 71, 3) := by decide +kernel
theorem dX4_vias_9 : decode cX4_vias 9 = .ok (.if_icmp .ge 40, 3) := by decide +kernel
theorem dX4_vias_12 : decode cX4_vias 12 = .ok (.iconst 0, 1) := by decide +kernel
theorem dX4_vias_13 : decode cX4_vias 13 = .ok (.istore_n 3, 1) := by decide +kernel
theorem dX4_vias_14 : decode cX4_vias 14 = .ok (.iload_n 3, 1) := by decide +kernel
theorem dX4_vias_15 : decode cX4_vias 15 = .ok (.bipush 20, 2) := by decide +kernel
theorem dX4_vias_17 : decode cX4_vias 17 = .ok (.if_icmp .ge 26, 3) := by decide +kernel
theorem dX4_vias_20 : decode cX4_vias 20 = .ok (.aload_n 0, 1) := by decide +kernel
theorem dX4_vias_21 : decode cX4_vias 21 = .ok (.iload_n 2, 1) := by decide +kernel
theorem dX4_vias_22 : decode cX4_vias 22 = .ok (.iload_n 3, 1) := by decide +kernel
theorem dX4_vias_23 : decode cX4_vias 23 = .ok (.invokevirtual 170, 3) := by decide +kernel
theorem dX4_vias_26 : decode cX4_vias 26 = .ok (.ifCond .eq 9, 3) := by decide +kernel
theorem dX4_vias_29 : decode cX4_vias 29 = .ok (.iload_n 1, 1) := by decide +kernel
theorem dX4_vias_30 : decode cX4_vias 30 = .ok (.iconst 1, 1) := by decide +kernel
theorem dX4_vias_31 : decode cX4_vias 31 = .ok (.iadd, 1) := by decide +kernel
theorem dX4_vias_32 : decode cX4_vias 32 = .ok (.goto 4, 3) := by decide +kernel
theorem dX4_vias_35 : decode cX4_vias 35 = .ok (.iload_n 1, 1) := by decide +kernel
theorem dX4_vias_36 : decode cX4_vias 36 = .ok (.istore_n 1, 1) := by decide +kernel
theorem dX4_vias_37 : decode cX4_vias 37 = .ok (.iinc 3 1, 3) := by decide +kernel
theorem dX4_vias_40 : decode cX4_vias 40 = .ok (.goto (-26), 3) := by decide +kernel
theorem dX4_vias_43 : decode cX4_vias 43 = .ok (.iinc 2 1, 3) := by decide +kernel
theorem dX4_vias_46 : decode cX4_vias 46 = .ok (.goto (-42), 3) := by decide +kernel
theorem dX4_vias_49 : decode cX4_vias 49 = .ok (.iload_n 1, 1) := by decide +kernel
theorem dX4_vias_50 : decode cX4_vias 50 = .ok (.ireturn, 1) := by decide +kernel
theorem dX4_count_0 : decode cX4_count 0 = .ok (.aload_n 0, 1) := by decide +kernel
theorem dX4_count_1 : decode cX4_count 1 = .ok (.iload_n 1, 1) := by decide +kernel
theorem dX4_count_2 : decode cX4_count 2 = .ok (.iconst 0, 1) := by decide +kernel
theorem dX4_count_3 : decode cX4_count 3 = .ok (.iconst 5, 1) := by decide +kernel
theorem dX4_count_4 : decode cX4_count 4 = .ok (.invokestatic 60, 3) := by decide +kernel
theorem dX4_count_7 : decode cX4_count 7 = .ok (.invokevirtual 156, 3) := by decide +kernel
theorem dX4_count_10 : decode cX4_count 10 = .ok (.ifCond .eq 5, 3) := by decide +kernel
theorem dX4_count_13 : decode cX4_count 13 = .ok (.iconst 0, 1) := by decide +kernel
theorem dX4_count_14 : decode cX4_count 14 = .ok (.ireturn, 1) := by decide +kernel
theorem dX4_count_15 : decode cX4_count 15 = .ok (.iload_n 1, 1) := by decide +kernel
theorem dX4_count_16 : decode cX4_count 16 = .ok (.tableswitch 61 0 4 #[36, 41, 46, 51, 56], 36) := by decide +kernel
theorem dX4_count_52 : decode cX4_count 52 = .ok (.aload_n 0, 1) := by decide +kernel
theorem dX4_count_53 : decode cX4_count 53 = .ok (.getfield 71, 3) := by decide +kernel
theorem dX4_count_56 : decode cX4_count 56 = .ok (.ireturn, 1) := by decide +kernel
theorem dX4_count_57 : decode cX4_count 57 = .ok (.aload_n 0, 1) := by decide +kernel
theorem dX4_count_58 : decode cX4_count 58 = .ok (.getfield 68, 3) := by decide +kernel
theorem dX4_count_61 : decode cX4_count 61 = .ok (.ireturn, 1) := by decide +kernel
theorem dX4_count_62 : decode cX4_count 62 = .ok (.aload_n 0, 1) := by decide +kernel
theorem dX4_count_63 : decode cX4_count 63 = .ok (.invokevirtual 173, 3) := by decide +kernel
theorem dX4_count_66 : decode cX4_count 66 = .ok (.ireturn, 1) := by decide +kernel
theorem dX4_count_67 : decode cX4_count 67 = .ok (.aload_n 0, 1) := by decide +kernel
theorem dX4_count_68 : decode cX4_count 68 = .ok (.getfield 127, 3) := by decide +kernel
theorem dX4_count_71 : decode cX4_count 71 = .ok (.ireturn, 1) := by decide +kernel
theorem dX4_count_72 : decode cX4_count 72 = .ok (.aload_n 0, 1) := by decide +kernel
theorem dX4_count_73 : decode cX4_count 73 = .ok (.getfield 136, 3) := by decide +kernel
theorem dX4_count_76 : decode cX4_count 76 = .ok (.ireturn, 1) := by decide +kernel
theorem dX4_count_77 : decode cX4_count 77 = .ok (.aload_n 0, 1) := by decide +kernel
theorem dX4_count_78 : decode cX4_count 78 = .ok (.getfield 64, 3) := by decide +kernel
theorem dX4_count_81 : decode cX4_count 81 = .ok (.ifCond .eq 7, 3) := by decide +kernel
theorem dX4_count_84 : decode cX4_count 84 = .ok (.iconst 1, 1) := by decide +kernel
theorem dX4_count_85 : decode cX4_count 85 = .ok (.goto 4, 3) := by decide +kernel
theorem dX4_count_88 : decode cX4_count 88 = .ok (.iconst 0, 1) := by decide +kernel
theorem dX4_count_89 : decode cX4_count 89 = .ok (.ireturn, 1) := by decide +kernel
theorem dX4_used_0 : decode cX4_used 0 = .ok (.aload_n 0, 1) := by decide +kernel
theorem dX4_used_1 : decode cX4_used 1 = .ok (.iconst 0, 1) := by decide +kernel
theorem dX4_used_2 : decode cX4_used 2 = .ok (.putfield 56, 3) := by decide +kernel
theorem dX4_used_5 : decode cX4_used 5 = .ok (.iconst 0, 1) := by decide +kernel
theorem dX4_used_6 : decode cX4_used 6 = .ok (.istore_n 1, 1) := by decide +kernel
theorem dX4_used_7 : decode cX4_used 7 = .ok (.iconst 0, 1) := by decide +kernel
theorem dX4_used_8 : decode cX4_used 8 = .ok (.istore_n 2, 1) := by decide +kernel
theorem dX4_used_9 : decode cX4_used 9 = .ok (.iload_n 2, 1) := by decide +kernel
theorem dX4_used_10 : decode cX4_used 10 = .ok (.aload_n 0, 1) := by decide +kernel
theorem dX4_used_11 : decode cX4_used 11 = .ok (.getfield 71, 3) := by decide +kernel
theorem dX4_used_14 : decode cX4_used 14 = .ok (.if_icmp .ge 40, 3) := by decide +kernel
theorem dX4_used_17 : decode cX4_used 17 = .ok (.iconst 0, 1) := by decide +kernel
theorem dX4_used_18 : decode cX4_used 18 = .ok (.istore_n 3, 1) := by decide +kernel
theorem dX4_used_19 : decode cX4_used 19 = .ok (.iload_n 3, 1) := by decide +kernel
theorem dX4_used_20 : decode cX4_used 20 = .ok (.bipush 20, 2) := by decide +kernel
theorem dX4_used_22 : decode cX4_used 22 = .ok (.if_icmp .ge 26, 3) := by decide +kernel
theorem dX4_used_25 : decode cX4_used 25 = .ok (.aload_n 0, 1) := by decide +kernel
theorem dX4_used_26 : decode cX4_used 26 = .ok (.iload_n 2, 1) := by decide +kernel
theorem dX4_used_27 : decode cX4_used 27 = .ok (.iload_n 3, 1) := by decide +kernel
theorem dX4_used_28 : decode cX4_used 28 = .ok (.invokevirtual 160, 3) := by decide +kernel
theorem dX4_used_31 : decode cX4_used 31 = .ok (.ifCond .le 9, 3) := by decide +kernel
theorem dX4_used_34 : decode cX4_used 34 = .ok (.iload_n 1, 1) := by decide +kernel
theorem dX4_used_35 : decode cX4_used 35 = .ok (.iconst 1, 1) := by decide +kernel
theorem dX4_used_36 : decode cX4_used 36 = .ok (.iadd, 1) := by decide +kernel
theorem dX4_used_37 : decode cX4_used 37 = .ok (.goto 4, 3) := by decide +kernel
theorem dX4_used_40 : decode cX4_used 40 = .ok (.iload_n 1, 1) := by decide +kernel
theorem dX4_used_41 : decode cX4_used 41 = .ok (.istore_n 1, 1) := by decide +kernel
theorem dX4_used_42 : decode cX4_used 42 = .ok (.iinc 3 1, 3) := by decide +kernel
theorem dX4_used_45 : decode cX4_used 45 = .ok (.goto (-26), 3) := by decide +kernel
theorem dX4_used_48 : decode cX4_used 48 = .ok (.iinc 2 1, 3) := by decide +kernel
theorem dX4_used_51 : decode cX4_used 51 = .ok (.goto (-42), 3) := by decide +kernel
theorem dX4_used_54 : decode cX4_used 54 = .ok (.aload_n 0, 1) := by decide +kernel
theorem dX4_used_55 : decode cX4_used 55 = .ok (.getfield 71, 3) := by decide +kernel
theorem dX4_used_58 : decode cX4_used 58 = .ok (.ifCond .ne 5, 3) := by decide +kernel
theorem dX4_used_61 : decode cX4_used 61 = .ok (.fconst 0, 1) := by decide +kernel
theorem dX4_used_62 : decode cX4_used 62 = .ok (.freturn, 1) := by decide +kernel
theorem dX4_used_63 : decode cX4_used 63 = .ok (.iload_n 1, 1) := by decide +kernel
theorem dX4_used_64 : decode cX4_used 64 = .ok (.i2f, 1) := by decide +kernel
theorem dX4_used_65 : decode cX4_used 65 = .ok (.fstore_n 2, 1) := by decide +kernel
theorem dX4_used_66 : decode cX4_used 66 = .ok (.bipush 20, 2) := by decide +kernel
theorem dX4_used_68 : decode cX4_used 68 = .ok (.aload_n 0, 1) := by decide +kernel
theorem dX4_used_69 : decode cX4_used 69 = .ok (.getfield 71, 3) := by decide +kernel
theorem dX4_used_72 : decode cX4_used 72 = .ok (.imul, 1) := by decide +kernel
theorem dX4_used_73 : decode cX4_used 73 = .ok (.i2f, 1) := by decide +kernel
theorem dX4_used_74 : decode cX4_used 74 = .ok (.fstore_n 3, 1) := by decide +kernel
theorem dX4_used_75 : decode cX4_used 75 = .ok (.fload_n 2, 1) := by decide +kernel
theorem dX4_used_76 : decode cX4_used 76 = .ok (.fload_n 3, 1) := by decide +kernel
theorem dX4_used_77 : decode cX4_used 77 = .ok (.fdiv, 1) := by decide +kernel
theorem dX4_used_78 : decode cX4_used 78 = .ok (.freturn, 1) := by decide +kernel
theorem dJ13_bitCount_95d88_0 : decode cJ13_bitCount_95d88 0 = .ok (.lload_n 0, 1) := by decide +kernel
theorem dJ13_bitCount_95d88_1 : decode cJ13_bitCount_95d88 1 = .ok (.lload_n 0, 1) := by decide +kernel
theorem dJ13_bitCount_95d88_2 : decode cJ13_bitCount_95d88 2 = .ok (.iconst 1, 1) := by decide +kernel
theorem dJ13_bitCount_95d88_3 : decode cJ13_bitCount_95d88 3 = .ok (.lushr, 1) := by decide +kernel
theorem dJ13_bitCount_95d88_4 : decode cJ13_bitCount_95d88 4 = .ok (.ldc2_w 314, 3) := by decide +kernel
theorem dJ13_bitCount_95d88_7 : decode cJ13_bitCount_95d88 7 = .ok (.land, 1) := by decide +kernel
theorem dJ13_bitCount_95d88_8 : decode cJ13_bitCount_95d88 8 = .ok (.lsub, 1) := by decide +kernel
theorem dJ13_bitCount_95d88_9 : decode cJ13_bitCount_95d88 9 = .ok (.lstore_n 0, 1) := by decide +kernel
theorem dJ13_bitCount_95d88_10 : decode cJ13_bitCount_95d88 10 = .ok (.lload_n 0, 1) := by decide +kernel
theorem dJ13_bitCount_95d88_11 : decode cJ13_bitCount_95d88 11 = .ok (.ldc2_w 316, 3) := by decide +kernel
theorem dJ13_bitCount_95d88_14 : decode cJ13_bitCount_95d88 14 = .ok (.land, 1) := by decide +kernel
theorem dJ13_bitCount_95d88_15 : decode cJ13_bitCount_95d88 15 = .ok (.lload_n 0, 1) := by decide +kernel
theorem dJ13_bitCount_95d88_16 : decode cJ13_bitCount_95d88 16 = .ok (.iconst 2, 1) := by decide +kernel
theorem dJ13_bitCount_95d88_17 : decode cJ13_bitCount_95d88 17 = .ok (.lushr, 1) := by decide +kernel
theorem dJ13_bitCount_95d88_18 : decode cJ13_bitCount_95d88 18 = .ok (.ldc2_w 316, 3) := by decide +kernel
theorem dJ13_bitCount_95d88_21 : decode cJ13_bitCount_95d88 21 = .ok (.land, 1) := by decide +kernel
theorem dJ13_bitCount_95d88_22 : decode cJ13_bitCount_95d88 22 = .ok (.ladd, 1) := by decide +kernel
theorem dJ13_bitCount_95d88_23 : decode cJ13_bitCount_95d88 23 = .ok (.lstore_n 0, 1) := by decide +kernel
theorem dJ13_bitCount_95d88_24 : decode cJ13_bitCount_95d88 24 = .ok (.lload_n 0, 1) := by decide +kernel
theorem dJ13_bitCount_95d88_25 : decode cJ13_bitCount_95d88 25 = .ok (.lload_n 0, 1) := by decide +kernel
theorem dJ13_bitCount_95d88_26 : decode cJ13_bitCount_95d88 26 = .ok (.iconst 4, 1) := by decide +kernel
theorem dJ13_bitCount_95d88_27 : decode cJ13_bitCount_95d88 27 = .ok (.lushr, 1) := by decide +kernel
theorem dJ13_bitCount_95d88_28 : decode cJ13_bitCount_95d88 28 = .ok (.ladd, 1) := by decide +kernel
theorem dJ13_bitCount_95d88_29 : decode cJ13_bitCount_95d88 29 = .ok (.ldc2_w 318, 3) := by decide +kernel
theorem dJ13_bitCount_95d88_32 : decode cJ13_bitCount_95d88 32 = .ok (.land, 1) := by decide +kernel
theorem dJ13_bitCount_95d88_33 : decode cJ13_bitCount_95d88 33 = .ok (.lstore_n 0, 1) := by decide +kernel
theorem dJ13_bitCount_95d88_34 : decode cJ13_bitCount_95d88 34 = .ok (.lload_n 0, 1) := by decide +kernel
theorem dJ13_bitCount_95d88_35 : decode cJ13_bitCount_95d88 35 = .ok (.lload_n 0, 1) := by decide +kernel
theorem dJ13_bitCount_95d88_36 : decode cJ13_bitCount_95d88 36 = .ok (.bipush 8, 2) := by decide +kernel
theorem dJ13_bitCount_95d88_38 : decode cJ13_bitCount_95d88 38 = .ok (.lushr, 1) := by decide +kernel
theorem dJ13_bitCount_95d88_39 : decode cJ13_bitCount_95d88 39 = .ok (.ladd, 1) := by decide +kernel
theorem dJ13_bitCount_95d88_40 : decode cJ13_bitCount_95d88 40 = .ok (.lstore_n 0, 1) := by decide +kernel
theorem dJ13_bitCount_95d88_41 : decode cJ13_bitCount_95d88 41 = .ok (.lload_n 0, 1) := by decide +kernel
theorem dJ13_bitCount_95d88_42 : decode cJ13_bitCount_95d88 42 = .ok (.lload_n 0, 1) := by decide +kernel
theorem dJ13_bitCount_95d88_43 : decode cJ13_bitCount_95d88 43 = .ok (.bipush 16, 2) := by decide +kernel
theorem dJ13_bitCount_95d88_45 : decode cJ13_bitCount_95d88 45 = .ok (.lushr, 1) := by decide +kernel
theorem dJ13_bitCount_95d88_46 : decode cJ13_bitCount_95d88 46 = .ok (.ladd, 1) := by decide +kernel
theorem dJ13_bitCount_95d88_47 : decode cJ13_bitCount_95d88 47 = .ok (.lstore_n 0, 1) := by decide +kernel
theorem dJ13_bitCount_95d88_48 : decode cJ13_bitCount_95d88 48 = .ok (.lload_n 0, 1) := by decide +kernel
theorem dJ13_bitCount_95d88_49 : decode cJ13_bitCount_95d88 49 = .ok (.lload_n 0, 1) := by decide +kernel
theorem dJ13_bitCount_95d88_50 : decode cJ13_bitCount_95d88 50 = .ok (.bipush 32, 2) := by decide +kernel
theorem dJ13_bitCount_95d88_52 : decode cJ13_bitCount_95d88 52 = .ok (.lushr, 1) := by decide +kernel
theorem dJ13_bitCount_95d88_53 : decode cJ13_bitCount_95d88 53 = .ok (.ladd, 1) := by decide +kernel
theorem dJ13_bitCount_95d88_54 : decode cJ13_bitCount_95d88 54 = .ok (.lstore_n 0, 1) := by decide +kernel
theorem dJ13_bitCount_95d88_55 : decode cJ13_bitCount_95d88 55 = .ok (.lload_n 0, 1) := by decide +kernel
theorem dJ13_bitCount_95d88_56 : decode cJ13_bitCount_95d88 56 = .ok (.l2i, 1) := by decide +kernel
theorem dJ13_bitCount_95d88_57 : decode cJ13_bitCount_95d88 57 = .ok (.bipush 127, 2) := by decide +kernel
theorem dJ13_bitCount_95d88_59 : decode cJ13_bitCount_95d88 59 = .ok (.iand, 1) := by decide +kernel
theorem dJ13_bitCount_95d88_60 : decode cJ13_bitCount_95d88 60 = .ok (.ireturn, 1) := by decide +kernel
theorem dJ9_max_7cf53_0 : decode cJ9_max_7cf53 0 = .ok (.iload_n 0, 1) := by decide +kernel
theorem dJ9_max_7cf53_1 : decode cJ9_max_7cf53 1 = .ok (.iload_n 1, 1) := by decide +kernel
theorem dJ9_max_7cf53_2 : decode cJ9_max_7cf53 2 = .ok (.if_icmp .lt 7, 3) := by decide +kernel
theorem dJ9_max_7cf53_5 : decode cJ9_max_7cf53 5 = .ok (.iload_n 0, 1) := by decide +kernel
theorem dJ9_max_7cf53_6 : decode cJ9_max_7cf53 6 = .ok (.goto 4, 3) := by decide +kernel
theorem dJ9_max_7cf53_9 : decode cJ9_max_7cf53 9 = .ok (.iload_n 1, 1) := by decide +kernel
theorem dJ9_max_7cf53_10 : decode cJ9_max_7cf53 10 = .ok (.ireturn, 1) := by decide +kernel
theorem dJ9_min_7cf53_0 : decode cJ9_min_7cf53 0 = .ok (.iload_n 0, 1) := by decide +kernel
theorem dJ9_min_7cf53_1 : decode cJ9_min_7cf53 1 = .ok (.iload_n 1, 1) := by decide +kernel
theorem dJ9_min_7cf53_2 : decode cJ9_min_7cf53 2 = .ok (.if_icmp .gt 7, 3) := by decide +kernel
theorem dJ9_min_7cf53_5 : decode cJ9_min_7cf53 5 = .ok (.iload_n 0, 1) := by decide +kernel
theorem dJ9_min_7cf53_6 : decode cJ9_min_7cf53 6 = .ok (.goto 4, 3) := by decide +kernel
theorem dJ9_min_7cf53_9 : decode cJ9_min_7cf53 9 = .ok (.iload_n 1, 1) := by decide +kernel
theorem dJ9_min_7cf53_10 : decode cJ9_min_7cf53 10 = .ok (.ireturn, 1) := by decide +kernel
theorem dJ7_fill_d0a16_0 : decode cJ7_fill_d0a16 0 = .ok (.iconst 0, 1) := by decide +kernel
theorem dJ7_fill_d0a16_1 : decode cJ7_fill_d0a16 1 = .ok (.istore_n 3, 1) := by decide +kernel
theorem dJ7_fill_d0a16_2 : decode cJ7_fill_d0a16 2 = .ok (.aload_n 0, 1) := by decide +kernel
theorem dJ7_fill_d0a16_3 : decode cJ7_fill_d0a16 3 = .ok (.arraylength, 1) := by decide +kernel
theorem dJ7_fill_d0a16_4 : decode cJ7_fill_d0a16 4 = .ok (.istore 4, 2) := by decide +kernel
theorem dJ7_fill_d0a16_6 : decode cJ7_fill_d0a16 6 = .ok (.iload_n 3, 1) := by decide +kernel
theorem dJ7_fill_d0a16_7 : decode cJ7_fill_d0a16 7 = .ok (.iload 4, 2) := by decide +kernel
theorem dJ7_fill_d0a16_9 : decode cJ7_fill_d0a16 9 = .ok (.if_icmp .ge 13, 3) := by decide +kernel
theorem dJ7_fill_d0a16_12 : decode cJ7_fill_d0a16 12 = .ok (.aload_n 0, 1) := by decide +kernel
theorem dJ7_fill_d0a16_13 : decode cJ7_fill_d0a16 13 = .ok (.iload_n 3, 1) := by decide +kernel
theorem dJ7_fill_d0a16_14 : decode cJ7_fill_d0a16 14 = .ok (.lload_n 1, 1) := by decide +kernel
theorem dJ7_fill_d0a16_15 : decode cJ7_fill_d0a16 15 = .ok (.lastore, 1) := by decide +kernel
theorem dJ7_fill_d0a16_16 : decode cJ7_fill_d0a16 16 = .ok (.iinc 3 1, 3) := by decide +kernel
theorem dJ7_fill_d0a16_19 : decode cJ7_fill_d0a16 19 = .ok (.goto (-13), 3) := by decide +kernel
theorem dJ7_fill_d0a16_22 : decode cJ7_fill_d0a16 22 = .ok (.return_, 1) := by decide +kernel
theorem dJ7_fill_53178_0 : decode cJ7_fill_53178 0 = .ok (.iconst 0, 1) := by decide +kernel
theorem dJ7_fill_53178_1 : decode cJ7_fill_53178 1 = .ok (.istore_n 2, 1) := by decide +kernel
theorem dJ7_fill_53178_2 : decode cJ7_fill_53178 2 = .ok (.aload_n 0, 1) := by decide +kernel
theorem dJ7_fill_53178_3 : decode cJ7_fill_53178 3 = .ok (.arraylength, 1) := by decide +kernel
theorem dJ7_fill_53178_4 : decode cJ7_fill_53178 4 = .ok (.istore_n 3, 1) := by decide +kernel
theorem dJ7_fill_53178_5 : decode cJ7_fill_53178 5 = .ok (.iload_n 2, 1) := by decide +kernel
theorem dJ7_fill_53178_6 : decode cJ7_fill_53178 6 = .ok (.iload_n 3, 1) := by decide +kernel
theorem dJ7_fill_53178_7 : decode cJ7_fill_53178 7 = .ok (.if_icmp .ge 13, 3) := by decide +kernel
theorem dJ7_fill_53178_10 : decode cJ7_fill_53178 10 = .ok (.aload_n 0, 1) := by decide +kernel
theorem dJ7_fill_53178_11 : decode cJ7_fill_53178 11 = .ok (.iload_n 2, 1) := by decide +kernel
theorem dJ7_fill_53178_12 : decode cJ7_fill_53178 12 = .ok (.iload_n 1, 1) := by decide +kernel
theorem dJ7_fill_53178_13 : decode cJ7_fill_53178 13 = .ok (.iastore, 1) := by decide +kernel
theorem dJ7_fill_53178_14 : decode cJ7_fill_53178 14 = .ok (.iinc 2 1, 3) := by decide +kernel
theorem dJ7_fill_53178_17 : decode cJ7_fill_53178 17 = .ok (.goto (-12), 3) := by decide +kernel
theorem dJ7_fill_53178_20 : decode cJ7_fill_53178 20 = .ok (.return_, 1) := by decide +kernel
theorem dL_pin_0 : decode cL_pin 0 = .ok (.aload 4, 2) := by decide +kernel
theorem dL_pin_2 : decode cL_pin 2 = .ok (.iconst 0, 1) := by decide +kernel
theorem dL_pin_3 : decode cL_pin 3 = .ok (.aload_n 0, 1) := by decide +kernel
theorem dL_pin_4 : decode cL_pin 4 = .ok (.iload_n 1, 1) := by decide +kernel
theorem dL_pin_5 : decode cL_pin 5 = .ok (.iload_n 2, 1) := by decide +kernel
theorem dL_pin_6 : decode cL_pin 6 = .ok (.iload_n 3, 1) := by decide +kernel
theorem dL_pin_7 : decode cL_pin 7 = .ok (.invokevirtual 7, 3) := by decide +kernel
theorem dL_pin_10 : decode cL_pin 10 = .ok (.i2l, 1) := by decide +kernel
theorem dL_pin_11 : decode cL_pin 11 = .ok (.lastore, 1) := by decide +kernel
theorem dL_pin_12 : decode cL_pin 12 = .ok (.goto 11, 3) := by decide +kernel
theorem dL_pin_15 : decode cL_pin 15 = .ok (.astore 5, 2) := by decide +kernel
theorem dL_pin_17 : decode cL_pin 17 = .ok (.iconst 1, 1) := by decide +kernel
theorem dL_pin_18 : decode cL_pin 18 = .ok (.ireturn, 1) := by decide +kernel
theorem dL_pin_19 : decode cL_pin 19 = .ok (.astore 5, 2) := by decide +kernel
theorem dL_pin_21 : decode cL_pin 21 = .ok (.iconst 2, 1) := by decide +kernel
theorem dL_pin_22 : decode cL_pin 22 = .ok (.ireturn, 1) := by decide +kernel
theorem dL_pin_23 : decode cL_pin 23 = .ok (.iconst 0, 1) := by decide +kernel
theorem dL_pin_24 : decode cL_pin 24 = .ok (.ireturn, 1) := by decide +kernel
theorem dL_lay_0 : decode cL_lay 0 = .ok (.aload_n 2, 1) := by decide +kernel
theorem dL_lay_1 : decode cL_lay 1 = .ok (.iconst 0, 1) := by decide +kernel
theorem dL_lay_2 : decode cL_lay 2 = .ok (.aload_n 0, 1) := by decide +kernel
theorem dL_lay_3 : decode cL_lay 3 = .ok (.iload_n 1, 1) := by decide +kernel
theorem dL_lay_4 : decode cL_lay 4 = .ok (.invokevirtual 17, 3) := by decide +kernel
theorem dL_lay_7 : decode cL_lay 7 = .ok (.i2l, 1) := by decide +kernel
theorem dL_lay_8 : decode cL_lay 8 = .ok (.lastore, 1) := by decide +kernel
theorem dL_lay_9 : decode cL_lay 9 = .ok (.goto 9, 3) := by decide +kernel
theorem dL_lay_12 : decode cL_lay 12 = .ok (.astore_n 3, 1) := by decide +kernel
theorem dL_lay_13 : decode cL_lay 13 = .ok (.iconst 1, 1) := by decide +kernel
theorem dL_lay_14 : decode cL_lay 14 = .ok (.ireturn, 1) := by decide +kernel
theorem dL_lay_15 : decode cL_lay 15 = .ok (.astore_n 3, 1) := by decide +kernel
theorem dL_lay_16 : decode cL_lay 16 = .ok (.iconst 2, 1) := by decide +kernel
theorem dL_lay_17 : decode cL_lay 17 = .ok (.ireturn, 1) := by decide +kernel
theorem dL_lay_18 : decode cL_lay 18 = .ok (.iconst 0, 1) := by decide +kernel
theorem dL_lay_19 : decode cL_lay 19 = .ok (.ireturn, 1) := by decide +kernel
theorem dL_layAny_0 : decode cL_layAny 0 = .ok (.aload_n 1, 1) := by decide +kernel
theorem dL_layAny_1 : decode cL_layAny 1 = .ok (.iconst 0, 1) := by decide +kernel
theorem dL_layAny_2 : decode cL_layAny 2 = .ok (.aload_n 0, 1) := by decide +kernel
theorem dL_layAny_3 : decode cL_layAny 3 = .ok (.invokevirtual 23, 3) := by decide +kernel
theorem dL_layAny_6 : decode cL_layAny 6 = .ok (.i2l, 1) := by decide +kernel
theorem dL_layAny_7 : decode cL_layAny 7 = .ok (.lastore, 1) := by decide +kernel
theorem dL_layAny_8 : decode cL_layAny 8 = .ok (.goto 9, 3) := by decide +kernel
theorem dL_layAny_11 : decode cL_layAny 11 = .ok (.astore_n 2, 1) := by decide +kernel
theorem dL_layAny_12 : decode cL_layAny 12 = .ok (.iconst 1, 1) := by decide +kernel
theorem dL_layAny_13 : decode cL_layAny 13 = .ok (.ireturn, 1) := by decide +kernel
theorem dL_layAny_14 : decode cL_layAny 14 = .ok (.astore_n 2, 1) := by decide +kernel
theorem dL_layAny_15 : decode cL_layAny 15 = .ok (.iconst 2, 1) := by decide +kernel
theorem dL_layAny_16 : decode cL_layAny 16 = .ok (.ireturn, 1) := by decide +kernel
theorem dL_layAny_17 : decode cL_layAny 17 = .ok (.iconst 0, 1) := by decide +kernel
theorem dL_layAny_18 : decode cL_layAny 18 = .ok (.ireturn, 1) := by decide +kernel
theorem dL_segment_0 : decode cL_segment 0 = .ok (.aload_n 3, 1) := by decide +kernel
theorem dL_segment_1 : decode cL_segment 1 = .ok (.iconst 0, 1) := by decide +kernel
theorem dL_segment_2 : decode cL_segment 2 = .ok (.aload_n 0, 1) := by decide +kernel
theorem dL_segment_3 : decode cL_segment 3 = .ok (.iload_n 1, 1) := by decide +kernel
theorem dL_segment_4 : decode cL_segment 4 = .ok (.iload_n 2, 1) := by decide +kernel
theorem dL_segment_5 : decode cL_segment 5 = .ok (.invokevirtual 27, 3) := by decide +kernel
theorem dL_segment_8 : decode cL_segment 8 = .ok (.i2l, 1) := by decide +kernel
theorem dL_segment_9 : decode cL_segment 9 = .ok (.lastore, 1) := by decide +kernel
theorem dL_segment_10 : decode cL_segment 10 = .ok (.goto 7, 3) := by decide +kernel
theorem dL_segment_13 : decode cL_segment 13 = .ok (.astore 4, 2) := by decide +kernel
theorem dL_segment_15 : decode cL_segment 15 = .ok (.iconst 1, 1) := by decide +kernel
theorem dL_segment_16 : decode cL_segment 16 = .ok (.ireturn, 1) := by decide +kernel
theorem dL_segment_17 : decode cL_segment 17 = .ok (.iconst 0, 1) := by decide +kernel
theorem dL_segment_18 : decode cL_segment 18 = .ok (.ireturn, 1) := by decide +kernel
theorem dL_level_0 : decode cL_level 0 = .ok (.aload_n 3, 1) := by decide +kernel
theorem dL_level_1 : decode cL_level 1 = .ok (.iconst 0, 1) := by decide +kernel
theorem dL_level_2 : decode cL_level 2 = .ok (.aload_n 0, 1) := by decide +kernel
theorem dL_level_3 : decode cL_level 3 = .ok (.iload_n 1, 1) := by decide +kernel
theorem dL_level_4 : decode cL_level 4 = .ok (.iload_n 2, 1) := by decide +kernel
theorem dL_level_5 : decode cL_level 5 = .ok (.invokevirtual 31, 3) := by decide +kernel
theorem dL_level_8 : decode cL_level 8 = .ok (.i2l, 1) := by decide +kernel
theorem dL_level_9 : decode cL_level 9 = .ok (.lastore, 1) := by decide +kernel
theorem dL_level_10 : decode cL_level 10 = .ok (.goto 7, 3) := by decide +kernel
theorem dL_level_13 : decode cL_level 13 = .ok (.astore 4, 2) := by decide +kernel
theorem dL_level_15 : decode cL_level 15 = .ok (.iconst 1, 1) := by decide +kernel
theorem dL_level_16 : decode cL_level 16 = .ok (.ireturn, 1) := by decide +kernel
theorem dL_level_17 : decode cL_level 17 = .ok (.iconst 0, 1) := by decide +kernel
theorem dL_level_18 : decode cL_level 18 = .ok (.ireturn, 1) := by decide +kernel
theorem dL_upright_0 : decode cL_upright 0 = .ok (.aload_n 3, 1) := by decide +kernel
theorem dL_upright_1 : decode cL_upright 1 = .ok (.iconst 0, 1) := by decide +kernel
theorem dL_upright_2 : decode cL_upright 2 = .ok (.aload_n 0, 1) := by decide +kernel
theorem dL_upright_3 : decode cL_upright 3 = .ok (.iload_n 1, 1) := by decide +kernel
theorem dL_upright_4 : decode cL_upright 4 = .ok (.iload_n 2, 1) := by decide +kernel
theorem dL_upright_5 : decode cL_upright 5 = .ok (.invokevirtual 34, 3) := by decide +kernel
theorem dL_upright_8 : decode cL_upright 8 = .ok (.i2l, 1) := by decide +kernel
theorem dL_upright_9 : decode cL_upright 9 = .ok (.lastore, 1) := by decide +kernel
theorem dL_upright_10 : decode cL_upright 10 = .ok (.goto 7, 3) := by decide +kernel
theorem dL_upright_13 : decode cL_upright 13 = .ok (.astore 4, 2) := by decide +kernel
theorem dL_upright_15 : decode cL_upright 15 = .ok (.iconst 1, 1) := by decide +kernel
theorem dL_upright_16 : decode cL_upright 16 = .ok (.ireturn, 1) := by decide +kernel
theorem dL_upright_17 : decode cL_upright 17 = .ok (.iconst 0, 1) := by decide +kernel
theorem dL_upright_18 : decode cL_upright 18 = .ok (.ireturn, 1) := by decide +kernel
theorem dL_via_0 : decode cL_via 0 = .ok (.aload_n 3, 1) := by decide +kernel
theorem dL_via_1 : decode cL_via 1 = .ok (.iconst 0, 1) := by decide +kernel
theorem dL_via_2 : decode cL_via 2 = .ok (.aload_n 0, 1) := by decide +kernel
theorem dL_via_3 : decode cL_via 3 = .ok (.iload_n 1, 1) := by decide +kernel
theorem dL_via_4 : decode cL_via 4 = .ok (.iload_n 2, 1) := by decide +kernel
theorem dL_via_5 : decode cL_via 5 = .ok (.invokevirtual 37, 3) := by decide +kernel
theorem dL_via_8 : decode cL_via 8 = .ok (.ifCond .eq 7, 3) := by decide +kernel
theorem dL_via_11 : decode cL_via 11 = .ok (.lconst 1, 1) := by decide +kernel
theorem dL_via_12 : decode cL_via 12 = .ok (.goto 4, 3) := by decide +kernel
theorem dL_via_15 : decode cL_via 15 = .ok (.lconst 0, 1) := by decide +kernel
theorem dL_via_16 : decode cL_via 16 = .ok (.lastore, 1) := by decide +kernel
theorem dL_via_17 : decode cL_via 17 = .ok (.goto 7, 3) := by decide +kernel
theorem dL_via_20 : decode cL_via 20 = .ok (.astore 4, 2) := by decide +kernel
theorem dL_via_22 : decode cL_via 22 = .ok (.iconst 1, 1) := by decide +kernel
theorem dL_via_23 : decode cL_via 23 = .ok (.ireturn, 1) := by decide +kernel
theorem dL_via_24 : decode cL_via 24 = .ok (.iconst 0, 1) := by decide +kernel
theorem dL_via_25 : decode cL_via 25 = .ok (.ireturn, 1) := by decide +kernel
theorem dL_net_0 : decode cL_net 0 = .ok (.aload_n 3, 1) := by decide +kernel
theorem dL_net_1 : decode cL_net 1 = .ok (.iconst 0, 1) := by decide +kernel
theorem dL_net_2 : decode cL_net 2 = .ok (.aload_n 0, 1) := by decide +kernel
theorem dL_net_3 : decode cL_net 3 = .ok (.iload_n 1, 1) := by decide +kernel
theorem dL_net_4 : decode cL_net 4 = .ok (.iload_n 2, 1) := by decide +kernel
theorem dL_net_5 : decode cL_net 5 = .ok (.invokevirtual 41, 3) := by decide +kernel
theorem dL_net_8 : decode cL_net 8 = .ok (.i2l, 1) := by decide +kernel
theorem dL_net_9 : decode cL_net 9 = .ok (.lastore, 1) := by decide +kernel
theorem dL_net_10 : decode cL_net 10 = .ok (.goto 7, 3) := by decide +kernel
theorem dL_net_13 : decode cL_net 13 = .ok (.astore 4, 2) := by decide +kernel
theorem dL_net_15 : decode cL_net 15 = .ok (.iconst 1, 1) := by decide +kernel
theorem dL_net_16 : decode cL_net 16 = .ok (.ireturn, 1) := by decide +kernel
theorem dL_net_17 : decode cL_net 17 = .ok (.iconst 0, 1) := by decide +kernel
theorem dL_net_18 : decode cL_net 18 = .ok (.ireturn, 1) := by decide +kernel
theorem dL_count_0 : decode cL_count 0 = .ok (.aload_n 2, 1) := by decide +kernel
theorem dL_count_1 : decode cL_count 1 = .ok (.iconst 0, 1) := by decide +kernel
theorem dL_count_2 : decode cL_count 2 = .ok (.aload_n 0, 1) := by decide +kernel
theorem dL_count_3 : decode cL_count 3 = .ok (.iload_n 1, 1) := by decide +kernel
theorem dL_count_4 : decode cL_count 4 = .ok (.invokevirtual 44, 3) := by decide +kernel
theorem dL_count_7 : decode cL_count 7 = .ok (.i2l, 1) := by decide +kernel
theorem dL_count_8 : decode cL_count 8 = .ok (.lastore, 1) := by decide +kernel
theorem dL_count_9 : decode cL_count 9 = .ok (.goto 6, 3) := by decide +kernel
theorem dL_count_12 : decode cL_count 12 = .ok (.astore_n 3, 1) := by decide +kernel
theorem dL_count_13 : decode cL_count 13 = .ok (.iconst 1, 1) := by decide +kernel
theorem dL_count_14 : decode cL_count 14 = .ok (.ireturn, 1) := by decide +kernel
theorem dL_count_15 : decode cL_count 15 = .ok (.iconst 0, 1) := by decide +kernel
theorem dL_count_16 : decode cL_count 16 = .ok (.ireturn, 1) := by decide +kernel
theorem dL_law_0 : decode cL_law 0 = .ok (.new 8, 3) := by decide +kernel
theorem dL_law_3 : decode cL_law 3 = .ok (.dup, 1) := by decide +kernel
theorem dL_law_4 : decode cL_law 4 = .ok (.invokespecial 48, 3) := by decide +kernel
theorem dL_law_7 : decode cL_law 7 = .ok (.astore_n 1, 1) := by decide +kernel
theorem dL_law_8 : decode cL_law 8 = .ok (.new 49, 3) := by decide +kernel
theorem dL_law_11 : decode cL_law 11 = .ok (.dup, 1) := by decide +kernel
theorem dL_law_12 : decode cL_law 12 = .ok (.invokespecial 51, 3) := by decide +kernel
theorem dL_law_15 : decode cL_law 15 = .ok (.astore_n 2, 1) := by decide +kernel
theorem dL_law_16 : decode cL_law 16 = .ok (.iconst 1, 1) := by decide +kernel
theorem dL_law_17 : decode cL_law 17 = .ok (.newarray .long, 2) := by decide +kernel
theorem dL_law_19 : decode cL_law 19 = .ok (.astore_n 3, 1) := by decide +kernel
theorem dL_law_20 : decode cL_law 20 = .ok (.iconst 0, 1) := by decide +kernel
theorem dL_law_21 : decode cL_law 21 = .ok (.istore 4, 2) := by decide +kernel
theorem dL_law_23 : decode cL_law 23 = .ok (.iload 4, 2) := by decide +kernel
theorem dL_law_25 : decode cL_law 25 = .ok (.aload_n 0, 1) := by decide +kernel
theorem dL_law_26 : decode cL_law 26 = .ok (.arraylength, 1) := by decide +kernel
theorem dL_law_27 : decode cL_law 27 = .ok (.iconst 4, 1) := by decide +kernel
theorem dL_law_28 : decode cL_law 28 = .ok (.isub, 1) := by decide +kernel
theorem dL_law_29 : decode cL_law 29 = .ok (.if_icmp .gt 818, 3) := by decide +kernel
theorem dL_law_32 : decode cL_law 32 = .ok (.aload_n 0, 1) := by decide +kernel
theorem dL_law_33 : decode cL_law 33 = .ok (.iload 4, 2) := by decide +kernel
theorem dL_law_35 : decode cL_law 35 = .ok (.iaload, 1) := by decide +kernel
theorem dL_law_36 : decode cL_law 36 = .ok (.bipush 15, 2) := by decide +kernel
theorem dL_law_38 : decode cL_law 38 = .ok (.iand, 1) := by decide +kernel
theorem dL_law_39 : decode cL_law 39 = .ok (.tableswitch 802 0 12 #[65, 161, 233, 277, 302, 370, 438, 506, 581, 594, 635, 703, 759], 65) := by decide +kernel
theorem dL_law_104 : decode cL_law 104 = .ok (.aload_n 1, 1) := by decide +kernel
theorem dL_law_105 : decode cL_law 105 = .ok (.aload_n 0, 1) := by decide +kernel
theorem dL_law_106 : decode cL_law 106 = .ok (.iload 4, 2) := by decide +kernel
theorem dL_law_108 : decode cL_law 108 = .ok (.iconst 1, 1) := by decide +kernel
theorem dL_law_109 : decode cL_law 109 = .ok (.iadd, 1) := by decide +kernel
theorem dL_law_110 : decode cL_law 110 = .ok (.iaload, 1) := by decide +kernel
theorem dL_law_111 : decode cL_law 111 = .ok (.aload_n 0, 1) := by decide +kernel
theorem dL_law_112 : decode cL_law 112 = .ok (.iload 4, 2) := by decide +kernel
theorem dL_law_114 : decode cL_law 114 = .ok (.iconst 2, 1) := by decide +kernel
theorem dL_law_115 : decode cL_law 115 = .ok (.iadd, 1) := by decide +kernel
theorem dL_law_116 : decode cL_law 116 = .ok (.iaload, 1) := by decide +kernel
theorem dL_law_117 : decode cL_law 117 = .ok (.ifCond .eq 7, 3) := by decide +kernel
theorem dL_law_120 : decode cL_law 120 = .ok (.iconst 1, 1) := by decide +kernel
theorem dL_law_121 : decode cL_law 121 = .ok (.goto 4, 3) := by decide +kernel
theorem dL_law_124 : decode cL_law 124 = .ok (.iconst 0, 1) := by decide +kernel
theorem dL_law_125 : decode cL_law 125 = .ok (.aload_n 0, 1) := by decide +kernel
theorem dL_law_126 : decode cL_law 126 = .ok (.iload 4, 2) := by decide +kernel
theorem dL_law_128 : decode cL_law 128 = .ok (.iconst 3, 1) := by decide +kernel
theorem dL_law_129 : decode cL_law 129 = .ok (.iadd, 1) := by decide +kernel
theorem dL_law_130 : decode cL_law 130 = .ok (.iaload, 1) := by decide +kernel
theorem dL_law_131 : decode cL_law 131 = .ok (.aload_n 3, 1) := by decide +kernel
theorem dL_law_132 : decode cL_law 132 = .ok (.invokestatic 52, 3) := by decide +kernel
theorem dL_law_135 : decode cL_law 135 = .ok (.istore 5, 2) := by decide +kernel
theorem dL_law_137 : decode cL_law 137 = .ok (.aload_n 2, 1) := by decide +kernel
theorem dL_law_138 : decode cL_law 138 = .ok (.aload_n 0, 1) := by decide +kernel
theorem dL_law_139 : decode cL_law 139 = .ok (.iload 4, 2) := by decide +kernel
theorem dL_law_141 : decode cL_law 141 = .ok (.iconst 1, 1) := by decide +kernel
theorem dL_law_142 : decode cL_law 142 = .ok (.iadd, 1) := by decide +kernel
theorem dL_law_143 : decode cL_law 143 = .ok (.iaload, 1) := by decide +kernel
theorem dL_law_144 : decode cL_law 144 = .ok (.aload_n 0, 1) := by decide +kernel
theorem dL_law_145 : decode cL_law 145 = .ok (.iload 4, 2) := by decide +kernel
theorem dL_law_147 : decode cL_law 147 = .ok (.iconst 2, 1) := by decide +kernel
theorem dL_law_148 : decode cL_law 148 = .ok (.iadd, 1) := by decide +kernel
theorem dL_law_149 : decode cL_law 149 = .ok (.iaload, 1) := by decide +kernel
theorem dL_law_150 : decode cL_law 150 = .ok (.ifCond .eq 7, 3) := by decide +kernel
theorem dL_law_153 : decode cL_law 153 = .ok (.iconst 1, 1) := by decide +kernel
theorem dL_law_154 : decode cL_law 154 = .ok (.goto 4, 3) := by decide +kernel
theorem dL_law_157 : decode cL_law 157 = .ok (.iconst 0, 1) := by decide +kernel
theorem dL_law_158 : decode cL_law 158 = .ok (.aload_n 0, 1) := by decide +kernel
theorem dL_law_159 : decode cL_law 159 = .ok (.iload 4, 2) := by decide +kernel
theorem dL_law_161 : decode cL_law 161 = .ok (.iconst 3, 1) := by decide +kernel
theorem dL_law_162 : decode cL_law 162 = .ok (.iadd, 1) := by decide +kernel
theorem dL_law_163 : decode cL_law 163 = .ok (.iaload, 1) := by decide +kernel
theorem dL_law_164 : decode cL_law 164 = .ok (.invokevirtual 57, 3) := by decide +kernel
theorem dL_law_167 : decode cL_law 167 = .ok (.istore 6, 2) := by decide +kernel
theorem dL_law_169 : decode cL_law 169 = .ok (.aload_n 2, 1) := by decide +kernel
theorem dL_law_170 : decode cL_law 170 = .ok (.invokevirtual 58, 3) := by decide +kernel
theorem dL_law_173 : decode cL_law 173 = .ok (.iload 5, 2) := by decide +kernel
theorem dL_law_175 : decode cL_law 175 = .ok (.if_icmp .eq 5, 3) := by decide +kernel
theorem dL_law_178 : decode cL_law 178 = .ok (.iconst 0, 1) := by decide +kernel
theorem dL_law_179 : decode cL_law 179 = .ok (.ireturn, 1) := by decide +kernel
theorem dL_law_180 : decode cL_law 180 = .ok (.iload 5, 2) := by decide +kernel
theorem dL_law_182 : decode cL_law 182 = .ok (.ifCond .ne 15, 3) := by decide +kernel
theorem dL_law_185 : decode cL_law 185 = .ok (.aload_n 3, 1) := by decide +kernel
theorem dL_law_186 : decode cL_law 186 = .ok (.iconst 0, 1) := by decide +kernel
theorem dL_law_187 : decode cL_law 187 = .ok (.laload, 1) := by decide +kernel
theorem dL_law_188 : decode cL_law 188 = .ok (.iload 6, 2) := by decide +kernel
theorem dL_law_190 : decode cL_law 190 = .ok (.i2l, 1) := by decide +kernel
theorem dL_law_191 : decode cL_law 191 = .ok (.lcmp, 1) := by decide +kernel
theorem dL_law_192 : decode cL_law 192 = .ok (.ifCond .eq 5, 3) := by decide +kernel
theorem dL_law_195 : decode cL_law 195 = .ok (.iconst 0, 1) := by decide +kernel
theorem dL_law_196 : decode cL_law 196 = .ok (.ireturn, 1) := by decide +kernel
theorem dL_law_197 : decode cL_law 197 = .ok (.goto 644, 3) := by decide +kernel
theorem dL_law_200 : decode cL_law 200 = .ok (.aload_n 1, 1) := by decide +kernel
theorem dL_law_201 : decode cL_law 201 = .ok (.aload_n 0, 1) := by decide +kernel
theorem dL_law_202 : decode cL_law 202 = .ok (.iload 4, 2) := by decide +kernel
theorem dL_law_204 : decode cL_law 204 = .ok (.iconst 1, 1) := by decide +kernel
theorem dL_law_205 : decode cL_law 205 = .ok (.iadd, 1) := by decide +kernel
theorem dL_law_206 : decode cL_law 206 = .ok (.iaload, 1) := by decide +kernel
theorem dL_law_207 : decode cL_law 207 = .ok (.ifCond .eq 7, 3) := by decide +kernel
theorem dL_law_210 : decode cL_law 210 = .ok (.iconst 1, 1) := by decide +kernel
theorem dL_law_211 : decode cL_law 211 = .ok (.goto 4, 3) := by decide +kernel
theorem dL_law_214 : decode cL_law 214 = .ok (.iconst 0, 1) := by decide +kernel
theorem dL_law_215 : decode cL_law 215 = .ok (.aload_n 3, 1) := by decide +kernel
theorem dL_law_216 : decode cL_law 216 = .ok (.invokestatic 61, 3) := by decide +kernel
theorem dL_law_219 : decode cL_law 219 = .ok (.istore 5, 2) := by decide +kernel
theorem dL_law_221 : decode cL_law 221 = .ok (.aload_n 2, 1) := by decide +kernel
theorem dL_law_222 : decode cL_law 222 = .ok (.aload_n 0, 1) := by decide +kernel
theorem dL_law_223 : decode cL_law 223 = .ok (.iload 4, 2) := by decide +kernel
theorem dL_law_225 : decode cL_law 225 = .ok (.iconst 1, 1) := by decide +kernel
theorem dL_law_226 : decode cL_law 226 = .ok (.iadd, 1) := by decide +kernel
theorem dL_law_227 : decode cL_law 227 = .ok (.iaload, 1) := by decide +kernel
theorem dL_law_228 : decode cL_law 228 = .ok (.ifCond .eq 7, 3) := by decide +kernel
theorem dL_law_231 : decode cL_law 231 = .ok (.iconst 1, 1) := by decide +kernel
theorem dL_law_232 : decode cL_law 232 = .ok (.goto 4, 3) := by decide +kernel
theorem dL_law_235 : decode cL_law 235 = .ok (.iconst 0, 1) := by decide +kernel
theorem dL_law_236 : decode cL_law 236 = .ok (.invokevirtual 64, 3) := by decide +kernel
theorem dL_law_239 : decode cL_law 239 = .ok (.istore 6, 2) := by decide +kernel
theorem dL_law_241 : decode cL_law 241 = .ok (.aload_n 2, 1) := by decide +kernel
theorem dL_law_242 : decode cL_law 242 = .ok (.invokevirtual 58, 3) := by decide +kernel
theorem dL_law_245 : decode cL_law 245 = .ok (.iload 5, 2) := by decide +kernel
theorem dL_law_247 : decode cL_law 247 = .ok (.if_icmp .eq 5, 3) := by decide +kernel
theorem dL_law_250 : decode cL_law 250 = .ok (.iconst 0, 1) := by decide +kernel
theorem dL_law_251 : decode cL_law 251 = .ok (.ireturn, 1) := by decide +kernel
theorem dL_law_252 : decode cL_law 252 = .ok (.iload 5, 2) := by decide +kernel
theorem dL_law_254 : decode cL_law 254 = .ok (.ifCond .ne 15, 3) := by decide +kernel
theorem dL_law_257 : decode cL_law 257 = .ok (.aload_n 3, 1) := by decide +kernel
theorem dL_law_258 : decode cL_law 258 = .ok (.iconst 0, 1) := by decide +kernel
theorem dL_law_259 : decode cL_law 259 = .ok (.laload, 1) := by decide +kernel
theorem dL_law_260 : decode cL_law 260 = .ok (.iload 6, 2) := by decide +kernel
theorem dL_law_262 : decode cL_law 262 = .ok (.i2l, 1) := by decide +kernel
theorem dL_law_263 : decode cL_law 263 = .ok (.lcmp, 1) := by decide +kernel
theorem dL_law_264 : decode cL_law 264 = .ok (.ifCond .eq 5, 3) := by decide +kernel
theorem dL_law_267 : decode cL_law 267 = .ok (.iconst 0, 1) := by decide +kernel
theorem dL_law_268 : decode cL_law 268 = .ok (.ireturn, 1) := by decide +kernel
theorem dL_law_269 : decode cL_law 269 = .ok (.goto 572, 3) := by decide +kernel
theorem dL_law_272 : decode cL_law 272 = .ok (.aload_n 1, 1) := by decide +kernel
theorem dL_law_273 : decode cL_law 273 = .ok (.aload_n 3, 1) := by decide +kernel
theorem dL_law_274 : decode cL_law 274 = .ok (.invokestatic 65, 3) := by decide +kernel
theorem dL_law_277 : decode cL_law 277 = .ok (.istore 5, 2) := by decide +kernel
theorem dL_law_279 : decode cL_law 279 = .ok (.aload_n 2, 1) := by decide +kernel
theorem dL_law_280 : decode cL_law 280 = .ok (.invokevirtual 68, 3) := by decide +kernel
theorem dL_law_283 : decode cL_law 283 = .ok (.istore 6, 2) := by decide +kernel
theorem dL_law_285 : decode cL_law 285 = .ok (.aload_n 2, 1) := by decide +kernel
theorem dL_law_286 : decode cL_law 286 = .ok (.invokevirtual 58, 3) := by decide +kernel
theorem dL_law_289 : decode cL_law 289 = .ok (.iload 5, 2) := by decide +kernel
theorem dL_law_291 : decode cL_law 291 = .ok (.if_icmp .eq 5, 3) := by decide +kernel
theorem dL_law_294 : decode cL_law 294 = .ok (.iconst 0, 1) := by decide +kernel
theorem dL_law_295 : decode cL_law 295 = .ok (.ireturn, 1) := by decide +kernel
theorem dL_law_296 : decode cL_law 296 = .ok (.iload 5, 2) := by decide +kernel
theorem dL_law_298 : decode cL_law 298 = .ok (.ifCond .ne 15, 3) := by decide +kernel
theorem dL_law_301 : decode cL_law 301 = .ok (.aload_n 3, 1) := by decide +kernel
theorem dL_law_302 : decode cL_law 302 = .ok (.iconst 0, 1) := by decide +kernel
theorem dL_law_303 : decode cL_law 303 = .ok (.laload, 1) := by decide +kernel
theorem dL_law_304 : decode cL_law 304 = .ok (.iload 6, 2) := by decide +kernel
theorem dL_law_306 : decode cL_law 306 = .ok (.i2l, 1) := by decide +kernel
theorem dL_law_307 : decode cL_law 307 = .ok (.lcmp, 1) := by decide +kernel
theorem dL_law_308 : decode cL_law 308 = .ok (.ifCond .eq 5, 3) := by decide +kernel
theorem dL_law_311 : decode cL_law 311 = .ok (.iconst 0, 1) := by decide +kernel
theorem dL_law_312 : decode cL_law 312 = .ok (.ireturn, 1) := by decide +kernel
theorem dL_law_313 : decode cL_law 313 = .ok (.goto 528, 3) := by decide +kernel
theorem dL_law_316 : decode cL_law 316 = .ok (.aload_n 1, 1) := by decide +kernel
theorem dL_law_317 : decode cL_law 317 = .ok (.aload_n 0, 1) := by decide +kernel
theorem dL_law_318 : decode cL_law 318 = .ok (.iload 4, 2) := by decide +kernel
theorem dL_law_320 : decode cL_law 320 = .ok (.iconst 1, 1) := by decide +kernel
theorem dL_law_321 : decode cL_law 321 = .ok (.iadd, 1) := by decide +kernel
theorem dL_law_322 : decode cL_law 322 = .ok (.iaload, 1) := by decide +kernel
theorem dL_law_323 : decode cL_law 323 = .ok (.invokevirtual 69, 3) := by decide +kernel
theorem dL_law_326 : decode cL_law 326 = .ok (.aload_n 2, 1) := by decide +kernel
theorem dL_law_327 : decode cL_law 327 = .ok (.aload_n 0, 1) := by decide +kernel
theorem dL_law_328 : decode cL_law 328 = .ok (.iload 4, 2) := by decide +kernel
theorem dL_law_330 : decode cL_law 330 = .ok (.iconst 1, 1) := by decide +kernel
theorem dL_law_331 : decode cL_law 331 = .ok (.iadd, 1) := by decide +kernel
theorem dL_law_332 : decode cL_law 332 = .ok (.iaload, 1) := by decide +kernel
theorem dL_law_333 : decode cL_law 333 = .ok (.invokevirtual 72, 3) := by decide +kernel
theorem dL_law_336 : decode cL_law 336 = .ok (.if_icmp .eq 505, 3) := by decide +kernel
theorem dL_law_339 : decode cL_law 339 = .ok (.iconst 0, 1) := by decide +kernel
theorem dL_law_340 : decode cL_law 340 = .ok (.ireturn, 1) := by decide +kernel
theorem dL_law_341 : decode cL_law 341 = .ok (.aload_n 1, 1) := by decide +kernel
theorem dL_law_342 : decode cL_law 342 = .ok (.aload_n 0, 1) := by decide +kernel
theorem dL_law_343 : decode cL_law 343 = .ok (.iload 4, 2) := by decide +kernel
theorem dL_law_345 : decode cL_law 345 = .ok (.iconst 1, 1) := by decide +kernel
theorem dL_law_346 : decode cL_law 346 = .ok (.iadd, 1) := by decide +kernel
theorem dL_law_347 : decode cL_law 347 = .ok (.iaload, 1) := by decide +kernel
theorem dL_law_348 : decode cL_law 348 = .ok (.aload_n 0, 1) := by decide +kernel
theorem dL_law_349 : decode cL_law 349 = .ok (.iload 4, 2) := by decide +kernel
theorem dL_law_351 : decode cL_law 351 = .ok (.iconst 2, 1) := by decide +kernel
theorem dL_law_352 : decode cL_law 352 = .ok (.iadd, 1) := by decide +kernel
theorem dL_law_353 : decode cL_law 353 = .ok (.iaload, 1) := by decide +kernel
theorem dL_law_354 : decode cL_law 354 = .ok (.aload_n 3, 1) := by decide +kernel
theorem dL_law_355 : decode cL_law 355 = .ok (.invokestatic 73, 3) := by decide +kernel
theorem dL_law_358 : decode cL_law 358 = .ok (.istore 5, 2) := by decide +kernel
theorem dL_law_360 : decode cL_law 360 = .ok (.aload_n 2, 1) := by decide +kernel
theorem dL_law_361 : decode cL_law 361 = .ok (.aload_n 0, 1) := by decide +kernel
theorem dL_law_362 : decode cL_law 362 = .ok (.iload 4, 2) := by decide +kernel
theorem dL_law_364 : decode cL_law 364 = .ok (.iconst 1, 1) := by decide +kernel
theorem dL_law_365 : decode cL_law 365 = .ok (.iadd, 1) := by decide +kernel
theorem dL_law_366 : decode cL_law 366 = .ok (.iaload, 1) := by decide +kernel
theorem dL_law_367 : decode cL_law 367 = .ok (.aload_n 0, 1) := by decide +kernel
theorem dL_law_368 : decode cL_law 368 = .ok (.iload 4, 2) := by decide +kernel
theorem dL_law_370 : decode cL_law 370 = .ok (.iconst 2, 1) := by decide +kernel
theorem dL_law_371 : decode cL_law 371 = .ok (.iadd, 1) := by decide +kernel
theorem dL_law_372 : decode cL_law 372 = .ok (.iaload, 1) := by decide +kernel
theorem dL_law_373 : decode cL_law 373 = .ok (.invokevirtual 76, 3) := by decide +kernel
theorem dL_law_376 : decode cL_law 376 = .ok (.istore 6, 2) := by decide +kernel
theorem dL_law_378 : decode cL_law 378 = .ok (.aload_n 2, 1) := by decide +kernel
theorem dL_law_379 : decode cL_law 379 = .ok (.invokevirtual 58, 3) := by decide +kernel
theorem dL_law_382 : decode cL_law 382 = .ok (.iload 5, 2) := by decide +kernel
theorem dL_law_384 : decode cL_law 384 = .ok (.if_icmp .eq 5, 3) := by decide +kernel
theorem dL_law_387 : decode cL_law 387 = .ok (.iconst 0, 1) := by decide +kernel
theorem dL_law_388 : decode cL_law 388 = .ok (.ireturn, 1) := by decide +kernel
theorem dL_law_389 : decode cL_law 389 = .ok (.iload 5, 2) := by decide +kernel
theorem dL_law_391 : decode cL_law 391 = .ok (.ifCond .ne 15, 3) := by decide +kernel
theorem dL_law_394 : decode cL_law 394 = .ok (.aload_n 3, 1) := by decide +kernel
theorem dL_law_395 : decode cL_law 395 = .ok (.iconst 0, 1) := by decide +kernel
theorem dL_law_396 : decode cL_law 396 = .ok (.laload, 1) := by decide +kernel
theorem dL_law_397 : decode cL_law 397 = .ok (.iload 6, 2) := by decide +kernel
theorem dL_law_399 : decode cL_law 399 = .ok (.i2l, 1) := by decide +kernel
theorem dL_law_400 : decode cL_law 400 = .ok (.lcmp, 1) := by decide +kernel
theorem dL_law_401 : decode cL_law 401 = .ok (.ifCond .eq 5, 3) := by decide +kernel
theorem dL_law_404 : decode cL_law 404 = .ok (.iconst 0, 1) := by decide +kernel
theorem dL_law_405 : decode cL_law 405 = .ok (.ireturn, 1) := by decide +kernel
theorem dL_law_406 : decode cL_law 406 = .ok (.goto 435, 3) := by decide +kernel
theorem dL_law_409 : decode cL_law 409 = .ok (.aload_n 1, 1) := by decide +kernel
theorem dL_law_410 : decode cL_law 410 = .ok (.aload_n 0, 1) := by decide +kernel
theorem dL_law_411 : decode cL_law 411 = .ok (.iload 4, 2) := by decide +kernel
theorem dL_law_413 : decode cL_law 413 = .ok (.iconst 1, 1) := by decide +kernel
theorem dL_law_414 : decode cL_law 414 = .ok (.iadd, 1) := by decide +kernel
theorem dL_law_415 : decode cL_law 415 = .ok (.iaload, 1) := by decide +kernel
theorem dL_law_416 : decode cL_law 416 = .ok (.aload_n 0, 1) := by decide +kernel
theorem dL_law_417 : decode cL_law 417 = .ok (.iload 4, 2) := by decide +kernel
theorem dL_law_419 : decode cL_law 419 = .ok (.iconst 2, 1) := by decide +kernel
theorem dL_law_420 : decode cL_law 420 = .ok (.iadd, 1) := by decide +kernel
theorem dL_law_421 : decode cL_law 421 = .ok (.iaload, 1) := by decide +kernel
theorem dL_law_422 : decode cL_law 422 = .ok (.aload_n 3, 1) := by decide +kernel
theorem dL_law_423 : decode cL_law 423 = .ok (.invokestatic 77, 3) := by decide +kernel
theorem dL_law_426 : decode cL_law 426 = .ok (.istore 5, 2) := by decide +kernel
theorem dL_law_428 : decode cL_law 428 = .ok (.aload_n 2, 1) := by decide +kernel
theorem dL_law_429 : decode cL_law 429 = .ok (.aload_n 0, 1) := by decide +kernel
theorem dL_law_430 : decode cL_law 430 = .ok (.iload 4, 2) := by decide +kernel
theorem dL_law_432 : decode cL_law 432 = .ok (.iconst 1, 1) := by decide +kernel
theorem dL_law_433 : decode cL_law 433 = .ok (.iadd, 1) := by decide +kernel
theorem dL_law_434 : decode cL_law 434 = .ok (.iaload, 1) := by decide +kernel
theorem dL_law_435 : decode cL_law 435 = .ok (.aload_n 0, 1) := by decide +kernel
theorem dL_law_436 : decode cL_law 436 = .ok (.iload 4, 2) := by decide +kernel
theorem dL_law_438 : decode cL_law 438 = .ok (.iconst 2, 1) := by decide +kernel
theorem dL_law_439 : decode cL_law 439 = .ok (.iadd, 1) := by decide +kernel
theorem dL_law_440 : decode cL_law 440 = .ok (.iaload, 1) := by decide +kernel
theorem dL_law_441 : decode cL_law 441 = .ok (.invokevirtual 79, 3) := by decide +kernel
theorem dL_law_444 : decode cL_law 444 = .ok (.istore 6, 2) := by decide +kernel
theorem dL_law_446 : decode cL_law 446 = .ok (.aload_n 2, 1) := by decide +kernel
theorem dL_law_447 : decode cL_law 447 = .ok (.invokevirtual 58, 3) := by decide +kernel
theorem dL_law_450 : decode cL_law 450 = .ok (.iload 5, 2) := by decide +kernel
theorem dL_law_452 : decode cL_law 452 = .ok (.if_icmp .eq 5, 3) := by decide +kernel
theorem dL_law_455 : decode cL_law 455 = .ok (.iconst 0, 1) := by decide +kernel
theorem dL_law_456 : decode cL_law 456 = .ok (.ireturn, 1) := by decide +kernel
theorem dL_law_457 : decode cL_law 457 = .ok (.iload 5, 2) := by decide +kernel
theorem dL_law_459 : decode cL_law 459 = .ok (.ifCond .ne 15, 3) := by decide +kernel
theorem dL_law_462 : decode cL_law 462 = .ok (.aload_n 3, 1) := by decide +kernel
theorem dL_law_463 : decode cL_law 463 = .ok (.iconst 0, 1) := by decide +kernel
theorem dL_law_464 : decode cL_law 464 = .ok (.laload, 1) := by decide +kernel
theorem dL_law_465 : decode cL_law 465 = .ok (.iload 6, 2) := by decide +kernel
theorem dL_law_467 : decode cL_law 467 = .ok (.i2l, 1) := by decide +kernel
theorem dL_law_468 : decode cL_law 468 = .ok (.lcmp, 1) := by decide +kernel
theorem dL_law_469 : decode cL_law 469 = .ok (.ifCond .eq 5, 3) := by decide +kernel
theorem dL_law_472 : decode cL_law 472 = .ok (.iconst 0, 1) := by decide +kernel
theorem dL_law_473 : decode cL_law 473 = .ok (.ireturn, 1) := by decide +kernel
theorem dL_law_474 : decode cL_law 474 = .ok (.goto 367, 3) := by decide +kernel
theorem dL_law_477 : decode cL_law 477 = .ok (.aload_n 1, 1) := by decide +kernel
theorem dL_law_478 : decode cL_law 478 = .ok (.aload_n 0, 1) := by decide +kernel
theorem dL_law_479 : decode cL_law 479 = .ok (.iload 4, 2) := by decide +kernel
theorem dL_law_481 : decode cL_law 481 = .ok (.iconst 1, 1) := by decide +kernel
theorem dL_law_482 : decode cL_law 482 = .ok (.iadd, 1) := by decide +kernel
theorem dL_law_483 : decode cL_law 483 = .ok (.iaload, 1) := by decide +kernel
theorem dL_law_484 : decode cL_law 484 = .ok (.aload_n 0, 1) := by decide +kernel
theorem dL_law_485 : decode cL_law 485 = .ok (.iload 4, 2) := by decide +kernel
theorem dL_law_487 : decode cL_law 487 = .ok (.iconst 2, 1) := by decide +kernel
theorem dL_law_488 : decode cL_law 488 = .ok (.iadd, 1) := by decide +kernel
theorem dL_law_489 : decode cL_law 489 = .ok (.iaload, 1) := by decide +kernel
theorem dL_law_490 : decode cL_law 490 = .ok (.aload_n 3, 1) := by decide +kernel
theorem dL_law_491 : decode cL_law 491 = .ok (.invokestatic 80, 3) := by decide +kernel
theorem dL_law_494 : decode cL_law 494 = .ok (.istore 5, 2) := by decide +kernel
theorem dL_law_496 : decode cL_law 496 = .ok (.aload_n 2, 1) := by decide +kernel
theorem dL_law_497 : decode cL_law 497 = .ok (.aload_n 0, 1) := by decide +kernel
theorem dL_law_498 : decode cL_law 498 = .ok (.iload 4, 2) := by decide +kernel
theorem dL_law_500 : decode cL_law 500 = .ok (.iconst 1, 1) := by decide +kernel
theorem dL_law_501 : decode cL_law 501 = .ok (.iadd, 1) := by decide +kernel
theorem dL_law_502 : decode cL_law 502 = .ok (.iaload, 1) := by decide +kernel
theorem dL_law_503 : decode cL_law 503 = .ok (.aload_n 0, 1) := by decide +kernel
theorem dL_law_504 : decode cL_law 504 = .ok (.iload 4, 2) := by decide +kernel
theorem dL_law_506 : decode cL_law 506 = .ok (.iconst 2, 1) := by decide +kernel
theorem dL_law_507 : decode cL_law 507 = .ok (.iadd, 1) := by decide +kernel
theorem dL_law_508 : decode cL_law 508 = .ok (.iaload, 1) := by decide +kernel
theorem dL_law_509 : decode cL_law 509 = .ok (.invokevirtual 82, 3) := by decide +kernel
theorem dL_law_512 : decode cL_law 512 = .ok (.istore 6, 2) := by decide +kernel
theorem dL_law_514 : decode cL_law 514 = .ok (.aload_n 2, 1) := by decide +kernel
theorem dL_law_515 : decode cL_law 515 = .ok (.invokevirtual 58, 3) := by decide +kernel
theorem dL_law_518 : decode cL_law 518 = .ok (.iload 5, 2) := by decide +kernel
theorem dL_law_520 : decode cL_law 520 = .ok (.if_icmp .eq 5, 3) := by decide +kernel
theorem dL_law_523 : decode cL_law 523 = .ok (.iconst 0, 1) := by decide +kernel
theorem dL_law_524 : decode cL_law 524 = .ok (.ireturn, 1) := by decide +kernel
theorem dL_law_525 : decode cL_law 525 = .ok (.iload 5, 2) := by decide +kernel
theorem dL_law_527 : decode cL_law 527 = .ok (.ifCond .ne 15, 3) := by decide +kernel
theorem dL_law_530 : decode cL_law 530 = .ok (.aload_n 3, 1) := by decide +kernel
theorem dL_law_531 : decode cL_law 531 = .ok (.iconst 0, 1) := by decide +kernel
theorem dL_law_532 : decode cL_law 532 = .ok (.laload, 1) := by decide +kernel
theorem dL_law_533 : decode cL_law 533 = .ok (.iload 6, 2) := by decide +kernel
theorem dL_law_535 : decode cL_law 535 = .ok (.i2l, 1) := by decide +kernel
theorem dL_law_536 : decode cL_law 536 = .ok (.lcmp, 1) := by decide +kernel
theorem dL_law_537 : decode cL_law 537 = .ok (.ifCond .eq 5, 3) := by decide +kernel
theorem dL_law_540 : decode cL_law 540 = .ok (.iconst 0, 1) := by decide +kernel
theorem dL_law_541 : decode cL_law 541 = .ok (.ireturn, 1) := by decide +kernel
theorem dL_law_542 : decode cL_law 542 = .ok (.goto 299, 3) := by decide +kernel
theorem dL_law_545 : decode cL_law 545 = .ok (.aload_n 1, 1) := by decide +kernel
theorem dL_law_546 : decode cL_law 546 = .ok (.aload_n 0, 1) := by decide +kernel
theorem dL_law_547 : decode cL_law 547 = .ok (.iload 4, 2) := by decide +kernel
theorem dL_law_549 : decode cL_law 549 = .ok (.iconst 1, 1) := by decide +kernel
theorem dL_law_550 : decode cL_law 550 = .ok (.iadd, 1) := by decide +kernel
theorem dL_law_551 : decode cL_law 551 = .ok (.iaload, 1) := by decide +kernel
theorem dL_law_552 : decode cL_law 552 = .ok (.aload_n 0, 1) := by decide +kernel
theorem dL_law_553 : decode cL_law 553 = .ok (.iload 4, 2) := by decide +kernel
theorem dL_law_555 : decode cL_law 555 = .ok (.iconst 2, 1) := by decide +kernel
theorem dL_law_556 : decode cL_law 556 = .ok (.iadd, 1) := by decide +kernel
theorem dL_law_557 : decode cL_law 557 = .ok (.iaload, 1) := by decide +kernel
theorem dL_law_558 : decode cL_law 558 = .ok (.aload_n 3, 1) := by decide +kernel
theorem dL_law_559 : decode cL_law 559 = .ok (.invokestatic 83, 3) := by decide +kernel
theorem dL_law_562 : decode cL_law 562 = .ok (.istore 5, 2) := by decide +kernel
theorem dL_law_564 : decode cL_law 564 = .ok (.aload_n 2, 1) := by decide +kernel
theorem dL_law_565 : decode cL_law 565 = .ok (.aload_n 0, 1) := by decide +kernel
theorem dL_law_566 : decode cL_law 566 = .ok (.iload 4, 2) := by decide +kernel
theorem dL_law_568 : decode cL_law 568 = .ok (.iconst 1, 1) := by decide +kernel
theorem dL_law_569 : decode cL_law 569 = .ok (.iadd, 1) := by decide +kernel
theorem dL_law_570 : decode cL_law 570 = .ok (.iaload, 1) := by decide +kernel
theorem dL_law_571 : decode cL_law 571 = .ok (.aload_n 0, 1) := by decide +kernel
theorem dL_law_572 : decode cL_law 572 = .ok (.iload 4, 2) := by decide +kernel
theorem dL_law_574 : decode cL_law 574 = .ok (.iconst 2, 1) := by decide +kernel
theorem dL_law_575 : decode cL_law 575 = .ok (.iadd, 1) := by decide +kernel
theorem dL_law_576 : decode cL_law 576 = .ok (.iaload, 1) := by decide +kernel
theorem dL_law_577 : decode cL_law 577 = .ok (.invokevirtual 85, 3) := by decide +kernel
theorem dL_law_580 : decode cL_law 580 = .ok (.istore 6, 2) := by decide +kernel
theorem dL_law_582 : decode cL_law 582 = .ok (.aload_n 2, 1) := by decide +kernel
theorem dL_law_583 : decode cL_law 583 = .ok (.invokevirtual 58, 3) := by decide +kernel
theorem dL_law_586 : decode cL_law 586 = .ok (.iload 5, 2) := by decide +kernel
theorem dL_law_588 : decode cL_law 588 = .ok (.if_icmp .eq 5, 3) := by decide +kernel
theorem dL_law_591 : decode cL_law 591 = .ok (.iconst 0, 1) := by decide +kernel
theorem dL_law_592 : decode cL_law 592 = .ok (.ireturn, 1) := by decide +kernel
theorem dL_law_593 : decode cL_law 593 = .ok (.iload 5, 2) := by decide +kernel
theorem dL_law_595 : decode cL_law 595 = .ok (.ifCond .ne 22, 3) := by decide +kernel
theorem dL_law_598 : decode cL_law 598 = .ok (.aload_n 3, 1) := by decide +kernel
theorem dL_law_599 : decode cL_law 599 = .ok (.iconst 0, 1) := by decide +kernel
theorem dL_law_600 : decode cL_law 600 = .ok (.laload, 1) := by decide +kernel
theorem dL_law_601 : decode cL_law 601 = .ok (.iload 6, 2) := by decide +kernel
theorem dL_law_603 : decode cL_law 603 = .ok (.ifCond .eq 7, 3) := by decide +kernel
theorem dL_law_606 : decode cL_law 606 = .ok (.lconst 1, 1) := by decide +kernel
theorem dL_law_607 : decode cL_law 607 = .ok (.goto 4, 3) := by decide +kernel
theorem dL_law_610 : decode cL_law 610 = .ok (.lconst 0, 1) := by decide +kernel
theorem dL_law_611 : decode cL_law 611 = .ok (.lcmp, 1) := by decide +kernel
theorem dL_law_612 : decode cL_law 612 = .ok (.ifCond .eq 5, 3) := by decide +kernel
theorem dL_law_615 : decode cL_law 615 = .ok (.iconst 0, 1) := by decide +kernel
theorem dL_law_616 : decode cL_law 616 = .ok (.ireturn, 1) := by decide +kernel
theorem dL_law_617 : decode cL_law 617 = .ok (.goto 224, 3) := by decide +kernel
theorem dL_law_620 : decode cL_law 620 = .ok (.aload_n 1, 1) := by decide +kernel
theorem dL_law_621 : decode cL_law 621 = .ok (.invokevirtual 86, 3) := by decide +kernel
theorem dL_law_624 : decode cL_law 624 = .ok (.aload_n 2, 1) := by decide +kernel
theorem dL_law_625 : decode cL_law 625 = .ok (.invokevirtual 89, 3) := by decide +kernel
theorem dL_law_628 : decode cL_law 628 = .ok (.if_icmp .eq 213, 3) := by decide +kernel
theorem dL_law_631 : decode cL_law 631 = .ok (.iconst 0, 1) := by decide +kernel
theorem dL_law_632 : decode cL_law 632 = .ok (.ireturn, 1) := by decide +kernel
theorem dL_law_633 : decode cL_law 633 = .ok (.aload_n 1, 1) := by decide +kernel
theorem dL_law_634 : decode cL_law 634 = .ok (.aload_n 0, 1) := by decide +kernel
theorem dL_law_635 : decode cL_law 635 = .ok (.iload 4, 2) := by decide +kernel
theorem dL_law_637 : decode cL_law 637 = .ok (.iconst 1, 1) := by decide +kernel
theorem dL_law_638 : decode cL_law 638 = .ok (.iadd, 1) := by decide +kernel
theorem dL_law_639 : decode cL_law 639 = .ok (.iaload, 1) := by decide +kernel
theorem dL_law_640 : decode cL_law 640 = .ok (.ifCond .eq 7, 3) := by decide +kernel
theorem dL_law_643 : decode cL_law 643 = .ok (.iconst 1, 1) := by decide +kernel
theorem dL_law_644 : decode cL_law 644 = .ok (.goto 4, 3) := by decide +kernel
theorem dL_law_647 : decode cL_law 647 = .ok (.iconst 0, 1) := by decide +kernel
theorem dL_law_648 : decode cL_law 648 = .ok (.invokevirtual 90, 3) := by decide +kernel
theorem dL_law_651 : decode cL_law 651 = .ok (.aload_n 2, 1) := by decide +kernel
theorem dL_law_652 : decode cL_law 652 = .ok (.aload_n 0, 1) := by decide +kernel
theorem dL_law_653 : decode cL_law 653 = .ok (.iload 4, 2) := by decide +kernel
theorem dL_law_655 : decode cL_law 655 = .ok (.iconst 1, 1) := by decide +kernel
theorem dL_law_656 : decode cL_law 656 = .ok (.iadd, 1) := by decide +kernel
theorem dL_law_657 : decode cL_law 657 = .ok (.iaload, 1) := by decide +kernel
theorem dL_law_658 : decode cL_law 658 = .ok (.ifCond .eq 7, 3) := by decide +kernel
theorem dL_law_661 : decode cL_law 661 = .ok (.iconst 1, 1) := by decide +kernel
theorem dL_law_662 : decode cL_law 662 = .ok (.goto 4, 3) := by decide +kernel
theorem dL_law_665 : decode cL_law 665 = .ok (.iconst 0, 1) := by decide +kernel
theorem dL_law_666 : decode cL_law 666 = .ok (.invokevirtual 93, 3) := by decide +kernel
theorem dL_law_669 : decode cL_law 669 = .ok (.if_icmp .eq 172, 3) := by decide +kernel
theorem dL_law_672 : decode cL_law 672 = .ok (.iconst 0, 1) := by decide +kernel
theorem dL_law_673 : decode cL_law 673 = .ok (.ireturn, 1) := by decide +kernel
theorem dL_law_674 : decode cL_law 674 = .ok (.aload_n 1, 1) := by decide +kernel
theorem dL_law_675 : decode cL_law 675 = .ok (.aload_n 0, 1) := by decide +kernel
theorem dL_law_676 : decode cL_law 676 = .ok (.iload 4, 2) := by decide +kernel
theorem dL_law_678 : decode cL_law 678 = .ok (.iconst 1, 1) := by decide +kernel
theorem dL_law_679 : decode cL_law 679 = .ok (.iadd, 1) := by decide +kernel
theorem dL_law_680 : decode cL_law 680 = .ok (.iaload, 1) := by decide +kernel
theorem dL_law_681 : decode cL_law 681 = .ok (.aload_n 0, 1) := by decide +kernel
theorem dL_law_682 : decode cL_law 682 = .ok (.iload 4, 2) := by decide +kernel
theorem dL_law_684 : decode cL_law 684 = .ok (.iconst 2, 1) := by decide +kernel
theorem dL_law_685 : decode cL_law 685 = .ok (.iadd, 1) := by decide +kernel
theorem dL_law_686 : decode cL_law 686 = .ok (.iaload, 1) := by decide +kernel
theorem dL_law_687 : decode cL_law 687 = .ok (.aload_n 3, 1) := by decide +kernel
theorem dL_law_688 : decode cL_law 688 = .ok (.invokestatic 94, 3) := by decide +kernel
theorem dL_law_691 : decode cL_law 691 = .ok (.istore 5, 2) := by decide +kernel
theorem dL_law_693 : decode cL_law 693 = .ok (.aload_n 2, 1) := by decide +kernel
theorem dL_law_694 : decode cL_law 694 = .ok (.aload_n 0, 1) := by decide +kernel
theorem dL_law_695 : decode cL_law 695 = .ok (.iload 4, 2) := by decide +kernel
theorem dL_law_697 : decode cL_law 697 = .ok (.iconst 1, 1) := by decide +kernel
theorem dL_law_698 : decode cL_law 698 = .ok (.iadd, 1) := by decide +kernel
theorem dL_law_699 : decode cL_law 699 = .ok (.iaload, 1) := by decide +kernel
theorem dL_law_700 : decode cL_law 700 = .ok (.aload_n 0, 1) := by decide +kernel
theorem dL_law_701 : decode cL_law 701 = .ok (.iload 4, 2) := by decide +kernel
theorem dL_law_703 : decode cL_law 703 = .ok (.iconst 2, 1) := by decide +kernel
theorem dL_law_704 : decode cL_law 704 = .ok (.iadd, 1) := by decide +kernel
theorem dL_law_705 : decode cL_law 705 = .ok (.iaload, 1) := by decide +kernel
theorem dL_law_706 : decode cL_law 706 = .ok (.invokevirtual 96, 3) := by decide +kernel
theorem dL_law_709 : decode cL_law 709 = .ok (.istore 6, 2) := by decide +kernel
theorem dL_law_711 : decode cL_law 711 = .ok (.aload_n 2, 1) := by decide +kernel
theorem dL_law_712 : decode cL_law 712 = .ok (.invokevirtual 58, 3) := by decide +kernel
theorem dL_law_715 : decode cL_law 715 = .ok (.iload 5, 2) := by decide +kernel
theorem dL_law_717 : decode cL_law 717 = .ok (.if_icmp .eq 5, 3) := by decide +kernel
theorem dL_law_720 : decode cL_law 720 = .ok (.iconst 0, 1) := by decide +kernel
theorem dL_law_721 : decode cL_law 721 = .ok (.ireturn, 1) := by decide +kernel
theorem dL_law_722 : decode cL_law 722 = .ok (.iload 5, 2) := by decide +kernel
theorem dL_law_724 : decode cL_law 724 = .ok (.ifCond .ne 15, 3) := by decide +kernel
theorem dL_law_727 : decode cL_law 727 = .ok (.aload_n 3, 1) := by decide +kernel
theorem dL_law_728 : decode cL_law 728 = .ok (.iconst 0, 1) := by decide +kernel
theorem dL_law_729 : decode cL_law 729 = .ok (.laload, 1) := by decide +kernel
theorem dL_law_730 : decode cL_law 730 = .ok (.iload 6, 2) := by decide +kernel
theorem dL_law_732 : decode cL_law 732 = .ok (.i2l, 1) := by decide +kernel
theorem dL_law_733 : decode cL_law 733 = .ok (.lcmp, 1) := by decide +kernel
theorem dL_law_734 : decode cL_law 734 = .ok (.ifCond .eq 5, 3) := by decide +kernel
theorem dL_law_737 : decode cL_law 737 = .ok (.iconst 0, 1) := by decide +kernel
theorem dL_law_738 : decode cL_law 738 = .ok (.ireturn, 1) := by decide +kernel
theorem dL_law_739 : decode cL_law 739 = .ok (.goto 102, 3) := by decide +kernel
theorem dL_law_742 : decode cL_law 742 = .ok (.aload_n 1, 1) := by decide +kernel
theorem dL_law_743 : decode cL_law 743 = .ok (.aload_n 0, 1) := by decide +kernel
theorem dL_law_744 : decode cL_law 744 = .ok (.iload 4, 2) := by decide +kernel
theorem dL_law_746 : decode cL_law 746 = .ok (.iconst 1, 1) := by decide +kernel
theorem dL_law_747 : decode cL_law 747 = .ok (.iadd, 1) := by decide +kernel
theorem dL_law_748 : decode cL_law 748 = .ok (.iaload, 1) := by decide +kernel
theorem dL_law_749 : decode cL_law 749 = .ok (.aload_n 3, 1) := by decide +kernel
theorem dL_law_750 : decode cL_law 750 = .ok (.invokestatic 97, 3) := by decide +kernel
theorem dL_law_753 : decode cL_law 753 = .ok (.istore 5, 2) := by decide +kernel
theorem dL_law_755 : decode cL_law 755 = .ok (.aload_n 2, 1) := by decide +kernel
theorem dL_law_756 : decode cL_law 756 = .ok (.aload_n 0, 1) := by decide +kernel
theorem dL_law_757 : decode cL_law 757 = .ok (.iload 4, 2) := by decide +kernel
theorem dL_law_759 : decode cL_law 759 = .ok (.iconst 1, 1) := by decide +kernel
theorem dL_law_760 : decode cL_law 760 = .ok (.iadd, 1) := by decide +kernel
theorem dL_law_761 : decode cL_law 761 = .ok (.iaload, 1) := by decide +kernel
theorem dL_law_762 : decode cL_law 762 = .ok (.invokevirtual 100, 3) := by decide +kernel
theorem dL_law_765 : decode cL_law 765 = .ok (.istore 6, 2) := by decide +kernel
theorem dL_law_767 : decode cL_law 767 = .ok (.aload_n 2, 1) := by decide +kernel
theorem dL_law_768 : decode cL_law 768 = .ok (.invokevirtual 58, 3) := by decide +kernel
theorem dL_law_771 : decode cL_law 771 = .ok (.iload 5, 2) := by decide +kernel
theorem dL_law_773 : decode cL_law 773 = .ok (.if_icmp .eq 5, 3) := by decide +kernel
theorem dL_law_776 : decode cL_law 776 = .ok (.iconst 0, 1) := by decide +kernel
theorem dL_law_777 : decode cL_law 777 = .ok (.ireturn, 1) := by decide +kernel
theorem dL_law_778 : decode cL_law 778 = .ok (.iload 5, 2) := by decide +kernel
theorem dL_law_780 : decode cL_law 780 = .ok (.ifCond .ne 15, 3) := by decide +kernel
theorem dL_law_783 : decode cL_law 783 = .ok (.aload_n 3, 1) := by decide +kernel
theorem dL_law_784 : decode cL_law 784 = .ok (.iconst 0, 1) := by decide +kernel
theorem dL_law_785 : decode cL_law 785 = .ok (.laload, 1) := by decide +kernel
theorem dL_law_786 : decode cL_law 786 = .ok (.iload 6, 2) := by decide +kernel
theorem dL_law_788 : decode cL_law 788 = .ok (.i2l, 1) := by decide +kernel
theorem dL_law_789 : decode cL_law 789 = .ok (.lcmp, 1) := by decide +kernel
theorem dL_law_790 : decode cL_law 790 = .ok (.ifCond .eq 5, 3) := by decide +kernel
theorem dL_law_793 : decode cL_law 793 = .ok (.iconst 0, 1) := by decide +kernel
theorem dL_law_794 : decode cL_law 794 = .ok (.ireturn, 1) := by decide +kernel
theorem dL_law_795 : decode cL_law 795 = .ok (.goto 46, 3) := by decide +kernel
theorem dL_law_798 : decode cL_law 798 = .ok (.aload_n 1, 1) := by decide +kernel
theorem dL_law_799 : decode cL_law 799 = .ok (.invokevirtual 101, 3) := by decide +kernel
theorem dL_law_802 : decode cL_law 802 = .ok (.f2d, 1) := by decide +kernel
theorem dL_law_803 : decode cL_law 803 = .ok (.dstore 5, 2) := by decide +kernel
theorem dL_law_805 : decode cL_law 805 = .ok (.aload_n 2, 1) := by decide +kernel
theorem dL_law_806 : decode cL_law 806 = .ok (.invokevirtual 105, 3) := by decide +kernel
theorem dL_law_809 : decode cL_law 809 = .ok (.f2d, 1) := by decide +kernel
theorem dL_law_810 : decode cL_law 810 = .ok (.dstore 7, 2) := by decide +kernel
theorem dL_law_812 : decode cL_law 812 = .ok (.dload 5, 2) := by decide +kernel
theorem dL_law_814 : decode cL_law 814 = .ok (.dload 7, 2) := by decide +kernel
theorem dL_law_816 : decode cL_law 816 = .ok (.dcmp .l, 1) := by decide +kernel
theorem dL_law_817 : decode cL_law 817 = .ok (.ifCond .eq 21, 3) := by decide +kernel
theorem dL_law_820 : decode cL_law 820 = .ok (.dload 5, 2) := by decide +kernel
theorem dL_law_822 : decode cL_law 822 = .ok (.dload 5, 2) := by decide +kernel
theorem dL_law_824 : decode cL_law 824 = .ok (.dcmp .l, 1) := by decide +kernel
theorem dL_law_825 : decode cL_law 825 = .ok (.ifCond .eq 11, 3) := by decide +kernel
theorem dL_law_828 : decode cL_law 828 = .ok (.dload 7, 2) := by decide +kernel
theorem dL_law_830 : decode cL_law 830 = .ok (.dload 7, 2) := by decide +kernel
theorem dL_law_832 : decode cL_law 832 = .ok (.dcmp .l, 1) := by decide +kernel
theorem dL_law_833 : decode cL_law 833 = .ok (.ifCond .ne 5, 3) := by decide +kernel
theorem dL_law_836 : decode cL_law 836 = .ok (.iconst 0, 1) := by decide +kernel
theorem dL_law_837 : decode cL_law 837 = .ok (.ireturn, 1) := by decide +kernel
theorem dL_law_838 : decode cL_law 838 = .ok (.goto 3, 3) := by decide +kernel
theorem dL_law_841 : decode cL_law 841 = .ok (.iinc 4 4, 3) := by decide +kernel
theorem dL_law_844 : decode cL_law 844 = .ok (.goto (-821), 3) := by decide +kernel
theorem dL_law_847 : decode cL_law 847 = .ok (.iconst 1, 1) := by decide +kernel
theorem dL_law_848 : decode cL_law 848 = .ok (.ireturn, 1) := by decide +kernel
