theorem dL_thirst_73 : decode cL_thirst 73 = .ok (.istore 6, 2) := by decide +kernel
theorem dL_thirst_75 : decode cL_thirst 75 = .ok (.iload 4, 2) := by decide +kernel
theorem dL_thirst_77 : decode cL_thirst 77 = .ok (.iconst (-1), 1) := by decide +kernel
theorem dL_thirst_78 : decode cL_thirst 78 = .ok (.if_icmp .eq 17, 3) := by decide +kernel
theorem dL_thirst_81 : decode cL_thirst 81 = .ok (.iload 4, 2) := by decide +kernel
theorem dL_thirst_83 : decode cL_thirst 83 = .ok (.iload 6, 2) := by decide +kernel
theorem dL_thirst_85 : decode cL_thirst 85 = .ok (.if_icmp .gt 10, 3) := by decide +kernel
theorem dL_thirst_88 : decode cL_thirst 88 = .ok (.iload 6, 2) := by decide +kernel
theorem dL_thirst_90 : decode cL_thirst 90 = .ok (.bipush 60, 2) := by decide +kernel
theorem dL_thirst_92 : decode cL_thirst 92 = .ok (.if_icmp .lt 41, 3) := by decide +kernel
theorem dL_thirst_95 : decode cL_thirst 95 = .ok (.iload 6, 2) := by decide +kernel
theorem dL_thirst_97 : decode cL_thirst 97 = .ok (.bipush 60, 2) := by decide +kernel
theorem dL_thirst_99 : decode cL_thirst 99 = .ok (.if_icmp .lt 9, 3) := by decide +kernel
theorem dL_thirst_102 : decode cL_thirst 102 = .ok (.iload 4, 2) := by decide +kernel
theorem dL_thirst_104 : decode cL_thirst 104 = .ok (.iconst (-1), 1) := by decide +kernel
theorem dL_thirst_105 : decode cL_thirst 105 = .ok (.if_icmp .ne 28, 3) := by decide +kernel
theorem dL_thirst_108 : decode cL_thirst 108 = .ok (.aload_n 0, 1) := by decide +kernel
theorem dL_thirst_109 : decode cL_thirst 109 = .ok (.iload_n 2, 1) := by decide +kernel
theorem dL_thirst_110 : decode cL_thirst 110 = .ok (.iconst 3, 1) := by decide +kernel
theorem dL_thirst_111 : decode cL_thirst 111 = .ok (.invokevirtual 85, 3) := by decide +kernel
theorem dL_thirst_114 : decode cL_thirst 114 = .ok (.iload 5, 2) := by decide +kernel
theorem dL_thirst_116 : decode cL_thirst 116 = .ok (.if_icmp .ne 17, 3) := by decide +kernel
theorem dL_thirst_119 : decode cL_thirst 119 = .ok (.aload_n 0, 1) := by decide +kernel
theorem dL_thirst_120 : decode cL_thirst 120 = .ok (.bipush 15, 2) := by decide +kernel
theorem dL_thirst_122 : decode cL_thirst 122 = .ok (.invokevirtual 28, 3) := by decide +kernel
theorem dL_thirst_125 : decode cL_thirst 125 = .ok (.iload_n 3, 1) := by decide +kernel
theorem dL_thirst_126 : decode cL_thirst 126 = .ok (.if_icmp .ne 7, 3) := by decide +kernel
theorem dL_thirst_129 : decode cL_thirst 129 = .ok (.iconst 1, 1) := by decide +kernel
theorem dL_thirst_130 : decode cL_thirst 130 = .ok (.goto 4, 3) := by decide +kernel
theorem dL_thirst_133 : decode cL_thirst 133 = .ok (.iconst 0, 1) := by decide +kernel
theorem dL_thirst_134 : decode cL_thirst 134 = .ok (.ireturn, 1) := by decide +kernel
theorem dL_led_0 : decode cL_led 0 = .ok (.bipush (-2), 2) := by decide +kernel
theorem dL_led_2 : decode cL_led 2 = .ok (.istore 4, 2) := by decide +kernel
theorem dL_led_4 : decode cL_led 4 = .ok (.iconst 0, 1) := by decide +kernel
theorem dL_led_5 : decode cL_led 5 = .ok (.istore 5, 2) := by decide +kernel
theorem dL_led_7 : decode cL_led 7 = .ok (.iconst 0, 1) := by decide +kernel
theorem dL_led_8 : decode cL_led 8 = .ok (.istore 6, 2) := by decide +kernel
theorem dL_led_10 : decode cL_led 10 = .ok (.iconst 0, 1) := by decide +kernel
theorem dL_led_11 : decode cL_led 11 = .ok (.istore 7, 2) := by decide +kernel
theorem dL_led_13 : decode cL_led 13 = .ok (.iload 7, 2) := by decide +kernel
theorem dL_led_15 : decode cL_led 15 = .ok (.iload_n 2, 1) := by decide +kernel
theorem dL_led_16 : decode cL_led 16 = .ok (.if_icmp .ge 187, 3) := by decide +kernel
theorem dL_led_19 : decode cL_led 19 = .ok (.aload_n 0, 1) := by decide +kernel
theorem dL_led_20 : decode cL_led 20 = .ok (.iload_n 2, 1) := by decide +kernel
theorem dL_led_21 : decode cL_led 21 = .ok (.iload_n 3, 1) := by decide +kernel
theorem dL_led_22 : decode cL_led 22 = .ok (.iload 7, 2) := by decide +kernel
theorem dL_led_24 : decode cL_led 24 = .ok (.invokevirtual 167, 3) := by decide +kernel
theorem dL_led_27 : decode cL_led 27 = .ok (.istore 8, 2) := by decide +kernel
theorem dL_led_29 : decode cL_led 29 = .ok (.iload 8, 2) := by decide +kernel
theorem dL_led_31 : decode cL_led 31 = .ok (.iconst (-1), 1) := by decide +kernel
theorem dL_led_32 : decode cL_led 32 = .ok (.if_icmp .lt 63, 3) := by decide +kernel
theorem dL_led_35 : decode cL_led 35 = .ok (.iload 8, 2) := by decide +kernel
theorem dL_led_37 : decode cL_led 37 = .ok (.aload_n 1, 1) := by decide +kernel
theorem dL_led_38 : decode cL_led 38 = .ok (.iconst 3, 1) := by decide +kernel
theorem dL_led_39 : decode cL_led 39 = .ok (.iaload, 1) := by decide +kernel
theorem dL_led_40 : decode cL_led 40 = .ok (.if_icmp .ge 55, 3) := by decide +kernel
theorem dL_led_43 : decode cL_led 43 = .ok (.iload 6, 2) := by decide +kernel
theorem dL_led_45 : decode cL_led 45 = .ok (.ifCond .le 8, 3) := by decide +kernel
theorem dL_led_48 : decode cL_led 48 = .ok (.iload 8, 2) := by decide +kernel
theorem dL_led_50 : decode cL_led 50 = .ok (.ifCond .ge 45, 3) := by decide +kernel
theorem dL_led_53 : decode cL_led 53 = .ok (.iload 8, 2) := by decide +kernel
theorem dL_led_55 : decode cL_led 55 = .ok (.ifCond .lt 21, 3) := by decide +kernel
theorem dL_led_58 : decode cL_led 58 = .ok (.iload 8, 2) := by decide +kernel
theorem dL_led_60 : decode cL_led 60 = .ok (.iload 4, 2) := by decide +kernel
theorem dL_led_62 : decode cL_led 62 = .ok (.if_icmp .eq 14, 3) := by decide +kernel
theorem dL_led_65 : decode cL_led 65 = .ok (.iload 5, 2) := by decide +kernel
theorem dL_led_67 : decode cL_led 67 = .ok (.iload 8, 2) := by decide +kernel
theorem dL_led_69 : decode cL_led 69 = .ok (.ishr, 1) := by decide +kernel
theorem dL_led_70 : decode cL_led 70 = .ok (.iconst 1, 1) := by decide +kernel
theorem dL_led_71 : decode cL_led 71 = .ok (.iand, 1) := by decide +kernel
theorem dL_led_72 : decode cL_led 72 = .ok (.iconst 1, 1) := by decide +kernel
theorem dL_led_73 : decode cL_led 73 = .ok (.if_icmp .eq 22, 3) := by decide +kernel
theorem dL_led_76 : decode cL_led 76 = .ok (.iload 8, 2) := by decide +kernel
theorem dL_led_78 : decode cL_led 78 = .ok (.ifCond .lt 19, 3) := by decide +kernel
theorem dL_led_81 : decode cL_led 81 = .ok (.aload_n 0, 1) := by decide +kernel
theorem dL_led_82 : decode cL_led 82 = .ok (.bipush 9, 2) := by decide +kernel
theorem dL_led_84 : decode cL_led 84 = .ok (.invokevirtual 28, 3) := by decide +kernel
theorem dL_led_87 : decode cL_led 87 = .ok (.iload 8, 2) := by decide +kernel
theorem dL_led_89 : decode cL_led 89 = .ok (.ishr, 1) := by decide +kernel
theorem dL_led_90 : decode cL_led 90 = .ok (.iconst 1, 1) := by decide +kernel
theorem dL_led_91 : decode cL_led 91 = .ok (.iand, 1) := by decide +kernel
theorem dL_led_92 : decode cL_led 92 = .ok (.ifCond .ne 5, 3) := by decide +kernel
theorem dL_led_95 : decode cL_led 95 = .ok (.iconst 0, 1) := by decide +kernel
theorem dL_led_96 : decode cL_led 96 = .ok (.ireturn, 1) := by decide +kernel
theorem dL_led_97 : decode cL_led 97 = .ok (.iload 8, 2) := by decide +kernel
theorem dL_led_99 : decode cL_led 99 = .ok (.ifCond .lt 51, 3) := by decide +kernel
theorem dL_led_102 : decode cL_led 102 = .ok (.iload 4, 2) := by decide +kernel
theorem dL_led_104 : decode cL_led 104 = .ok (.ifCond .lt 46, 3) := by decide +kernel
theorem dL_led_107 : decode cL_led 107 = .ok (.iload 8, 2) := by decide +kernel
theorem dL_led_109 : decode cL_led 109 = .ok (.iload 4, 2) := by decide +kernel
theorem dL_led_111 : decode cL_led 111 = .ok (.if_icmp .eq 39, 3) := by decide +kernel
theorem dL_led_114 : decode cL_led 114 = .ok (.aload_n 0, 1) := by decide +kernel
theorem dL_led_115 : decode cL_led 115 = .ok (.iload 8, 2) := by decide +kernel
theorem dL_led_117 : decode cL_led 117 = .ok (.iconst 0, 1) := by decide +kernel
theorem dL_led_118 : decode cL_led 118 = .ok (.invokevirtual 82, 3) := by decide +kernel
theorem dL_led_121 : decode cL_led 121 = .ok (.aload_n 0, 1) := by decide +kernel
theorem dL_led_122 : decode cL_led 122 = .ok (.iload 4, 2) := by decide +kernel
theorem dL_led_124 : decode cL_led 124 = .ok (.iconst 0, 1) := by decide +kernel
theorem dL_led_125 : decode cL_led 125 = .ok (.invokevirtual 82, 3) := by decide +kernel
theorem dL_led_128 : decode cL_led 128 = .ok (.if_icmp .le 7, 3) := by decide +kernel
theorem dL_led_131 : decode cL_led 131 = .ok (.iconst 1, 1) := by decide +kernel
theorem dL_led_132 : decode cL_led 132 = .ok (.goto 4, 3) := by decide +kernel
theorem dL_led_135 : decode cL_led 135 = .ok (.iconst 0, 1) := by decide +kernel
theorem dL_led_136 : decode cL_led 136 = .ok (.iload_n 3, 1) := by decide +kernel
theorem dL_led_137 : decode cL_led 137 = .ok (.ifCond .ne 7, 3) := by decide +kernel
theorem dL_led_140 : decode cL_led 140 = .ok (.iconst 1, 1) := by decide +kernel
theorem dL_led_141 : decode cL_led 141 = .ok (.goto 4, 3) := by decide +kernel
theorem dL_led_144 : decode cL_led 144 = .ok (.iconst 0, 1) := by decide +kernel
theorem dL_led_145 : decode cL_led 145 = .ok (.if_icmp .eq 5, 3) := by decide +kernel
theorem dL_led_148 : decode cL_led 148 = .ok (.iconst 0, 1) := by decide +kernel
theorem dL_led_149 : decode cL_led 149 = .ok (.ireturn, 1) := by decide +kernel
theorem dL_led_150 : decode cL_led 150 = .ok (.iload 5, 2) := by decide +kernel
theorem dL_led_152 : decode cL_led 152 = .ok (.iload 8, 2) := by decide +kernel
theorem dL_led_154 : decode cL_led 154 = .ok (.ifCond .ge 7, 3) := by decide +kernel
theorem dL_led_157 : decode cL_led 157 = .ok (.iconst 0, 1) := by decide +kernel
theorem dL_led_158 : decode cL_led 158 = .ok (.goto 7, 3) := by decide +kernel
theorem dL_led_161 : decode cL_led 161 = .ok (.iconst 1, 1) := by decide +kernel
theorem dL_led_162 : decode cL_led 162 = .ok (.iload 8, 2) := by decide +kernel
theorem dL_led_164 : decode cL_led 164 = .ok (.ishl, 1) := by decide +kernel
theorem dL_led_165 : decode cL_led 165 = .ok (.ior, 1) := by decide +kernel
theorem dL_led_166 : decode cL_led 166 = .ok (.istore 5, 2) := by decide +kernel
theorem dL_led_168 : decode cL_led 168 = .ok (.iload 6, 2) := by decide +kernel
theorem dL_led_170 : decode cL_led 170 = .ok (.iload 8, 2) := by decide +kernel
theorem dL_led_172 : decode cL_led 172 = .ok (.ifCond .ge 7, 3) := by decide +kernel
theorem dL_led_175 : decode cL_led 175 = .ok (.iconst 1, 1) := by decide +kernel
theorem dL_led_176 : decode cL_led 176 = .ok (.goto 4, 3) := by decide +kernel
theorem dL_led_179 : decode cL_led 179 = .ok (.iconst 0, 1) := by decide +kernel
theorem dL_led_180 : decode cL_led 180 = .ok (.iadd, 1) := by decide +kernel
theorem dL_led_181 : decode cL_led 181 = .ok (.istore 6, 2) := by decide +kernel
theorem dL_led_183 : decode cL_led 183 = .ok (.iload 8, 2) := by decide +kernel
theorem dL_led_185 : decode cL_led 185 = .ok (.ifCond .ge 8, 3) := by decide +kernel
theorem dL_led_188 : decode cL_led 188 = .ok (.iload 4, 2) := by decide +kernel
theorem dL_led_190 : decode cL_led 190 = .ok (.goto 5, 3) := by decide +kernel
theorem dL_led_193 : decode cL_led 193 = .ok (.iload 8, 2) := by decide +kernel
theorem dL_led_195 : decode cL_led 195 = .ok (.istore 4, 2) := by decide +kernel
theorem dL_led_197 : decode cL_led 197 = .ok (.iinc 7 1, 3) := by decide +kernel
theorem dL_led_200 : decode cL_led 200 = .ok (.goto (-187), 3) := by decide +kernel
theorem dL_led_203 : decode cL_led 203 = .ok (.iconst 1, 1) := by decide +kernel
theorem dL_led_204 : decode cL_led 204 = .ok (.ireturn, 1) := by decide +kernel
theorem dL_shares_0 : decode cL_shares 0 = .ok (.aload_n 0, 1) := by decide +kernel
theorem dL_shares_1 : decode cL_shares 1 = .ok (.iload_n 2, 1) := by decide +kernel
theorem dL_shares_2 : decode cL_shares 2 = .ok (.iconst 0, 1) := by decide +kernel
theorem dL_shares_3 : decode cL_shares 3 = .ok (.invokevirtual 200, 3) := by decide +kernel
theorem dL_shares_6 : decode cL_shares 6 = .ok (.istore_n 3, 1) := by decide +kernel
theorem dL_shares_7 : decode cL_shares 7 = .ok (.aload_n 0, 1) := by decide +kernel
theorem dL_shares_8 : decode cL_shares 8 = .ok (.iload_n 2, 1) := by decide +kernel
theorem dL_shares_9 : decode cL_shares 9 = .ok (.iconst 1, 1) := by decide +kernel
theorem dL_shares_10 : decode cL_shares 10 = .ok (.invokevirtual 200, 3) := by decide +kernel
theorem dL_shares_13 : decode cL_shares 13 = .ok (.istore 4, 2) := by decide +kernel
theorem dL_shares_15 : decode cL_shares 15 = .ok (.iload_n 3, 1) := by decide +kernel
theorem dL_shares_16 : decode cL_shares 16 = .ok (.iload 4, 2) := by decide +kernel
theorem dL_shares_18 : decode cL_shares 18 = .ok (.iadd, 1) := by decide +kernel
theorem dL_shares_19 : decode cL_shares 19 = .ok (.iload_n 2, 1) := by decide +kernel
theorem dL_shares_20 : decode cL_shares 20 = .ok (.if_icmp .ne 43, 3) := by decide +kernel
theorem dL_shares_23 : decode cL_shares 23 = .ok (.iload_n 3, 1) := by decide +kernel
theorem dL_shares_24 : decode cL_shares 24 = .ok (.ifCond .lt 39, 3) := by decide +kernel
theorem dL_shares_27 : decode cL_shares 27 = .ok (.iload 4, 2) := by decide +kernel
theorem dL_shares_29 : decode cL_shares 29 = .ok (.ifCond .lt 34, 3) := by decide +kernel
theorem dL_shares_32 : decode cL_shares 32 = .ok (.aload_n 0, 1) := by decide +kernel
theorem dL_shares_33 : decode cL_shares 33 = .ok (.iconst 0, 1) := by decide +kernel
theorem dL_shares_34 : decode cL_shares 34 = .ok (.iconst 4, 1) := by decide +kernel
theorem dL_shares_35 : decode cL_shares 35 = .ok (.invokevirtual 85, 3) := by decide +kernel
theorem dL_shares_38 : decode cL_shares 38 = .ok (.ifCond .ne 7, 3) := by decide +kernel
theorem dL_shares_41 : decode cL_shares 41 = .ok (.iload_n 3, 1) := by decide +kernel
theorem dL_shares_42 : decode cL_shares 42 = .ok (.ifCond .ne 21, 3) := by decide +kernel
theorem dL_shares_45 : decode cL_shares 45 = .ok (.aload_n 0, 1) := by decide +kernel
theorem dL_shares_46 : decode cL_shares 46 = .ok (.iconst 1, 1) := by decide +kernel
theorem dL_shares_47 : decode cL_shares 47 = .ok (.iconst 4, 1) := by decide +kernel
theorem dL_shares_48 : decode cL_shares 48 = .ok (.invokevirtual 85, 3) := by decide +kernel
theorem dL_shares_51 : decode cL_shares 51 = .ok (.ifCond .ne 8, 3) := by decide +kernel
theorem dL_shares_54 : decode cL_shares 54 = .ok (.iload 4, 2) := by decide +kernel
theorem dL_shares_56 : decode cL_shares 56 = .ok (.ifCond .ne 7, 3) := by decide +kernel
theorem dL_shares_59 : decode cL_shares 59 = .ok (.iconst 1, 1) := by decide +kernel
theorem dL_shares_60 : decode cL_shares 60 = .ok (.goto 4, 3) := by decide +kernel
theorem dL_shares_63 : decode cL_shares 63 = .ok (.iconst 0, 1) := by decide +kernel
theorem dL_shares_64 : decode cL_shares 64 = .ok (.ireturn, 1) := by decide +kernel
theorem dL_yards_0 : decode cL_yards 0 = .ok (.iconst 0, 1) := by decide +kernel
theorem dL_yards_1 : decode cL_yards 1 = .ok (.istore_n 3, 1) := by decide +kernel
theorem dL_yards_2 : decode cL_yards 2 = .ok (.iload_n 3, 1) := by decide +kernel
theorem dL_yards_3 : decode cL_yards 3 = .ok (.aload_n 1, 1) := by decide +kernel
theorem dL_yards_4 : decode cL_yards 4 = .ok (.iconst 4, 1) := by decide +kernel
theorem dL_yards_5 : decode cL_yards 5 = .ok (.iaload, 1) := by decide +kernel
theorem dL_yards_6 : decode cL_yards 6 = .ok (.if_icmp .ge 202, 3) := by decide +kernel
theorem dL_yards_9 : decode cL_yards 9 = .ok (.aload_n 0, 1) := by decide +kernel
theorem dL_yards_10 : decode cL_yards 10 = .ok (.iload_n 3, 1) := by decide +kernel
theorem dL_yards_11 : decode cL_yards 11 = .ok (.iconst 0, 1) := by decide +kernel
theorem dL_yards_12 : decode cL_yards 12 = .ok (.invokevirtual 203, 3) := by decide +kernel
theorem dL_yards_15 : decode cL_yards 15 = .ok (.istore 4, 2) := by decide +kernel
theorem dL_yards_17 : decode cL_yards 17 = .ok (.aload_n 0, 1) := by decide +kernel
theorem dL_yards_18 : decode cL_yards 18 = .ok (.iload_n 3, 1) := by decide +kernel
theorem dL_yards_19 : decode cL_yards 19 = .ok (.iconst 1, 1) := by decide +kernel
theorem dL_yards_20 : decode cL_yards 20 = .ok (.invokevirtual 203, 3) := by decide +kernel
theorem dL_yards_23 : decode cL_yards 23 = .ok (.istore 5, 2) := by decide +kernel
theorem dL_yards_25 : decode cL_yards 25 = .ok (.iload 4, 2) := by decide +kernel
theorem dL_yards_27 : decode cL_yards 27 = .ok (.ifCond .ge 21, 3) := by decide +kernel
theorem dL_yards_30 : decode cL_yards 30 = .ok (.iload 5, 2) := by decide +kernel
theorem dL_yards_32 : decode cL_yards 32 = .ok (.iconst (-1), 1) := by decide +kernel
theorem dL_yards_33 : decode cL_yards 33 = .ok (.if_icmp .ne 76, 3) := by decide +kernel
theorem dL_yards_36 : decode cL_yards 36 = .ok (.aload_n 0, 1) := by decide +kernel
theorem dL_yards_37 : decode cL_yards 37 = .ok (.bipush 10, 2) := by decide +kernel
theorem dL_yards_39 : decode cL_yards 39 = .ok (.invokevirtual 28, 3) := by decide +kernel
theorem dL_yards_42 : decode cL_yards 42 = .ok (.ifCond .eq 69, 3) := by decide +kernel
theorem dL_yards_45 : decode cL_yards 45 = .ok (.goto 64, 3) := by decide +kernel
theorem dL_yards_48 : decode cL_yards 48 = .ok (.iload 5, 2) := by decide +kernel
theorem dL_yards_50 : decode cL_yards 50 = .ok (.ifCond .lt 59, 3) := by decide +kernel
theorem dL_yards_53 : decode cL_yards 53 = .ok (.iload 5, 2) := by decide +kernel
theorem dL_yards_55 : decode cL_yards 55 = .ok (.aload_n 1, 1) := by decide +kernel
theorem dL_yards_56 : decode cL_yards 56 = .ok (.iconst 3, 1) := by decide +kernel
theorem dL_yards_57 : decode cL_yards 57 = .ok (.iaload, 1) := by decide +kernel
theorem dL_yards_58 : decode cL_yards 58 = .ok (.if_icmp .ge 51, 3) := by decide +kernel
theorem dL_yards_61 : decode cL_yards 61 = .ok (.aload_n 0, 1) := by decide +kernel
theorem dL_yards_62 : decode cL_yards 62 = .ok (.iload 5, 2) := by decide +kernel
theorem dL_yards_64 : decode cL_yards 64 = .ok (.iconst 4, 1) := by decide +kernel
theorem dL_yards_65 : decode cL_yards 65 = .ok (.invokevirtual 82, 3) := by decide +kernel
theorem dL_yards_68 : decode cL_yards 68 = .ok (.ifCond .eq 41, 3) := by decide +kernel
theorem dL_yards_71 : decode cL_yards 71 = .ok (.aload_n 0, 1) := by decide +kernel
theorem dL_yards_72 : decode cL_yards 72 = .ok (.iload 5, 2) := by decide +kernel
theorem dL_yards_74 : decode cL_yards 74 = .ok (.iconst 0, 1) := by decide +kernel
theorem dL_yards_75 : decode cL_yards 75 = .ok (.invokevirtual 82, 3) := by decide +kernel
theorem dL_yards_78 : decode cL_yards 78 = .ok (.aload_n 0, 1) := by decide +kernel
theorem dL_yards_79 : decode cL_yards 79 = .ok (.iload_n 3, 1) := by decide +kernel
theorem dL_yards_80 : decode cL_yards 80 = .ok (.iconst 0, 1) := by decide +kernel
theorem dL_yards_81 : decode cL_yards 81 = .ok (.invokevirtual 88, 3) := by decide +kernel
theorem dL_yards_84 : decode cL_yards 84 = .ok (.iload 4, 2) := by decide +kernel
theorem dL_yards_86 : decode cL_yards 86 = .ok (.isub, 1) := by decide +kernel
theorem dL_yards_87 : decode cL_yards 87 = .ok (.if_icmp .eq 24, 3) := by decide +kernel
theorem dL_yards_90 : decode cL_yards 90 = .ok (.aload_n 0, 1) := by decide +kernel
theorem dL_yards_91 : decode cL_yards 91 = .ok (.iload 5, 2) := by decide +kernel
theorem dL_yards_93 : decode cL_yards 93 = .ok (.iconst 0, 1) := by decide +kernel
theorem dL_yards_94 : decode cL_yards 94 = .ok (.invokevirtual 82, 3) := by decide +kernel
theorem dL_yards_97 : decode cL_yards 97 = .ok (.aload_n 0, 1) := by decide +kernel
theorem dL_yards_98 : decode cL_yards 98 = .ok (.iload_n 3, 1) := by decide +kernel
theorem dL_yards_99 : decode cL_yards 99 = .ok (.iconst 0, 1) := by decide +kernel
theorem dL_yards_100 : decode cL_yards 100 = .ok (.invokevirtual 88, 3) := by decide +kernel
theorem dL_yards_103 : decode cL_yards 103 = .ok (.iload 4, 2) := by decide +kernel
theorem dL_yards_105 : decode cL_yards 105 = .ok (.iadd, 1) := by decide +kernel
theorem dL_yards_106 : decode cL_yards 106 = .ok (.if_icmp .eq 5, 3) := by decide +kernel
theorem dL_yards_109 : decode cL_yards 109 = .ok (.iconst 0, 1) := by decide +kernel
theorem dL_yards_110 : decode cL_yards 110 = .ok (.ireturn, 1) := by decide +kernel
theorem dL_yards_111 : decode cL_yards 111 = .ok (.iload 4, 2) := by decide +kernel
theorem dL_yards_113 : decode cL_yards 113 = .ok (.ifCond .lt 89, 3) := by decide +kernel
theorem dL_yards_116 : decode cL_yards 116 = .ok (.aload_n 0, 1) := by decide +kernel
theorem dL_yards_117 : decode cL_yards 117 = .ok (.iload 5, 2) := by decide +kernel
theorem dL_yards_119 : decode cL_yards 119 = .ok (.bipush 99, 2) := by decide +kernel
theorem dL_yards_121 : decode cL_yards 121 = .ok (.invokevirtual 113, 3) := by decide +kernel
theorem dL_yards_124 : decode cL_yards 124 = .ok (.ifCond .ne 47, 3) := by decide +kernel
theorem dL_yards_127 : decode cL_yards 127 = .ok (.aload_n 0, 1) := by decide +kernel
theorem dL_yards_128 : decode cL_yards 128 = .ok (.iload_n 3, 1) := by decide +kernel
theorem dL_yards_129 : decode cL_yards 129 = .ok (.iconst 0, 1) := by decide +kernel
theorem dL_yards_130 : decode cL_yards 130 = .ok (.invokevirtual 203, 3) := by decide +kernel
theorem dL_yards_133 : decode cL_yards 133 = .ok (.iconst (-1), 1) := by decide +kernel
theorem dL_yards_134 : decode cL_yards 134 = .ok (.if_icmp .eq 25, 3) := by decide +kernel
theorem dL_yards_137 : decode cL_yards 137 = .ok (.aload_n 0, 1) := by decide +kernel
theorem dL_yards_138 : decode cL_yards 138 = .ok (.iload_n 3, 1) := by decide +kernel
theorem dL_yards_139 : decode cL_yards 139 = .ok (.iconst 0, 1) := by decide +kernel
theorem dL_yards_140 : decode cL_yards 140 = .ok (.invokevirtual 203, 3) := by decide +kernel
theorem dL_yards_143 : decode cL_yards 143 = .ok (.iload 4, 2) := by decide +kernel
theorem dL_yards_145 : decode cL_yards 145 = .ok (.if_icmp .lt 26, 3) := by decide +kernel
theorem dL_yards_148 : decode cL_yards 148 = .ok (.aload_n 0, 1) := by decide +kernel
theorem dL_yards_149 : decode cL_yards 149 = .ok (.iload_n 3, 1) := by decide +kernel
theorem dL_yards_150 : decode cL_yards 150 = .ok (.iconst 1, 1) := by decide +kernel
theorem dL_yards_151 : decode cL_yards 151 = .ok (.invokevirtual 203, 3) := by decide +kernel
theorem dL_yards_154 : decode cL_yards 154 = .ok (.iload 5, 2) := by decide +kernel
theorem dL_yards_156 : decode cL_yards 156 = .ok (.if_icmp .eq 15, 3) := by decide +kernel
theorem dL_yards_159 : decode cL_yards 159 = .ok (.aload_n 0, 1) := by decide +kernel
theorem dL_yards_160 : decode cL_yards 160 = .ok (.iconst 1, 1) := by decide +kernel
theorem dL_yards_161 : decode cL_yards 161 = .ok (.invokevirtual 116, 3) := by decide +kernel
theorem dL_yards_164 : decode cL_yards 164 = .ok (.ifCond .lt 7, 3) := by decide +kernel
theorem dL_yards_167 : decode cL_yards 167 = .ok (.iconst 1, 1) := by decide +kernel
theorem dL_yards_168 : decode cL_yards 168 = .ok (.goto 4, 3) := by decide +kernel
theorem dL_yards_171 : decode cL_yards 171 = .ok (.iconst 0, 1) := by decide +kernel
theorem dL_yards_172 : decode cL_yards 172 = .ok (.istore 6, 2) := by decide +kernel
theorem dL_yards_174 : decode cL_yards 174 = .ok (.iload 6, 2) := by decide +kernel
theorem dL_yards_176 : decode cL_yards 176 = .ok (.ifCond .eq 24, 3) := by decide +kernel
theorem dL_yards_179 : decode cL_yards 179 = .ok (.aload_n 0, 1) := by decide +kernel
theorem dL_yards_180 : decode cL_yards 180 = .ok (.iload_n 3, 1) := by decide +kernel
theorem dL_yards_181 : decode cL_yards 181 = .ok (.iconst 1, 1) := by decide +kernel
theorem dL_yards_182 : decode cL_yards 182 = .ok (.invokevirtual 203, 3) := by decide +kernel
theorem dL_yards_185 : decode cL_yards 185 = .ok (.iload 5, 2) := by decide +kernel
theorem dL_yards_187 : decode cL_yards 187 = .ok (.if_icmp .ne 13, 3) := by decide +kernel
theorem dL_yards_190 : decode cL_yards 190 = .ok (.aload_n 0, 1) := by decide +kernel
theorem dL_yards_191 : decode cL_yards 191 = .ok (.bipush 15, 2) := by decide +kernel
theorem dL_yards_193 : decode cL_yards 193 = .ok (.invokevirtual 28, 3) := by decide +kernel
theorem dL_yards_196 : decode cL_yards 196 = .ok (.iload_n 2, 1) := by decide +kernel
theorem dL_yards_197 : decode cL_yards 197 = .ok (.if_icmp .eq 5, 3) := by decide +kernel
theorem dL_yards_200 : decode cL_yards 200 = .ok (.iconst 0, 1) := by decide +kernel
theorem dL_yards_201 : decode cL_yards 201 = .ok (.ireturn, 1) := by decide +kernel
theorem dL_yards_202 : decode cL_yards 202 = .ok (.iinc 3 1, 3) := by decide +kernel
theorem dL_yards_205 : decode cL_yards 205 = .ok (.goto (-203), 3) := by decide +kernel
theorem dL_yards_208 : decode cL_yards 208 = .ok (.iconst 1, 1) := by decide +kernel
theorem dL_yards_209 : decode cL_yards 209 = .ok (.ireturn, 1) := by decide +kernel
theorem dL_carried_0 : decode cL_carried 0 = .ok (.aload_n 0, 1) := by decide +kernel
theorem dL_carried_1 : decode cL_carried 1 = .ok (.bipush 10, 2) := by decide +kernel
theorem dL_carried_3 : decode cL_carried 3 = .ok (.invokevirtual 28, 3) := by decide +kernel
theorem dL_carried_6 : decode cL_carried 6 = .ok (.istore_n 3, 1) := by decide +kernel
theorem dL_carried_7 : decode cL_carried 7 = .ok (.aload_n 0, 1) := by decide +kernel
theorem dL_carried_8 : decode cL_carried 8 = .ok (.iconst 0, 1) := by decide +kernel
theorem dL_carried_9 : decode cL_carried 9 = .ok (.iconst 2, 1) := by decide +kernel
theorem dL_carried_10 : decode cL_carried 10 = .ok (.invokevirtual 85, 3) := by decide +kernel
theorem dL_carried_13 : decode cL_carried 13 = .ok (.istore 4, 2) := by decide +kernel
theorem dL_carried_15 : decode cL_carried 15 = .ok (.aload_n 0, 1) := by decide +kernel
theorem dL_carried_16 : decode cL_carried 16 = .ok (.iconst 1, 1) := by decide +kernel
theorem dL_carried_17 : decode cL_carried 17 = .ok (.iconst 2, 1) := by decide +kernel
theorem dL_carried_18 : decode cL_carried 18 = .ok (.invokevirtual 85, 3) := by decide +kernel
theorem dL_carried_21 : decode cL_carried 21 = .ok (.istore 5, 2) := by decide +kernel
theorem dL_carried_23 : decode cL_carried 23 = .ok (.aload_n 0, 1) := by decide +kernel
theorem dL_carried_24 : decode cL_carried 24 = .ok (.iconst 0, 1) := by decide +kernel
theorem dL_carried_25 : decode cL_carried 25 = .ok (.invokevirtual 205, 3) := by decide +kernel
theorem dL_carried_28 : decode cL_carried 28 = .ok (.istore 6, 2) := by decide +kernel
theorem dL_carried_30 : decode cL_carried 30 = .ok (.aload_n 0, 1) := by decide +kernel
theorem dL_carried_31 : decode cL_carried 31 = .ok (.iconst 1, 1) := by decide +kernel
theorem dL_carried_32 : decode cL_carried 32 = .ok (.invokevirtual 205, 3) := by decide +kernel
theorem dL_carried_35 : decode cL_carried 35 = .ok (.istore 7, 2) := by decide +kernel
theorem dL_carried_37 : decode cL_carried 37 = .ok (.iload 6, 2) := by decide +kernel
theorem dL_carried_39 : decode cL_carried 39 = .ok (.iload 7, 2) := by decide +kernel
theorem dL_carried_41 : decode cL_carried 41 = .ok (.iadd, 1) := by decide +kernel
theorem dL_carried_42 : decode cL_carried 42 = .ok (.iload_n 3, 1) := by decide +kernel
theorem dL_carried_43 : decode cL_carried 43 = .ok (.if_icmp .ne 44, 3) := by decide +kernel
theorem dL_carried_46 : decode cL_carried 46 = .ok (.aload_n 0, 1) := by decide +kernel
theorem dL_carried_47 : decode cL_carried 47 = .ok (.bipush 10, 2) := by decide +kernel
theorem dL_carried_49 : decode cL_carried 49 = .ok (.invokevirtual 28, 3) := by decide +kernel
theorem dL_carried_52 : decode cL_carried 52 = .ok (.ifCond .ne 35, 3) := by decide +kernel
theorem dL_carried_55 : decode cL_carried 55 = .ok (.aload_n 0, 1) := by decide +kernel
theorem dL_carried_56 : decode cL_carried 56 = .ok (.iconst 0, 1) := by decide +kernel
theorem dL_carried_57 : decode cL_carried 57 = .ok (.iconst 2, 1) := by decide +kernel
theorem dL_carried_58 : decode cL_carried 58 = .ok (.invokevirtual 85, 3) := by decide +kernel
theorem dL_carried_61 : decode cL_carried 61 = .ok (.iload 4, 2) := by decide +kernel
theorem dL_carried_63 : decode cL_carried 63 = .ok (.iload 6, 2) := by decide +kernel
theorem dL_carried_65 : decode cL_carried 65 = .ok (.iadd, 1) := by decide +kernel
theorem dL_carried_66 : decode cL_carried 66 = .ok (.if_icmp .ne 21, 3) := by decide +kernel
theorem dL_carried_69 : decode cL_carried 69 = .ok (.aload_n 0, 1) := by decide +kernel
theorem dL_carried_70 : decode cL_carried 70 = .ok (.iconst 1, 1) := by decide +kernel
theorem dL_carried_71 : decode cL_carried 71 = .ok (.iconst 2, 1) := by decide +kernel
theorem dL_carried_72 : decode cL_carried 72 = .ok (.invokevirtual 85, 3) := by decide +kernel
theorem dL_carried_75 : decode cL_carried 75 = .ok (.iload 5, 2) := by decide +kernel
theorem dL_carried_77 : decode cL_carried 77 = .ok (.iload 7, 2) := by decide +kernel
theorem dL_carried_79 : decode cL_carried 79 = .ok (.iadd, 1) := by decide +kernel
theorem dL_carried_80 : decode cL_carried 80 = .ok (.if_icmp .ne 7, 3) := by decide +kernel
theorem dL_carried_83 : decode cL_carried 83 = .ok (.iconst 1, 1) := by decide +kernel
theorem dL_carried_84 : decode cL_carried 84 = .ok (.goto 4, 3) := by decide +kernel
theorem dL_carried_87 : decode cL_carried 87 = .ok (.iconst 0, 1) := by decide +kernel
theorem dL_carried_88 : decode cL_carried 88 = .ok (.istore 8, 2) := by decide +kernel
theorem dL_carried_90 : decode cL_carried 90 = .ok (.iload 8, 2) := by decide +kernel
theorem dL_carried_92 : decode cL_carried 92 = .ok (.ifCond .eq 46, 3) := by decide +kernel
theorem dL_carried_95 : decode cL_carried 95 = .ok (.aload_n 0, 1) := by decide +kernel
theorem dL_carried_96 : decode cL_carried 96 = .ok (.iconst 2, 1) := by decide +kernel
theorem dL_carried_97 : decode cL_carried 97 = .ok (.invokevirtual 116, 3) := by decide +kernel
theorem dL_carried_100 : decode cL_carried 100 = .ok (.ifCond .lt 38, 3) := by decide +kernel
theorem dL_carried_103 : decode cL_carried 103 = .ok (.aload_n 0, 1) := by decide +kernel
theorem dL_carried_104 : decode cL_carried 104 = .ok (.bipush 10, 2) := by decide +kernel
theorem dL_carried_106 : decode cL_carried 106 = .ok (.invokevirtual 28, 3) := by decide +kernel
theorem dL_carried_109 : decode cL_carried 109 = .ok (.iload_n 3, 1) := by decide +kernel
theorem dL_carried_110 : decode cL_carried 110 = .ok (.if_icmp .ne 28, 3) := by decide +kernel
theorem dL_carried_113 : decode cL_carried 113 = .ok (.aload_n 0, 1) := by decide +kernel
theorem dL_carried_114 : decode cL_carried 114 = .ok (.iconst 0, 1) := by decide +kernel
theorem dL_carried_115 : decode cL_carried 115 = .ok (.iconst 2, 1) := by decide +kernel
theorem dL_carried_116 : decode cL_carried 116 = .ok (.invokevirtual 85, 3) := by decide +kernel
theorem dL_carried_119 : decode cL_carried 119 = .ok (.iload 4, 2) := by decide +kernel
theorem dL_carried_121 : decode cL_carried 121 = .ok (.if_icmp .ne 17, 3) := by decide +kernel
theorem dL_carried_124 : decode cL_carried 124 = .ok (.aload_n 0, 1) := by decide +kernel
theorem dL_carried_125 : decode cL_carried 125 = .ok (.bipush 15, 2) := by decide +kernel
theorem dL_carried_127 : decode cL_carried 127 = .ok (.invokevirtual 28, 3) := by decide +kernel
theorem dL_carried_130 : decode cL_carried 130 = .ok (.iload_n 2, 1) := by decide +kernel
theorem dL_carried_131 : decode cL_carried 131 = .ok (.if_icmp .ne 7, 3) := by decide +kernel
theorem dL_carried_134 : decode cL_carried 134 = .ok (.iconst 1, 1) := by decide +kernel
theorem dL_carried_135 : decode cL_carried 135 = .ok (.goto 4, 3) := by decide +kernel
theorem dL_carried_138 : decode cL_carried 138 = .ok (.iconst 0, 1) := by decide +kernel
theorem dL_carried_139 : decode cL_carried 139 = .ok (.ireturn, 1) := by decide +kernel
abbrev vwCl : List vw_C := [(RX0, TX0, 15), (RX1, TX1, 4), (RX2, TX2, 3), (RX3, TX3, 8), (RX4, TX4, 10), (RX5, TX5, 3), (RX6, TX6, 14)]
