theorem dX6_told_108 : decode cX6_told 108 = .ok (.getfield 105, 3) := by decide +kernel
theorem dX6_told_111 : decode cX6_told 111 = .ok (.ireturn, 1) := by decide +kernel
theorem dX6_told_112 : decode cX6_told 112 = .ok (.aload_n 0, 1) := by decide +kernel
theorem dX6_told_113 : decode cX6_told 113 = .ok (.getfield 19, 3) := by decide +kernel
theorem dX6_told_116 : decode cX6_told 116 = .ok (.getfield 121, 3) := by decide +kernel
theorem dX6_told_119 : decode cX6_told 119 = .ok (.ireturn, 1) := by decide +kernel
theorem dX6_told_120 : decode cX6_told 120 = .ok (.aload_n 0, 1) := by decide +kernel
theorem dX6_told_121 : decode cX6_told 121 = .ok (.getfield 10, 3) := by decide +kernel
theorem dX6_told_124 : decode cX6_told 124 = .ok (.getfield 85, 3) := by decide +kernel
theorem dX6_told_127 : decode cX6_told 127 = .ok (.ireturn, 1) := by decide +kernel
theorem dX6_told_128 : decode cX6_told 128 = .ok (.aload_n 0, 1) := by decide +kernel
theorem dX6_told_129 : decode cX6_told 129 = .ok (.getfield 29, 3) := by decide +kernel
theorem dX6_told_132 : decode cX6_told 132 = .ok (.getfield 124, 3) := by decide +kernel
theorem dX6_told_135 : decode cX6_told 135 = .ok (.ireturn, 1) := by decide +kernel
theorem dX6_told_136 : decode cX6_told 136 = .ok (.aload_n 0, 1) := by decide +kernel
theorem dX6_told_137 : decode cX6_told 137 = .ok (.getfield 29, 3) := by decide +kernel
theorem dX6_told_140 : decode cX6_told 140 = .ok (.getfield 127, 3) := by decide +kernel
theorem dX6_told_143 : decode cX6_told 143 = .ok (.ireturn, 1) := by decide +kernel
theorem dX6_told_144 : decode cX6_told 144 = .ok (.aload_n 0, 1) := by decide +kernel
theorem dX6_told_145 : decode cX6_told 145 = .ok (.getfield 29, 3) := by decide +kernel
theorem dX6_told_148 : decode cX6_told 148 = .ok (.getfield 130, 3) := by decide +kernel
theorem dX6_told_151 : decode cX6_told 151 = .ok (.ifCond .eq 7, 3) := by decide +kernel
theorem dX6_told_154 : decode cX6_told 154 = .ok (.iconst 1, 1) := by decide +kernel
theorem dX6_told_155 : decode cX6_told 155 = .ok (.goto 4, 3) := by decide +kernel
theorem dX6_told_158 : decode cX6_told 158 = .ok (.iconst 0, 1) := by decide +kernel
theorem dX6_told_159 : decode cX6_told 159 = .ok (.ireturn, 1) := by decide +kernel
theorem dX6_told_160 : decode cX6_told 160 = .ok (.aload_n 0, 1) := by decide +kernel
theorem dX6_told_161 : decode cX6_told 161 = .ok (.getfield 29, 3) := by decide +kernel
theorem dX6_told_164 : decode cX6_told 164 = .ok (.aload_n 0, 1) := by decide +kernel
theorem dX6_told_165 : decode cX6_told 165 = .ok (.getfield 19, 3) := by decide +kernel
theorem dX6_told_168 : decode cX6_told 168 = .ok (.invokevirtual 134, 3) := by decide +kernel
theorem dX6_told_171 : decode cX6_told 171 = .ok (.ireturn, 1) := by decide +kernel
theorem dX6_told_172 : decode cX6_told 172 = .ok (.aload_n 0, 1) := by decide +kernel
theorem dX6_told_173 : decode cX6_told 173 = .ok (.getfield 29, 3) := by decide +kernel
theorem dX6_told_176 : decode cX6_told 176 = .ok (.invokevirtual 137, 3) := by decide +kernel
theorem dX6_told_179 : decode cX6_told 179 = .ok (.ireturn, 1) := by decide +kernel
theorem dX6_told_180 : decode cX6_told 180 = .ok (.aload_n 0, 1) := by decide +kernel
theorem dX6_told_181 : decode cX6_told 181 = .ok (.getfield 29, 3) := by decide +kernel
theorem dX6_told_184 : decode cX6_told 184 = .ok (.getfield 140, 3) := by decide +kernel
theorem dX6_told_187 : decode cX6_told 187 = .ok (.ireturn, 1) := by decide +kernel
theorem dX6_told_188 : decode cX6_told 188 = .ok (.aload_n 0, 1) := by decide +kernel
theorem dX6_told_189 : decode cX6_told 189 = .ok (.getfield 29, 3) := by decide +kernel
theorem dX6_told_192 : decode cX6_told 192 = .ok (.getfield 143, 3) := by decide +kernel
theorem dX6_told_195 : decode cX6_told 195 = .ok (.ireturn, 1) := by decide +kernel
theorem dX6_told_196 : decode cX6_told 196 = .ok (.aload_n 0, 1) := by decide +kernel
theorem dX6_told_197 : decode cX6_told 197 = .ok (.getfield 70, 3) := by decide +kernel
theorem dX6_told_200 : decode cX6_told 200 = .ok (.getfield 104, 3) := by decide +kernel
theorem dX6_told_203 : decode cX6_told 203 = .ok (.ireturn, 1) := by decide +kernel
theorem dX6_told_204 : decode cX6_told 204 = .ok (.aload_n 0, 1) := by decide +kernel
theorem dX6_told_205 : decode cX6_told 205 = .ok (.getfield 74, 3) := by decide +kernel
theorem dX6_told_208 : decode cX6_told 208 = .ok (.getfield 104, 3) := by decide +kernel
theorem dX6_told_211 : decode cX6_told 211 = .ok (.ireturn, 1) := by decide +kernel
theorem dX6_told_212 : decode cX6_told 212 = .ok (.aload_n 0, 1) := by decide +kernel
theorem dX6_told_213 : decode cX6_told 213 = .ok (.getfield 50, 3) := by decide +kernel
theorem dX6_told_216 : decode cX6_told 216 = .ok (.getfield 101, 3) := by decide +kernel
theorem dX6_told_219 : decode cX6_told 219 = .ok (.ireturn, 1) := by decide +kernel
theorem dX6_told_220 : decode cX6_told 220 = .ok (.ldc 84, 2) := by decide +kernel
theorem dX6_told_222 : decode cX6_told 222 = .ok (.ireturn, 1) := by decide +kernel
theorem dX6_post_0 : decode cX6_post 0 = .ok (.aload_n 0, 1) := by decide +kernel
theorem dX6_post_1 : decode cX6_post 1 = .ok (.iload_n 1, 1) := by decide +kernel
theorem dX6_post_2 : decode cX6_post 2 = .ok (.invokevirtual 146, 3) := by decide +kernel
theorem dX6_post_5 : decode cX6_post 5 = .ok (.ifCond .ne 6, 3) := by decide +kernel
theorem dX6_post_8 : decode cX6_post 8 = .ok (.ldc 150, 2) := by decide +kernel
theorem dX6_post_10 : decode cX6_post 10 = .ok (.ireturn, 1) := by decide +kernel
theorem dX6_post_11 : decode cX6_post 11 = .ok (.iload_n 2, 1) := by decide +kernel
theorem dX6_post_12 : decode cX6_post 12 = .ok (.tableswitch 96 0 4 #[36, 48, 60, 72, 84], 36) := by decide +kernel
theorem dX6_post_48 : decode cX6_post 48 = .ok (.aload_n 0, 1) := by decide +kernel
theorem dX6_post_49 : decode cX6_post 49 = .ok (.getfield 29, 3) := by decide +kernel
theorem dX6_post_52 : decode cX6_post 52 = .ok (.getfield 151, 3) := by decide +kernel
theorem dX6_post_55 : decode cX6_post 55 = .ok (.iload_n 1, 1) := by decide +kernel
theorem dX6_post_56 : decode cX6_post 56 = .ok (.invokestatic 154, 3) := by decide +kernel
theorem dX6_post_59 : decode cX6_post 59 = .ok (.ireturn, 1) := by decide +kernel
theorem dX6_post_60 : decode cX6_post 60 = .ok (.aload_n 0, 1) := by decide +kernel
theorem dX6_post_61 : decode cX6_post 61 = .ok (.getfield 29, 3) := by decide +kernel
theorem dX6_post_64 : decode cX6_post 64 = .ok (.getfield 158, 3) := by decide +kernel
theorem dX6_post_67 : decode cX6_post 67 = .ok (.iload_n 1, 1) := by decide +kernel
theorem dX6_post_68 : decode cX6_post 68 = .ok (.invokestatic 154, 3) := by decide +kernel
theorem dX6_post_71 : decode cX6_post 71 = .ok (.ireturn, 1) := by decide +kernel
theorem dX6_post_72 : decode cX6_post 72 = .ok (.aload_n 0, 1) := by decide +kernel
theorem dX6_post_73 : decode cX6_post 73 = .ok (.getfield 19, 3) := by decide +kernel
theorem dX6_post_76 : decode cX6_post 76 = .ok (.getfield 161, 3) := by decide +kernel
theorem dX6_post_79 : decode cX6_post 79 = .ok (.iload_n 1, 1) := by decide +kernel
theorem dX6_post_80 : decode cX6_post 80 = .ok (.invokestatic 154, 3) := by decide +kernel
theorem dX6_post_83 : decode cX6_post 83 = .ok (.ireturn, 1) := by decide +kernel
theorem dX6_post_84 : decode cX6_post 84 = .ok (.aload_n 0, 1) := by decide +kernel
theorem dX6_post_85 : decode cX6_post 85 = .ok (.getfield 19, 3) := by decide +kernel
theorem dX6_post_88 : decode cX6_post 88 = .ok (.getfield 164, 3) := by decide +kernel
theorem dX6_post_91 : decode cX6_post 91 = .ok (.iload_n 1, 1) := by decide +kernel
theorem dX6_post_92 : decode cX6_post 92 = .ok (.invokestatic 154, 3) := by decide +kernel
theorem dX6_post_95 : decode cX6_post 95 = .ok (.ireturn, 1) := by decide +kernel
theorem dX6_post_96 : decode cX6_post 96 = .ok (.aload_n 0, 1) := by decide +kernel
theorem dX6_post_97 : decode cX6_post 97 = .ok (.getfield 29, 3) := by decide +kernel
theorem dX6_post_100 : decode cX6_post 100 = .ok (.getfield 167, 3) := by decide +kernel
theorem dX6_post_103 : decode cX6_post 103 = .ok (.iload_n 1, 1) := by decide +kernel
theorem dX6_post_104 : decode cX6_post 104 = .ok (.invokestatic 154, 3) := by decide +kernel
theorem dX6_post_107 : decode cX6_post 107 = .ok (.ireturn, 1) := by decide +kernel
theorem dX6_post_108 : decode cX6_post 108 = .ok (.ldc 84, 2) := by decide +kernel
theorem dX6_post_110 : decode cX6_post 110 = .ok (.ireturn, 1) := by decide +kernel
theorem dX6_fog_0 : decode cX6_fog 0 = .ok (.iload_n 1, 1) := by decide +kernel
theorem dX6_fog_1 : decode cX6_fog 1 = .ok (.iconst (-1), 1) := by decide +kernel
theorem dX6_fog_2 : decode cX6_fog 2 = .ok (.if_icmp .eq 23, 3) := by decide +kernel
theorem dX6_fog_5 : decode cX6_fog 5 = .ok (.iload_n 1, 1) := by decide +kernel
theorem dX6_fog_6 : decode cX6_fog 6 = .ok (.iconst 0, 1) := by decide +kernel
theorem dX6_fog_7 : decode cX6_fog 7 = .ok (.aload_n 0, 1) := by decide +kernel
theorem dX6_fog_8 : decode cX6_fog 8 = .ok (.getfield 19, 3) := by decide +kernel
theorem dX6_fog_11 : decode cX6_fog 11 = .ok (.getfield 170, 3) := by decide +kernel
theorem dX6_fog_14 : decode cX6_fog 14 = .ok (.iconst 1, 1) := by decide +kernel
theorem dX6_fog_15 : decode cX6_fog 15 = .ok (.isub, 1) := by decide +kernel
theorem dX6_fog_16 : decode cX6_fog 16 = .ok (.invokestatic 80, 3) := by decide +kernel
theorem dX6_fog_19 : decode cX6_fog 19 = .ok (.ifCond .ne 6, 3) := by decide +kernel
theorem dX6_fog_22 : decode cX6_fog 22 = .ok (.ldc 84, 2) := by decide +kernel
theorem dX6_fog_24 : decode cX6_fog 24 = .ok (.ireturn, 1) := by decide +kernel
theorem dX6_fog_25 : decode cX6_fog 25 = .ok (.iload_n 2, 1) := by decide +kernel
theorem dX6_fog_26 : decode cX6_fog 26 = .ok (.iconst 0, 1) := by decide +kernel
theorem dX6_fog_27 : decode cX6_fog 27 = .ok (.iconst 1, 1) := by decide +kernel
theorem dX6_fog_28 : decode cX6_fog 28 = .ok (.invokestatic 80, 3) := by decide +kernel
theorem dX6_fog_31 : decode cX6_fog 31 = .ok (.ifCond .ne 6, 3) := by decide +kernel
theorem dX6_fog_34 : decode cX6_fog 34 = .ok (.ldc 84, 2) := by decide +kernel
theorem dX6_fog_36 : decode cX6_fog 36 = .ok (.ireturn, 1) := by decide +kernel
theorem dX6_fog_37 : decode cX6_fog 37 = .ok (.iload_n 1, 1) := by decide +kernel
theorem dX6_fog_38 : decode cX6_fog 38 = .ok (.iconst (-1), 1) := by decide +kernel
theorem dX6_fog_39 : decode cX6_fog 39 = .ok (.if_icmp .ne 13, 3) := by decide +kernel
theorem dX6_fog_42 : decode cX6_fog 42 = .ok (.aload_n 0, 1) := by decide +kernel
theorem dX6_fog_43 : decode cX6_fog 43 = .ok (.invokevirtual 173, 3) := by decide +kernel
theorem dX6_fog_46 : decode cX6_fog 46 = .ok (.ifCond .eq 6, 3) := by decide +kernel
theorem dX6_fog_49 : decode cX6_fog 49 = .ok (.ldc 177, 2) := by decide +kernel
theorem dX6_fog_51 : decode cX6_fog 51 = .ok (.ireturn, 1) := by decide +kernel
theorem dX6_fog_52 : decode cX6_fog 52 = .ok (.iload_n 1, 1) := by decide +kernel
theorem dX6_fog_53 : decode cX6_fog 53 = .ok (.iconst (-1), 1) := by decide +kernel
theorem dX6_fog_54 : decode cX6_fog 54 = .ok (.if_icmp .ne 13, 3) := by decide +kernel
theorem dX6_fog_57 : decode cX6_fog 57 = .ok (.aload_n 0, 1) := by decide +kernel
theorem dX6_fog_58 : decode cX6_fog 58 = .ok (.getfield 29, 3) := by decide +kernel
theorem dX6_fog_61 : decode cX6_fog 61 = .ok (.getfield 127, 3) := by decide +kernel
theorem dX6_fog_64 : decode cX6_fog 64 = .ok (.goto 4, 3) := by decide +kernel
theorem dX6_fog_67 : decode cX6_fog 67 = .ok (.iload_n 1, 1) := by decide +kernel
theorem dX6_fog_68 : decode cX6_fog 68 = .ok (.istore_n 3, 1) := by decide +kernel
theorem dX6_fog_69 : decode cX6_fog 69 = .ok (.iload_n 2, 1) := by decide +kernel
theorem dX6_fog_70 : decode cX6_fog 70 = .ok (.ifCond .ne 14, 3) := by decide +kernel
theorem dX6_fog_73 : decode cX6_fog 73 = .ok (.aload_n 0, 1) := by decide +kernel
theorem dX6_fog_74 : decode cX6_fog 74 = .ok (.getfield 19, 3) := by decide +kernel
theorem dX6_fog_77 : decode cX6_fog 77 = .ok (.iload_n 3, 1) := by decide +kernel
theorem dX6_fog_78 : decode cX6_fog 78 = .ok (.invokevirtual 178, 3) := by decide +kernel
theorem dX6_fog_81 : decode cX6_fog 81 = .ok (.goto 11, 3) := by decide +kernel
theorem dX6_fog_84 : decode cX6_fog 84 = .ok (.aload_n 0, 1) := by decide +kernel
theorem dX6_fog_85 : decode cX6_fog 85 = .ok (.getfield 19, 3) := by decide +kernel
theorem dX6_fog_88 : decode cX6_fog 88 = .ok (.iload_n 3, 1) := by decide +kernel
theorem dX6_fog_89 : decode cX6_fog 89 = .ok (.invokevirtual 181, 3) := by decide +kernel
theorem dX6_fog_92 : decode cX6_fog 92 = .ok (.ireturn, 1) := by decide +kernel
theorem dX6_village_0 : decode cX6_village 0 = .ok (.iload_n 1, 1) := by decide +kernel
theorem dX6_village_1 : decode cX6_village 1 = .ok (.invokestatic 184, 3) := by decide +kernel
theorem dX6_village_4 : decode cX6_village 4 = .ok (.ifCond .ne 6, 3) := by decide +kernel
theorem dX6_village_7 : decode cX6_village 7 = .ok (.ldc 150, 2) := by decide +kernel
theorem dX6_village_9 : decode cX6_village 9 = .ok (.ireturn, 1) := by decide +kernel
theorem dX6_village_10 : decode cX6_village 10 = .ok (.iload_n 2, 1) := by decide +kernel
theorem dX6_village_11 : decode cX6_village 11 = .ok (.tableswitch 90 0 4 #[33, 45, 57, 69, 81], 33) := by decide +kernel
theorem dX6_village_44 : decode cX6_village 44 = .ok (.aload_n 0, 1) := by decide +kernel
theorem dX6_village_45 : decode cX6_village 45 = .ok (.getfield 19, 3) := by decide +kernel
theorem dX6_village_48 : decode cX6_village 48 = .ok (.getfield 187, 3) := by decide +kernel
theorem dX6_village_51 : decode cX6_village 51 = .ok (.iload_n 1, 1) := by decide +kernel
theorem dX6_village_52 : decode cX6_village 52 = .ok (.invokestatic 154, 3) := by decide +kernel
theorem dX6_village_55 : decode cX6_village 55 = .ok (.ireturn, 1) := by decide +kernel
theorem dX6_village_56 : decode cX6_village 56 = .ok (.aload_n 0, 1) := by decide +kernel
theorem dX6_village_57 : decode cX6_village 57 = .ok (.getfield 19, 3) := by decide +kernel
theorem dX6_village_60 : decode cX6_village 60 = .ok (.getfield 190, 3) := by decide +kernel
theorem dX6_village_63 : decode cX6_village 63 = .ok (.iload_n 1, 1) := by decide +kernel
theorem dX6_village_64 : decode cX6_village 64 = .ok (.invokestatic 154, 3) := by decide +kernel
theorem dX6_village_67 : decode cX6_village 67 = .ok (.ireturn, 1) := by decide +kernel
theorem dX6_village_68 : decode cX6_village 68 = .ok (.aload_n 0, 1) := by decide +kernel
theorem dX6_village_69 : decode cX6_village 69 = .ok (.getfield 29, 3) := by decide +kernel
theorem dX6_village_72 : decode cX6_village 72 = .ok (.getfield 193, 3) := by decide +kernel
theorem dX6_village_75 : decode cX6_village 75 = .ok (.iload_n 1, 1) := by decide +kernel
theorem dX6_village_76 : decode cX6_village 76 = .ok (.invokestatic 154, 3) := by decide +kernel
theorem dX6_village_79 : decode cX6_village 79 = .ok (.ireturn, 1) := by decide +kernel
theorem dX6_village_80 : decode cX6_village 80 = .ok (.aload_n 0, 1) := by decide +kernel
theorem dX6_village_81 : decode cX6_village 81 = .ok (.getfield 29, 3) := by decide +kernel
theorem dX6_village_84 : decode cX6_village 84 = .ok (.getfield 196, 3) := by decide +kernel
theorem dX6_village_87 : decode cX6_village 87 = .ok (.iload_n 1, 1) := by decide +kernel
theorem dX6_village_88 : decode cX6_village 88 = .ok (.invokestatic 154, 3) := by decide +kernel
theorem dX6_village_91 : decode cX6_village 91 = .ok (.ireturn, 1) := by decide +kernel
theorem dX6_village_92 : decode cX6_village 92 = .ok (.aload_n 0, 1) := by decide +kernel
theorem dX6_village_93 : decode cX6_village 93 = .ok (.getfield 19, 3) := by decide +kernel
theorem dX6_village_96 : decode cX6_village 96 = .ok (.iload_n 1, 1) := by decide +kernel
theorem dX6_village_97 : decode cX6_village 97 = .ok (.invokevirtual 199, 3) := by decide +kernel
theorem dX6_village_100 : decode cX6_village 100 = .ok (.ireturn, 1) := by decide +kernel
theorem dX6_village_101 : decode cX6_village 101 = .ok (.ldc 84, 2) := by decide +kernel
theorem dX6_village_103 : decode cX6_village 103 = .ok (.ireturn, 1) := by decide +kernel
theorem dX6_goat_0 : decode cX6_goat 0 = .ok (.aload_n 0, 1) := by decide +kernel
theorem dX6_goat_1 : decode cX6_goat 1 = .ok (.iload_n 1, 1) := by decide +kernel
theorem dX6_goat_2 : decode cX6_goat 2 = .ok (.invokevirtual 202, 3) := by decide +kernel
theorem dX6_goat_5 : decode cX6_goat 5 = .ok (.ifCond .ne 6, 3) := by decide +kernel
theorem dX6_goat_8 : decode cX6_goat 8 = .ok (.ldc 150, 2) := by decide +kernel
theorem dX6_goat_10 : decode cX6_goat 10 = .ok (.ireturn, 1) := by decide +kernel
theorem dX6_goat_11 : decode cX6_goat 11 = .ok (.iload_n 2, 1) := by decide +kernel
theorem dX6_goat_12 : decode cX6_goat 12 = .ok (.iconst 0, 1) := by decide +kernel
theorem dX6_goat_13 : decode cX6_goat 13 = .ok (.iconst 1, 1) := by decide +kernel
theorem dX6_goat_14 : decode cX6_goat 14 = .ok (.invokestatic 80, 3) := by decide +kernel
theorem dX6_goat_17 : decode cX6_goat 17 = .ok (.ifCond .ne 6, 3) := by decide +kernel
theorem dX6_goat_20 : decode cX6_goat 20 = .ok (.ldc 84, 2) := by decide +kernel
theorem dX6_goat_22 : decode cX6_goat 22 = .ok (.ireturn, 1) := by decide +kernel
theorem dX6_goat_23 : decode cX6_goat 23 = .ok (.iload_n 2, 1) := by decide +kernel
theorem dX6_goat_24 : decode cX6_goat 24 = .ok (.ifCond .ne 13, 3) := by decide +kernel
theorem dX6_goat_27 : decode cX6_goat 27 = .ok (.aload_n 0, 1) := by decide +kernel
theorem dX6_goat_28 : decode cX6_goat 28 = .ok (.getfield 19, 3) := by decide +kernel
theorem dX6_goat_31 : decode cX6_goat 31 = .ok (.getfield 205, 3) := by decide +kernel
theorem dX6_goat_34 : decode cX6_goat 34 = .ok (.goto 10, 3) := by decide +kernel
theorem dX6_goat_37 : decode cX6_goat 37 = .ok (.aload_n 0, 1) := by decide +kernel
theorem dX6_goat_38 : decode cX6_goat 38 = .ok (.getfield 19, 3) := by decide +kernel
theorem dX6_goat_41 : decode cX6_goat 41 = .ok (.getfield 208, 3) := by decide +kernel
theorem dX6_goat_44 : decode cX6_goat 44 = .ok (.iload_n 1, 1) := by decide +kernel
theorem dX6_goat_45 : decode cX6_goat 45 = .ok (.invokestatic 154, 3) := by decide +kernel
theorem dX6_goat_48 : decode cX6_goat 48 = .ok (.ireturn, 1) := by decide +kernel
theorem dX6_hour_0 : decode cX6_hour 0 = .ok (.iload_n 1, 1) := by decide +kernel
theorem dX6_hour_1 : decode cX6_hour 1 = .ok (.iconst 1, 1) := by decide +kernel
theorem dX6_hour_2 : decode cX6_hour 2 = .ok (.bipush 60, 2) := by decide +kernel
theorem dX6_hour_4 : decode cX6_hour 4 = .ok (.invokestatic 80, 3) := by decide +kernel
theorem dX6_hour_7 : decode cX6_hour 7 = .ok (.ifCond .ne 6, 3) := by decide +kernel
theorem dX6_hour_10 : decode cX6_hour 10 = .ok (.ldc 84, 2) := by decide +kernel
theorem dX6_hour_12 : decode cX6_hour 12 = .ok (.ireturn, 1) := by decide +kernel
theorem dX6_hour_13 : decode cX6_hour 13 = .ok (.aload_n 0, 1) := by decide +kernel
theorem dX6_hour_14 : decode cX6_hour 14 = .ok (.invokevirtual 173, 3) := by decide +kernel
theorem dX6_hour_17 : decode cX6_hour 17 = .ok (.ifCond .eq 6, 3) := by decide +kernel
theorem dX6_hour_20 : decode cX6_hour 20 = .ok (.ldc 177, 2) := by decide +kernel
theorem dX6_hour_22 : decode cX6_hour 22 = .ok (.ireturn, 1) := by decide +kernel
theorem dX6_hour_23 : decode cX6_hour 23 = .ok (.aload_n 0, 1) := by decide +kernel
theorem dX6_hour_24 : decode cX6_hour 24 = .ok (.getfield 29, 3) := by decide +kernel
theorem dX6_hour_27 : decode cX6_hour 27 = .ok (.getfield 124, 3) := by decide +kernel
theorem dX6_hour_30 : decode cX6_hour 30 = .ok (.sipush 9000, 3) := by decide +kernel
theorem dX6_hour_33 : decode cX6_hour 33 = .ok (.if_icmp .le 6, 3) := by decide +kernel
theorem dX6_hour_36 : decode cX6_hour 36 = .ok (.ldc 88, 2) := by decide +kernel
theorem dX6_hour_38 : decode cX6_hour 38 = .ok (.ireturn, 1) := by decide +kernel
theorem dX6_hour_39 : decode cX6_hour 39 = .ok (.iconst 0, 1) := by decide +kernel
theorem dX6_hour_40 : decode cX6_hour 40 = .ok (.istore_n 2, 1) := by decide +kernel
theorem dX6_hour_41 : decode cX6_hour 41 = .ok (.iconst 0, 1) := by decide +kernel
theorem dX6_hour_42 : decode cX6_hour 42 = .ok (.istore_n 3, 1) := by decide +kernel
theorem dX6_hour_43 : decode cX6_hour 43 = .ok (.iload_n 3, 1) := by decide +kernel
theorem dX6_hour_44 : decode cX6_hour 44 = .ok (.iload_n 1, 1) := by decide +kernel
theorem dX6_hour_45 : decode cX6_hour 45 = .ok (.if_icmp .ge 67, 3) := by decide +kernel
theorem dX6_hour_48 : decode cX6_hour 48 = .ok (.aload_n 0, 1) := by decide +kernel
theorem dX6_hour_49 : decode cX6_hour 49 = .ok (.getfield 50, 3) := by decide +kernel
theorem dX6_hour_52 : decode cX6_hour 52 = .ok (.aload_n 0, 1) := by decide +kernel
theorem dX6_hour_53 : decode cX6_hour 53 = .ok (.getfield 29, 3) := by decide +kernel
theorem dX6_hour_56 : decode cX6_hour 56 = .ok (.invokevirtual 211, 3) := by decide +kernel
theorem dX6_hour_59 : decode cX6_hour 59 = .ok (.iload_n 2, 1) := by decide +kernel
theorem dX6_hour_60 : decode cX6_hour 60 = .ok (.aload_n 0, 1) := by decide +kernel
theorem dX6_hour_61 : decode cX6_hour 61 = .ok (.getfield 29, 3) := by decide +kernel
theorem dX6_hour_64 : decode cX6_hour 64 = .ok (.aload_n 0, 1) := by decide +kernel
theorem dX6_hour_65 : decode cX6_hour 65 = .ok (.getfield 19, 3) := by decide +kernel
theorem dX6_hour_68 : decode cX6_hour 68 = .ok (.aload_n 0, 1) := by decide +kernel
theorem dX6_hour_69 : decode cX6_hour 69 = .ok (.getfield 43, 3) := by decide +kernel
theorem dX6_hour_72 : decode cX6_hour 72 = .ok (.aload_n 0, 1) := by decide +kernel
theorem dX6_hour_73 : decode cX6_hour 73 = .ok (.getfield 19, 3) := by decide +kernel
theorem dX6_hour_76 : decode cX6_hour 76 = .ok (.aload_n 0, 1) := by decide +kernel
theorem dX6_hour_77 : decode cX6_hour 77 = .ok (.getfield 29, 3) := by decide +kernel
theorem dX6_hour_80 : decode cX6_hour 80 = .ok (.getfield 127, 3) := by decide +kernel
theorem dX6_hour_83 : decode cX6_hour 83 = .ok (.invokevirtual 178, 3) := by decide +kernel
theorem dX6_hour_86 : decode cX6_hour 86 = .ok (.aload_n 0, 1) := by decide +kernel
theorem dX6_hour_87 : decode cX6_hour 87 = .ok (.getfield 19, 3) := by decide +kernel
theorem dX6_hour_90 : decode cX6_hour 90 = .ok (.aload_n 0, 1) := by decide +kernel
theorem dX6_hour_91 : decode cX6_hour 91 = .ok (.getfield 29, 3) := by decide +kernel
theorem dX6_hour_94 : decode cX6_hour 94 = .ok (.getfield 127, 3) := by decide +kernel
theorem dX6_hour_97 : decode cX6_hour 97 = .ok (.invokevirtual 181, 3) := by decide +kernel
theorem dX6_hour_100 : decode cX6_hour 100 = .ok (.iconst 0, 1) := by decide +kernel
theorem dX6_hour_101 : decode cX6_hour 101 = .ok (.invokevirtual 215, 3) := by decide +kernel
theorem dX6_hour_104 : decode cX6_hour 104 = .ok (.iadd, 1) := by decide +kernel
theorem dX6_hour_105 : decode cX6_hour 105 = .ok (.istore_n 2, 1) := by decide +kernel
theorem dX6_hour_106 : decode cX6_hour 106 = .ok (.iinc 3 1, 3) := by decide +kernel
theorem dX6_hour_109 : decode cX6_hour 109 = .ok (.goto (-66), 3) := by decide +kernel
theorem dX6_hour_112 : decode cX6_hour 112 = .ok (.iload_n 2, 1) := by decide +kernel
theorem dX6_hour_113 : decode cX6_hour 113 = .ok (.ireturn, 1) := by decide +kernel
theorem dX6_carry_0 : decode cX6_carry 0 = .ok (.iload_n 1, 1) := by decide +kernel
theorem dX6_carry_1 : decode cX6_carry 1 = .ok (.invokestatic 184, 3) := by decide +kernel
theorem dX6_carry_4 : decode cX6_carry 4 = .ok (.ifCond .ne 6, 3) := by decide +kernel
theorem dX6_carry_7 : decode cX6_carry 7 = .ok (.ldc 150, 2) := by decide +kernel
theorem dX6_carry_9 : decode cX6_carry 9 = .ok (.ireturn, 1) := by decide +kernel
theorem dX6_carry_10 : decode cX6_carry 10 = .ok (.aload_n 0, 1) := by decide +kernel
theorem dX6_carry_11 : decode cX6_carry 11 = .ok (.invokevirtual 173, 3) := by decide +kernel
theorem dX6_carry_14 : decode cX6_carry 14 = .ok (.ifCond .eq 6, 3) := by decide +kernel
theorem dX6_carry_17 : decode cX6_carry 17 = .ok (.ldc 177, 2) := by decide +kernel
theorem dX6_carry_19 : decode cX6_carry 19 = .ok (.ireturn, 1) := by decide +kernel
theorem dX6_carry_20 : decode cX6_carry 20 = .ok (.aload_n 0, 1) := by decide +kernel
theorem dX6_carry_21 : decode cX6_carry 21 = .ok (.getfield 50, 3) := by decide +kernel
theorem dX6_carry_24 : decode cX6_carry 24 = .ok (.aload_n 0, 1) := by decide +kernel
theorem dX6_carry_25 : decode cX6_carry 25 = .ok (.getfield 29, 3) := by decide +kernel
theorem dX6_carry_28 : decode cX6_carry 28 = .ok (.invokevirtual 211, 3) := by decide +kernel
theorem dX6_carry_31 : decode cX6_carry 31 = .ok (.aload_n 0, 1) := by decide +kernel
theorem dX6_carry_32 : decode cX6_carry 32 = .ok (.getfield 29, 3) := by decide +kernel
theorem dX6_carry_35 : decode cX6_carry 35 = .ok (.aload_n 0, 1) := by decide +kernel
theorem dX6_carry_36 : decode cX6_carry 36 = .ok (.getfield 19, 3) := by decide +kernel
theorem dX6_carry_39 : decode cX6_carry 39 = .ok (.iload_n 1, 1) := by decide +kernel
theorem dX6_carry_40 : decode cX6_carry 40 = .ok (.invokevirtual 219, 3) := by decide +kernel
theorem dX6_carry_43 : decode cX6_carry 43 = .ok (.ireturn, 1) := by decide +kernel
theorem dX6_lick_0 : decode cX6_lick 0 = .ok (.aload_n 0, 1) := by decide +kernel
theorem dX6_lick_1 : decode cX6_lick 1 = .ok (.iload_n 1, 1) := by decide +kernel
theorem dX6_lick_2 : decode cX6_lick 2 = .ok (.invokevirtual 146, 3) := by decide +kernel
theorem dX6_lick_5 : decode cX6_lick 5 = .ok (.ifCond .ne 6, 3) := by decide +kernel
theorem dX6_lick_8 : decode cX6_lick 8 = .ok (.ldc 150, 2) := by decide +kernel
theorem dX6_lick_10 : decode cX6_lick 10 = .ok (.ireturn, 1) := by decide +kernel
theorem dX6_lick_11 : decode cX6_lick 11 = .ok (.iload_n 2, 1) := by decide +kernel
theorem dX6_lick_12 : decode cX6_lick 12 = .ok (.iconst 1, 1) := by decide +kernel
theorem dX6_lick_13 : decode cX6_lick 13 = .ok (.bipush 99, 2) := by decide +kernel
theorem dX6_lick_15 : decode cX6_lick 15 = .ok (.invokestatic 80, 3) := by decide +kernel
theorem dX6_lick_18 : decode cX6_lick 18 = .ok (.ifCond .ne 6, 3) := by decide +kernel
theorem dX6_lick_21 : decode cX6_lick 21 = .ok (.ldc 84, 2) := by decide +kernel
theorem dX6_lick_23 : decode cX6_lick 23 = .ok (.ireturn, 1) := by decide +kernel
theorem dX6_lick_24 : decode cX6_lick 24 = .ok (.aload_n 0, 1) := by decide +kernel
theorem dX6_lick_25 : decode cX6_lick 25 = .ok (.getfield 50, 3) := by decide +kernel
theorem dX6_lick_28 : decode cX6_lick 28 = .ok (.aload_n 0, 1) := by decide +kernel
theorem dX6_lick_29 : decode cX6_lick 29 = .ok (.getfield 29, 3) := by decide +kernel
theorem dX6_lick_32 : decode cX6_lick 32 = .ok (.invokevirtual 211, 3) := by decide +kernel
theorem dX6_lick_35 : decode cX6_lick 35 = .ok (.aload_n 0, 1) := by decide +kernel
theorem dX6_lick_36 : decode cX6_lick 36 = .ok (.getfield 29, 3) := by decide +kernel
theorem dX6_lick_39 : decode cX6_lick 39 = .ok (.iload_n 1, 1) := by decide +kernel
theorem dX6_lick_40 : decode cX6_lick 40 = .ok (.iload_n 2, 1) := by decide +kernel
theorem dX6_lick_41 : decode cX6_lick 41 = .ok (.invokevirtual 223, 3) := by decide +kernel
theorem dX6_lick_44 : decode cX6_lick 44 = .ok (.ireturn, 1) := by decide +kernel
theorem dX6_mesh_0 : decode cX6_mesh 0 = .ok (.aload_n 0, 1) := by decide +kernel
theorem dX6_mesh_1 : decode cX6_mesh 1 = .ok (.iload_n 1, 1) := by decide +kernel
theorem dX6_mesh_2 : decode cX6_mesh 2 = .ok (.invokevirtual 146, 3) := by decide +kernel
theorem dX6_mesh_5 : decode cX6_mesh 5 = .ok (.ifCond .ne 6, 3) := by decide +kernel
theorem dX6_mesh_8 : decode cX6_mesh 8 = .ok (.ldc 150, 2) := by decide +kernel
theorem dX6_mesh_10 : decode cX6_mesh 10 = .ok (.ireturn, 1) := by decide +kernel
theorem dX6_mesh_11 : decode cX6_mesh 11 = .ok (.iload_n 2, 1) := by decide +kernel
theorem dX6_mesh_12 : decode cX6_mesh 12 = .ok (.iconst 0, 1) := by decide +kernel
theorem dX6_mesh_13 : decode cX6_mesh 13 = .ok (.bipush 9, 2) := by decide +kernel
theorem dX6_mesh_15 : decode cX6_mesh 15 = .ok (.invokestatic 80, 3) := by decide +kernel
theorem dX6_mesh_18 : decode cX6_mesh 18 = .ok (.ifCond .ne 6, 3) := by decide +kernel
theorem dX6_mesh_21 : decode cX6_mesh 21 = .ok (.ldc 84, 2) := by decide +kernel
theorem dX6_mesh_23 : decode cX6_mesh 23 = .ok (.ireturn, 1) := by decide +kernel
theorem dX6_mesh_24 : decode cX6_mesh 24 = .ok (.aload_n 0, 1) := by decide +kernel
theorem dX6_mesh_25 : decode cX6_mesh 25 = .ok (.getfield 50, 3) := by decide +kernel
theorem dX6_mesh_28 : decode cX6_mesh 28 = .ok (.aload_n 0, 1) := by decide +kernel
theorem dX6_mesh_29 : decode cX6_mesh 29 = .ok (.getfield 29, 3) := by decide +kernel
theorem dX6_mesh_32 : decode cX6_mesh 32 = .ok (.invokevirtual 211, 3) := by decide +kernel
theorem dX6_mesh_35 : decode cX6_mesh 35 = .ok (.aload_n 0, 1) := by decide +kernel
theorem dX6_mesh_36 : decode cX6_mesh 36 = .ok (.getfield 29, 3) := by decide +kernel
theorem dX6_mesh_39 : decode cX6_mesh 39 = .ok (.getfield 158, 3) := by decide +kernel
theorem dX6_mesh_42 : decode cX6_mesh 42 = .ok (.iload_n 1, 1) := by decide +kernel
theorem dX6_mesh_43 : decode cX6_mesh 43 = .ok (.invokestatic 154, 3) := by decide +kernel
theorem dX6_mesh_46 : decode cX6_mesh 46 = .ok (.istore_n 3, 1) := by decide +kernel
theorem dX6_mesh_47 : decode cX6_mesh 47 = .ok (.aload_n 0, 1) := by decide +kernel
theorem dX6_mesh_48 : decode cX6_mesh 48 = .ok (.getfield 29, 3) := by decide +kernel
theorem dX6_mesh_51 : decode cX6_mesh 51 = .ok (.getfield 158, 3) := by decide +kernel
theorem dX6_mesh_54 : decode cX6_mesh 54 = .ok (.iload_n 1, 1) := by decide +kernel
theorem dX6_mesh_55 : decode cX6_mesh 55 = .ok (.iload_n 2, 1) := by decide +kernel
theorem dX6_mesh_56 : decode cX6_mesh 56 = .ok (.invokestatic 227, 3) := by decide +kernel
theorem dX6_mesh_59 : decode cX6_mesh 59 = .ok (.iload_n 3, 1) := by decide +kernel
theorem dX6_mesh_60 : decode cX6_mesh 60 = .ok (.ireturn, 1) := by decide +kernel
theorem dX6_move_0 : decode cX6_move 0 = .ok (.aload_n 0, 1) := by decide +kernel
theorem dX6_move_1 : decode cX6_move 1 = .ok (.iload_n 1, 1) := by decide +kernel
theorem dX6_move_2 : decode cX6_move 2 = .ok (.invokevirtual 146, 3) := by decide +kernel
theorem dX6_move_5 : decode cX6_move 5 = .ok (.ifCond .eq 11, 3) := by decide +kernel
theorem dX6_move_8 : decode cX6_move 8 = .ok (.aload_n 0, 1) := by decide +kernel
theorem dX6_move_9 : decode cX6_move 9 = .ok (.iload_n 2, 1) := by decide +kernel
theorem dX6_move_10 : decode cX6_move 10 = .ok (.invokevirtual 231, 3) := by decide +kernel
theorem dX6_move_13 : decode cX6_move 13 = .ok (.ifCond .ne 6, 3) := by decide +kernel
theorem dX6_move_16 : decode cX6_move 16 = .ok (.ldc 150, 2) := by decide +kernel
theorem dX6_move_18 : decode cX6_move 18 = .ok (.ireturn, 1) := by decide +kernel
theorem dX6_move_19 : decode cX6_move 19 = .ok (.aload_n 0, 1) := by decide +kernel
theorem dX6_move_20 : decode cX6_move 20 = .ok (.getfield 29, 3) := by decide +kernel
theorem dX6_move_23 : decode cX6_move 23 = .ok (.iload_n 2, 1) := by decide +kernel
theorem dX6_move_24 : decode cX6_move 24 = .ok (.invokevirtual 234, 3) := by decide +kernel
theorem dX6_move_27 : decode cX6_move 27 = .ok (.iconst (-1), 1) := by decide +kernel
theorem dX6_move_28 : decode cX6_move 28 = .ok (.if_icmp .eq 6, 3) := by decide +kernel
theorem dX6_move_31 : decode cX6_move 31 = .ok (.ldc 177, 2) := by decide +kernel
theorem dX6_move_33 : decode cX6_move 33 = .ok (.ireturn, 1) := by decide +kernel
theorem dX6_move_34 : decode cX6_move 34 = .ok (.aload_n 0, 1) := by decide +kernel
theorem dX6_move_35 : decode cX6_move 35 = .ok (.getfield 50, 3) := by decide +kernel
theorem dX6_move_38 : decode cX6_move 38 = .ok (.aload_n 0, 1) := by decide +kernel
theorem dX6_move_39 : decode cX6_move 39 = .ok (.getfield 29, 3) := by decide +kernel
theorem dX6_move_42 : decode cX6_move 42 = .ok (.invokevirtual 211, 3) := by decide +kernel
theorem dX6_move_45 : decode cX6_move 45 = .ok (.aload_n 0, 1) := by decide +kernel
theorem dX6_move_46 : decode cX6_move 46 = .ok (.getfield 29, 3) := by decide +kernel
theorem dX6_move_49 : decode cX6_move 49 = .ok (.getfield 151, 3) := by decide +kernel
theorem dX6_move_52 : decode cX6_move 52 = .ok (.iload_n 1, 1) := by decide +kernel
theorem dX6_move_53 : decode cX6_move 53 = .ok (.invokestatic 154, 3) := by decide +kernel
theorem dX6_move_56 : decode cX6_move 56 = .ok (.istore_n 3, 1) := by decide +kernel
theorem dX6_move_57 : decode cX6_move 57 = .ok (.aload_n 0, 1) := by decide +kernel
theorem dX6_move_58 : decode cX6_move 58 = .ok (.getfield 29, 3) := by decide +kernel
theorem dX6_move_61 : decode cX6_move 61 = .ok (.getfield 151, 3) := by decide +kernel
theorem dX6_move_64 : decode cX6_move 64 = .ok (.iload_n 1, 1) := by decide +kernel
theorem dX6_move_65 : decode cX6_move 65 = .ok (.iload_n 2, 1) := by decide +kernel
theorem dX6_move_66 : decode cX6_move 66 = .ok (.invokestatic 227, 3) := by decide +kernel
theorem dX6_move_69 : decode cX6_move 69 = .ok (.iload_n 3, 1) := by decide +kernel
theorem dX6_move_70 : decode cX6_move 70 = .ok (.ireturn, 1) := by decide +kernel
theorem dX6_lamp_0 : decode cX6_lamp 0 = .ok (.aload_n 0, 1) := by decide +kernel
theorem dX6_lamp_1 : decode cX6_lamp 1 = .ok (.invokevirtual 173, 3) := by decide +kernel
theorem dX6_lamp_4 : decode cX6_lamp 4 = .ok (.ifCond .eq 6, 3) := by decide +kernel
theorem dX6_lamp_7 : decode cX6_lamp 7 = .ok (.ldc 177, 2) := by decide +kernel
theorem dX6_lamp_9 : decode cX6_lamp 9 = .ok (.ireturn, 1) := by decide +kernel
theorem dX6_lamp_10 : decode cX6_lamp 10 = .ok (.aload_n 0, 1) := by decide +kernel
theorem dX6_lamp_11 : decode cX6_lamp 11 = .ok (.getfield 50, 3) := by decide +kernel
theorem dX6_lamp_14 : decode cX6_lamp 14 = .ok (.aload_n 0, 1) := by decide +kernel
theorem dX6_lamp_15 : decode cX6_lamp 15 = .ok (.getfield 29, 3) := by decide +kernel
theorem dX6_lamp_18 : decode cX6_lamp 18 = .ok (.invokevirtual 211, 3) := by decide +kernel
theorem dX6_lamp_21 : decode cX6_lamp 21 = .ok (.aload_n 0, 1) := by decide +kernel
theorem dX6_lamp_22 : decode cX6_lamp 22 = .ok (.getfield 29, 3) := by decide +kernel
theorem dX6_lamp_25 : decode cX6_lamp 25 = .ok (.getfield 130, 3) := by decide +kernel
theorem dX6_lamp_28 : decode cX6_lamp 28 = .ok (.ifCond .eq 7, 3) := by decide +kernel
theorem dX6_lamp_31 : decode cX6_lamp 31 = .ok (.iconst 1, 1) := by decide +kernel
theorem dX6_lamp_32 : decode cX6_lamp 32 = .ok (.goto 4, 3) := by decide +kernel
theorem dX6_lamp_35 : decode cX6_lamp 35 = .ok (.iconst 0, 1) := by decide +kernel
theorem dX6_lamp_36 : decode cX6_lamp 36 = .ok (.istore_n 2, 1) := by decide +kernel
theorem dX6_lamp_37 : decode cX6_lamp 37 = .ok (.aload_n 0, 1) := by decide +kernel
theorem dX6_lamp_38 : decode cX6_lamp 38 = .ok (.getfield 29, 3) := by decide +kernel
theorem dX6_lamp_41 : decode cX6_lamp 41 = .ok (.iload_n 1, 1) := by decide +kernel
theorem dX6_lamp_42 : decode cX6_lamp 42 = .ok (.putfield 130, 3) := by decide +kernel
theorem dX6_lamp_45 : decode cX6_lamp 45 = .ok (.iload_n 2, 1) := by decide +kernel
theorem dX6_lamp_46 : decode cX6_lamp 46 = .ok (.ireturn, 1) := by decide +kernel
theorem dX6_drift_0 : decode cX6_drift 0 = .ok (.iload_n 1, 1) := by decide +kernel
theorem dX6_drift_1 : decode cX6_drift 1 = .ok (.iconst 1, 1) := by decide +kernel
theorem dX6_drift_2 : decode cX6_drift 2 = .ok (.bipush 60, 2) := by decide +kernel
theorem dX6_drift_4 : decode cX6_drift 4 = .ok (.invokestatic 80, 3) := by decide +kernel
theorem dX6_drift_7 : decode cX6_drift 7 = .ok (.ifCond .ne 6, 3) := by decide +kernel
theorem dX6_drift_10 : decode cX6_drift 10 = .ok (.ldc 84, 2) := by decide +kernel
theorem dX6_drift_12 : decode cX6_drift 12 = .ok (.ireturn, 1) := by decide +kernel
theorem dX6_drift_13 : decode cX6_drift 13 = .ok (.aload_n 0, 1) := by decide +kernel
theorem dX6_drift_14 : decode cX6_drift 14 = .ok (.invokevirtual 173, 3) := by decide +kernel
theorem dX6_drift_17 : decode cX6_drift 17 = .ok (.ifCond .eq 6, 3) := by decide +kernel
theorem dX6_drift_20 : decode cX6_drift 20 = .ok (.ldc 177, 2) := by decide +kernel
theorem dX6_drift_22 : decode cX6_drift 22 = .ok (.ireturn, 1) := by decide +kernel
theorem dX6_drift_23 : decode cX6_drift 23 = .ok (.aload_n 0, 1) := by decide +kernel
theorem dX6_drift_24 : decode cX6_drift 24 = .ok (.getfield 29, 3) := by decide +kernel
theorem dX6_drift_27 : decode cX6_drift 27 = .ok (.getfield 124, 3) := by decide +kernel
theorem dX6_drift_30 : decode cX6_drift 30 = .ok (.sipush 9000, 3) := by decide +kernel
theorem dX6_drift_33 : decode cX6_drift 33 = .ok (.if_icmp .le 6, 3) := by decide +kernel
theorem dX6_drift_36 : decode cX6_drift 36 = .ok (.ldc 88, 2) := by decide +kernel
theorem dX6_drift_38 : decode cX6_drift 38 = .ok (.ireturn, 1) := by decide +kernel
theorem dX6_drift_39 : decode cX6_drift 39 = .ok (.iconst 0, 1) := by decide +kernel
theorem dX6_drift_40 : decode cX6_drift 40 = .ok (.istore_n 2, 1) := by decide +kernel
theorem dX6_drift_41 : decode cX6_drift 41 = .ok (.iconst 0, 1) := by decide +kernel
theorem dX6_drift_42 : decode cX6_drift 42 = .ok (.istore_n 3, 1) := by decide +kernel
theorem dX6_drift_43 : decode cX6_drift 43 = .ok (.iload_n 3, 1) := by decide +kernel
theorem dX6_drift_44 : decode cX6_drift 44 = .ok (.iload_n 1, 1) := by decide +kernel
theorem dX6_drift_45 : decode cX6_drift 45 = .ok (.if_icmp .ge 62, 3) := by decide +kernel
theorem dX6_drift_48 : decode cX6_drift 48 = .ok (.aload_n 0, 1) := by decide +kernel
theorem dX6_drift_49 : decode cX6_drift 49 = .ok (.getfield 50, 3) := by decide +kernel
theorem dX6_drift_52 : decode cX6_drift 52 = .ok (.aload_n 0, 1) := by decide +kernel
theorem dX6_drift_53 : decode cX6_drift 53 = .ok (.getfield 29, 3) := by decide +kernel
theorem dX6_drift_56 : decode cX6_drift 56 = .ok (.invokevirtual 211, 3) := by decide +kernel
theorem dX6_drift_59 : decode cX6_drift 59 = .ok (.aload_n 0, 1) := by decide +kernel
theorem dX6_drift_60 : decode cX6_drift 60 = .ok (.bipush 41, 2) := by decide +kernel
theorem dX6_drift_62 : decode cX6_drift 62 = .ok (.invokevirtual 237, 3) := by decide +kernel
theorem dX6_drift_65 : decode cX6_drift 65 = .ok (.istore 4, 2) := by decide +kernel
theorem dX6_drift_67 : decode cX6_drift 67 = .ok (.aload_n 0, 1) := by decide +kernel
theorem dX6_drift_68 : decode cX6_drift 68 = .ok (.iconst 2, 1) := by decide +kernel
theorem dX6_drift_69 : decode cX6_drift 69 = .ok (.invokevirtual 237, 3) := by decide +kernel
theorem dX6_drift_72 : decode cX6_drift 72 = .ok (.istore 5, 2) := by decide +kernel
theorem dX6_drift_74 : decode cX6_drift 74 = .ok (.iload_n 2, 1) := by decide +kernel
theorem dX6_drift_75 : decode cX6_drift 75 = .ok (.aload_n 0, 1) := by decide +kernel
theorem dX6_drift_76 : decode cX6_drift 76 = .ok (.getfield 29, 3) := by decide +kernel
theorem dX6_drift_79 : decode cX6_drift 79 = .ok (.aload_n 0, 1) := by decide +kernel
theorem dX6_drift_80 : decode cX6_drift 80 = .ok (.getfield 19, 3) := by decide +kernel
theorem dX6_drift_83 : decode cX6_drift 83 = .ok (.aload_n 0, 1) := by decide +kernel
theorem dX6_drift_84 : decode cX6_drift 84 = .ok (.getfield 43, 3) := by decide +kernel
theorem dX6_drift_87 : decode cX6_drift 87 = .ok (.iload 5, 2) := by decide +kernel
theorem dX6_drift_89 : decode cX6_drift 89 = .ok (.iload 4, 2) := by decide +kernel
theorem dX6_drift_91 : decode cX6_drift 91 = .ok (.iconst 0, 1) := by decide +kernel
theorem dX6_drift_92 : decode cX6_drift 92 = .ok (.invokevirtual 215, 3) := by decide +kernel
theorem dX6_drift_95 : decode cX6_drift 95 = .ok (.iadd, 1) := by decide +kernel
theorem dX6_drift_96 : decode cX6_drift 96 = .ok (.istore_n 2, 1) := by decide +kernel
theorem dX6_drift_97 : decode cX6_drift 97 = .ok (.aload_n 0, 1) := by decide +kernel
theorem dX6_drift_98 : decode cX6_drift 98 = .ok (.invokevirtual 240, 3) := by decide +kernel
theorem dX6_drift_101 : decode cX6_drift 101 = .ok (.iinc 3 1, 3) := by decide +kernel
theorem dX6_drift_104 : decode cX6_drift 104 = .ok (.goto (-61), 3) := by decide +kernel
theorem dX6_drift_107 : decode cX6_drift 107 = .ok (.iload_n 2, 1) := by decide +kernel
theorem dX6_drift_108 : decode cX6_drift 108 = .ok (.ireturn, 1) := by decide +kernel
theorem dX6_undo_0 : decode cX6_undo 0 = .ok (.iload_n 1, 1) := by decide +kernel
theorem dX6_undo_1 : decode cX6_undo 1 = .ok (.iconst 1, 1) := by decide +kernel
theorem dX6_undo_2 : decode cX6_undo 2 = .ok (.bipush 30, 2) := by decide +kernel
theorem dX6_undo_4 : decode cX6_undo 4 = .ok (.invokestatic 80, 3) := by decide +kernel
theorem dX6_undo_7 : decode cX6_undo 7 = .ok (.ifCond .ne 6, 3) := by decide +kernel
theorem dX6_undo_10 : decode cX6_undo 10 = .ok (.ldc 84, 2) := by decide +kernel
theorem dX6_undo_12 : decode cX6_undo 12 = .ok (.ireturn, 1) := by decide +kernel
theorem dX6_undo_13 : decode cX6_undo 13 = .ok (.iload_n 1, 1) := by decide +kernel
theorem dX6_undo_14 : decode cX6_undo 14 = .ok (.aload_n 0, 1) := by decide +kernel
theorem dX6_undo_15 : decode cX6_undo 15 = .ok (.getfield 50, 3) := by decide +kernel
theorem dX6_undo_18 : decode cX6_undo 18 = .ok (.getfield 101, 3) := by decide +kernel
theorem dX6_undo_21 : decode cX6_undo 21 = .ok (.if_icmp .le 6, 3) := by decide +kernel
theorem dX6_undo_24 : decode cX6_undo 24 = .ok (.ldc 177, 2) := by decide +kernel
theorem dX6_undo_26 : decode cX6_undo 26 = .ok (.ireturn, 1) := by decide +kernel
theorem dX6_undo_27 : decode cX6_undo 27 = .ok (.aload_n 0, 1) := by decide +kernel
theorem dX6_undo_28 : decode cX6_undo 28 = .ok (.getfield 50, 3) := by decide +kernel
theorem dX6_undo_31 : decode cX6_undo 31 = .ok (.aload_n 0, 1) := by decide +kernel
theorem dX6_undo_32 : decode cX6_undo 32 = .ok (.getfield 29, 3) := by decide +kernel
theorem dX6_undo_35 : decode cX6_undo 35 = .ok (.iload_n 1, 1) := by decide +kernel
theorem dX6_undo_36 : decode cX6_undo 36 = .ok (.invokevirtual 243, 3) := by decide +kernel
theorem dX6_undo_39 : decode cX6_undo 39 = .ok (.aload_n 0, 1) := by decide +kernel
theorem dX6_undo_40 : decode cX6_undo 40 = .ok (.getfield 29, 3) := by decide +kernel
theorem dX6_undo_43 : decode cX6_undo 43 = .ok (.getfield 124, 3) := by decide +kernel
theorem dX6_undo_46 : decode cX6_undo 46 = .ok (.ireturn, 1) := by decide +kernel
theorem dX6_gets_0 : decode cX6_gets 0 = .ok (.aload_n 0, 1) := by decide +kernel
theorem dX6_gets_1 : decode cX6_gets 1 = .ok (.iload_n 1, 1) := by decide +kernel
theorem dX6_gets_2 : decode cX6_gets 2 = .ok (.invokevirtual 146, 3) := by decide +kernel
theorem dX6_gets_5 : decode cX6_gets 5 = .ok (.ifCond .ne 6, 3) := by decide +kernel
theorem dX6_gets_8 : decode cX6_gets 8 = .ok (.ldc 150, 2) := by decide +kernel
theorem dX6_gets_10 : decode cX6_gets 10 = .ok (.ireturn, 1) := by decide +kernel
theorem dX6_gets_11 : decode cX6_gets 11 = .ok (.iload_n 2, 1) := by decide +kernel
theorem dX6_gets_12 : decode cX6_gets 12 = .ok (.iconst 0, 1) := by decide +kernel
theorem dX6_gets_13 : decode cX6_gets 13 = .ok (.bipush 99, 2) := by decide +kernel
theorem dX6_gets_15 : decode cX6_gets 15 = .ok (.invokestatic 80, 3) := by decide +kernel
theorem dX6_gets_18 : decode cX6_gets 18 = .ok (.ifCond .ne 6, 3) := by decide +kernel
theorem dX6_gets_21 : decode cX6_gets 21 = .ok (.ldc 84, 2) := by decide +kernel
theorem dX6_gets_23 : decode cX6_gets 23 = .ok (.ireturn, 1) := by decide +kernel
theorem dX6_gets_24 : decode cX6_gets 24 = .ok (.aload_n 0, 1) := by decide +kernel
theorem dX6_gets_25 : decode cX6_gets 25 = .ok (.getfield 33, 3) := by decide +kernel
theorem dX6_gets_28 : decode cX6_gets 28 = .ok (.aload_n 0, 1) := by decide +kernel
theorem dX6_gets_29 : decode cX6_gets 29 = .ok (.getfield 29, 3) := by decide +kernel
theorem dX6_gets_32 : decode cX6_gets 32 = .ok (.invokevirtual 247, 3) := by decide +kernel
theorem dX6_gets_35 : decode cX6_gets 35 = .ok (.aload_n 0, 1) := by decide +kernel
theorem dX6_gets_36 : decode cX6_gets 36 = .ok (.iload_n 2, 1) := by decide +kernel
theorem dX6_gets_37 : decode cX6_gets 37 = .ok (.invokevirtual 250, 3) := by decide +kernel
theorem dX6_gets_40 : decode cX6_gets 40 = .ok (.pop, 1) := by decide +kernel
theorem dX6_gets_41 : decode cX6_gets 41 = .ok (.aload_n 0, 1) := by decide +kernel
theorem dX6_gets_42 : decode cX6_gets 42 = .ok (.getfield 36, 3) := by decide +kernel
theorem dX6_gets_45 : decode cX6_gets 45 = .ok (.iload_n 1, 1) := by decide +kernel
theorem dX6_gets_46 : decode cX6_gets 46 = .ok (.invokestatic 154, 3) := by decide +kernel
theorem dX6_gets_49 : decode cX6_gets 49 = .ok (.ireturn, 1) := by decide +kernel
theorem dX6_left_0 : decode cX6_left 0 = .ok (.aload_n 0, 1) := by decide +kernel
theorem dX6_left_1 : decode cX6_left 1 = .ok (.invokevirtual 173, 3) := by decide +kernel
theorem dX6_left_4 : decode cX6_left 4 = .ok (.ifCond .eq 6, 3) := by decide +kernel
theorem dX6_left_7 : decode cX6_left 7 = .ok (.ldc 177, 2) := by decide +kernel
theorem dX6_left_9 : decode cX6_left 9 = .ok (.ireturn, 1) := by decide +kernel
theorem dX6_left_10 : decode cX6_left 10 = .ok (.aload_n 0, 1) := by decide +kernel
theorem dX6_left_11 : decode cX6_left 11 = .ok (.aload_n 0, 1) := by decide +kernel
theorem dX6_left_12 : decode cX6_left 12 = .ok (.getfield 29, 3) := by decide +kernel
theorem dX6_left_15 : decode cX6_left 15 = .ok (.aload_n 0, 1) := by decide +kernel
theorem dX6_left_16 : decode cX6_left 16 = .ok (.getfield 19, 3) := by decide +kernel
theorem dX6_left_19 : decode cX6_left 19 = .ok (.invokevirtual 134, 3) := by decide +kernel
theorem dX6_left_22 : decode cX6_left 22 = .ok (.invokevirtual 253, 3) := by decide +kernel
theorem dX6_left_25 : decode cX6_left 25 = .ok (.aload_n 0, 1) := by decide +kernel
theorem dX6_left_26 : decode cX6_left 26 = .ok (.getfield 43, 3) := by decide +kernel
theorem dX6_left_29 : decode cX6_left 29 = .ok (.getfield 259, 3) := by decide +kernel
theorem dX6_left_32 : decode cX6_left 32 = .ok (.ireturn, 1) := by decide +kernel
theorem dX6_bestMesh_0 : decode cX6_bestMesh 0 = .ok (.aload_n 0, 1) := by decide +kernel
theorem dX6_bestMesh_1 : decode cX6_bestMesh 1 = .ok (.iload_n 1, 1) := by decide +kernel
theorem dX6_bestMesh_2 : decode cX6_bestMesh 2 = .ok (.invokevirtual 146, 3) := by decide +kernel
theorem dX6_bestMesh_5 : decode cX6_bestMesh 5 = .ok (.ifCond .ne 6, 3) := by decide +kernel
theorem dX6_bestMesh_8 : decode cX6_bestMesh 8 = .ok (.ldc 150, 2) := by decide +kernel
theorem dX6_bestMesh_10 : decode cX6_bestMesh 10 = .ok (.ireturn, 1) := by decide +kernel
theorem dX6_bestMesh_11 : decode cX6_bestMesh 11 = .ok (.iload_n 2, 1) := by decide +kernel
theorem dX6_bestMesh_12 : decode cX6_bestMesh 12 = .ok (.iconst 0, 1) := by decide +kernel
theorem dX6_bestMesh_13 : decode cX6_bestMesh 13 = .ok (.iconst 1, 1) := by decide +kernel
theorem dX6_bestMesh_14 : decode cX6_bestMesh 14 = .ok (.invokestatic 80, 3) := by decide +kernel
theorem dX6_bestMesh_17 : decode cX6_bestMesh 17 = .ok (.ifCond .ne 6, 3) := by decide +kernel
theorem dX6_bestMesh_20 : decode cX6_bestMesh 20 = .ok (.ldc 84, 2) := by decide +kernel
theorem dX6_bestMesh_22 : decode cX6_bestMesh 22 = .ok (.ireturn, 1) := by decide +kernel
theorem dX6_bestMesh_23 : decode cX6_bestMesh 23 = .ok (.iconst (-1), 1) := by decide +kernel
theorem dX6_bestMesh_24 : decode cX6_bestMesh 24 = .ok (.istore_n 3, 1) := by decide +kernel
theorem dX6_bestMesh_25 : decode cX6_bestMesh 25 = .ok (.iconst (-1), 1) := by decide +kernel
theorem dX6_bestMesh_26 : decode cX6_bestMesh 26 = .ok (.istore 4, 2) := by decide +kernel
theorem dX6_bestMesh_28 : decode cX6_bestMesh 28 = .ok (.iconst 0, 1) := by decide +kernel
theorem dX6_bestMesh_29 : decode cX6_bestMesh 29 = .ok (.istore 5, 2) := by decide +kernel
theorem dX6_bestMesh_31 : decode cX6_bestMesh 31 = .ok (.iload 5, 2) := by decide +kernel
theorem dX6_bestMesh_33 : decode cX6_bestMesh 33 = .ok (.bipush 9, 2) := by decide +kernel
theorem dX6_bestMesh_35 : decode cX6_bestMesh 35 = .ok (.if_icmp .gt 71, 3) := by decide +kernel
theorem dX6_bestMesh_38 : decode cX6_bestMesh 38 = .ok (.aload_n 0, 1) := by decide +kernel
theorem dX6_bestMesh_39 : decode cX6_bestMesh 39 = .ok (.getfield 33, 3) := by decide +kernel
theorem dX6_bestMesh_42 : decode cX6_bestMesh 42 = .ok (.aload_n 0, 1) := by decide +kernel
theorem dX6_bestMesh_43 : decode cX6_bestMesh 43 = .ok (.getfield 29, 3) := by decide +kernel
theorem dX6_bestMesh_46 : decode cX6_bestMesh 46 = .ok (.invokevirtual 247, 3) := by decide +kernel
theorem dX6_bestMesh_49 : decode cX6_bestMesh 49 = .ok (.aload_n 0, 1) := by decide +kernel
theorem dX6_bestMesh_50 : decode cX6_bestMesh 50 = .ok (.getfield 33, 3) := by decide +kernel
theorem dX6_bestMesh_53 : decode cX6_bestMesh 53 = .ok (.getfield 158, 3) := by decide +kernel
theorem dX6_bestMesh_56 : decode cX6_bestMesh 56 = .ok (.iload_n 1, 1) := by decide +kernel
theorem dX6_bestMesh_57 : decode cX6_bestMesh 57 = .ok (.iload 5, 2) := by decide +kernel
theorem dX6_bestMesh_59 : decode cX6_bestMesh 59 = .ok (.invokestatic 227, 3) := by decide +kernel
theorem dX6_bestMesh_62 : decode cX6_bestMesh 62 = .ok (.aload_n 0, 1) := by decide +kernel
theorem dX6_bestMesh_63 : decode cX6_bestMesh 63 = .ok (.aload_n 0, 1) := by decide +kernel
theorem dX6_bestMesh_64 : decode cX6_bestMesh 64 = .ok (.getfield 19, 3) := by decide +kernel
theorem dX6_bestMesh_67 : decode cX6_bestMesh 67 = .ok (.invokevirtual 117, 3) := by decide +kernel
theorem dX6_bestMesh_70 : decode cX6_bestMesh 70 = .ok (.invokevirtual 250, 3) := by decide +kernel
theorem dX6_bestMesh_73 : decode cX6_bestMesh 73 = .ok (.pop, 1) := by decide +kernel
theorem dX6_bestMesh_74 : decode cX6_bestMesh 74 = .ok (.aload_n 0, 1) := by decide +kernel
theorem dX6_bestMesh_75 : decode cX6_bestMesh 75 = .ok (.getfield 36, 3) := by decide +kernel
theorem dX6_bestMesh_78 : decode cX6_bestMesh 78 = .ok (.iload_n 1, 1) := by decide +kernel
theorem dX6_bestMesh_79 : decode cX6_bestMesh 79 = .ok (.invokestatic 154, 3) := by decide +kernel
theorem dX6_bestMesh_82 : decode cX6_bestMesh 82 = .ok (.iload 4, 2) := by decide +kernel
theorem dX6_bestMesh_84 : decode cX6_bestMesh 84 = .ok (.if_icmp .le 16, 3) := by decide +kernel
theorem dX6_bestMesh_87 : decode cX6_bestMesh 87 = .ok (.aload_n 0, 1) := by decide +kernel
theorem dX6_bestMesh_88 : decode cX6_bestMesh 88 = .ok (.getfield 36, 3) := by decide +kernel
theorem dX6_bestMesh_91 : decode cX6_bestMesh 91 = .ok (.iload_n 1, 1) := by decide +kernel
theorem dX6_bestMesh_92 : decode cX6_bestMesh 92 = .ok (.invokestatic 154, 3) := by decide +kernel
theorem dX6_bestMesh_95 : decode cX6_bestMesh 95 = .ok (.istore 4, 2) := by decide +kernel
theorem dX6_bestMesh_97 : decode cX6_bestMesh 97 = .ok (.iload 5, 2) := by decide +kernel
theorem dX6_bestMesh_99 : decode cX6_bestMesh 99 = .ok (.istore_n 3, 1) := by decide +kernel
theorem dX6_bestMesh_100 : decode cX6_bestMesh 100 = .ok (.iinc 5 1, 3) := by decide +kernel
theorem dX6_bestMesh_103 : decode cX6_bestMesh 103 = .ok (.goto (-72), 3) := by decide +kernel
theorem dX6_bestMesh_106 : decode cX6_bestMesh 106 = .ok (.iload_n 2, 1) := by decide +kernel
theorem dX6_bestMesh_107 : decode cX6_bestMesh 107 = .ok (.ifCond .ne 7, 3) := by decide +kernel
theorem dX6_bestMesh_110 : decode cX6_bestMesh 110 = .ok (.iload_n 3, 1) := by decide +kernel
theorem dX6_bestMesh_111 : decode cX6_bestMesh 111 = .ok (.goto 5, 3) := by decide +kernel
theorem dX6_bestMesh_114 : decode cX6_bestMesh 114 = .ok (.iload 4, 2) := by decide +kernel
theorem dX6_bestMesh_116 : decode cX6_bestMesh 116 = .ok (.ireturn, 1) := by decide +kernel
theorem dX6_bestCell_0 : decode cX6_bestCell 0 = .ok (.aload_n 0, 1) := by decide +kernel
theorem dX6_bestCell_1 : decode cX6_bestCell 1 = .ok (.iload_n 1, 1) := by decide +kernel
theorem dX6_bestCell_2 : decode cX6_bestCell 2 = .ok (.invokevirtual 146, 3) := by decide +kernel
theorem dX6_bestCell_5 : decode cX6_bestCell 5 = .ok (.ifCond .ne 6, 3) := by decide +kernel
theorem dX6_bestCell_8 : decode cX6_bestCell 8 = .ok (.ldc 150, 2) := by decide +kernel
theorem dX6_bestCell_10 : decode cX6_bestCell 10 = .ok (.ireturn, 1) := by decide +kernel
theorem dX6_bestCell_11 : decode cX6_bestCell 11 = .ok (.iload_n 2, 1) := by decide +kernel
theorem dX6_bestCell_12 : decode cX6_bestCell 12 = .ok (.iconst 0, 1) := by decide +kernel
theorem dX6_bestCell_13 : decode cX6_bestCell 13 = .ok (.iconst 1, 1) := by decide +kernel
theorem dX6_bestCell_14 : decode cX6_bestCell 14 = .ok (.invokestatic 80, 3) := by decide +kernel
theorem dX6_bestCell_17 : decode cX6_bestCell 17 = .ok (.ifCond .ne 6, 3) := by decide +kernel
theorem dX6_bestCell_20 : decode cX6_bestCell 20 = .ok (.ldc 84, 2) := by decide +kernel
theorem dX6_bestCell_22 : decode cX6_bestCell 22 = .ok (.ireturn, 1) := by decide +kernel
theorem dX6_bestCell_23 : decode cX6_bestCell 23 = .ok (.iconst (-1), 1) := by decide +kernel
theorem dX6_bestCell_24 : decode cX6_bestCell 24 = .ok (.istore_n 3, 1) := by decide +kernel
theorem dX6_bestCell_25 : decode cX6_bestCell 25 = .ok (.iconst (-1), 1) := by decide +kernel
theorem dX6_bestCell_26 : decode cX6_bestCell 26 = .ok (.istore 4, 2) := by decide +kernel
theorem dX6_bestCell_28 : decode cX6_bestCell 28 = .ok (.iconst 0, 1) := by decide +kernel
theorem dX6_bestCell_29 : decode cX6_bestCell 29 = .ok (.istore 5, 2) := by decide +kernel
theorem dX6_bestCell_31 : decode cX6_bestCell 31 = .ok (.iload 5, 2) := by decide +kernel
theorem dX6_bestCell_33 : decode cX6_bestCell 33 = .ok (.bipush 12, 2) := by decide +kernel
theorem dX6_bestCell_35 : decode cX6_bestCell 35 = .ok (.if_icmp .ge 85, 3) := by decide +kernel
theorem dX6_bestCell_38 : decode cX6_bestCell 38 = .ok (.aload_n 0, 1) := by decide +kernel
theorem dX6_bestCell_39 : decode cX6_bestCell 39 = .ok (.iload 5, 2) := by decide +kernel
theorem dX6_bestCell_41 : decode cX6_bestCell 41 = .ok (.iload_n 1, 1) := by decide +kernel
theorem dX6_bestCell_42 : decode cX6_bestCell 42 = .ok (.iload_n 1, 1) := by decide +kernel
theorem dX6_bestCell_43 : decode cX6_bestCell 43 = .ok (.invokevirtual 262, 3) := by decide +kernel
theorem dX6_bestCell_46 : decode cX6_bestCell 46 = .ok (.ifCond .ne 6, 3) := by decide +kernel
theorem dX6_bestCell_49 : decode cX6_bestCell 49 = .ok (.goto 65, 3) := by decide +kernel
theorem dX6_bestCell_52 : decode cX6_bestCell 52 = .ok (.aload_n 0, 1) := by decide +kernel
theorem dX6_bestCell_53 : decode cX6_bestCell 53 = .ok (.getfield 33, 3) := by decide +kernel
theorem dX6_bestCell_56 : decode cX6_bestCell 56 = .ok (.aload_n 0, 1) := by decide +kernel
theorem dX6_bestCell_57 : decode cX6_bestCell 57 = .ok (.getfield 29, 3) := by decide +kernel
theorem dX6_bestCell_60 : decode cX6_bestCell 60 = .ok (.invokevirtual 247, 3) := by decide +kernel
theorem dX6_bestCell_63 : decode cX6_bestCell 63 = .ok (.aload_n 0, 1) := by decide +kernel
theorem dX6_bestCell_64 : decode cX6_bestCell 64 = .ok (.getfield 33, 3) := by decide +kernel
theorem dX6_bestCell_67 : decode cX6_bestCell 67 = .ok (.getfield 151, 3) := by decide +kernel
theorem dX6_bestCell_70 : decode cX6_bestCell 70 = .ok (.iload_n 1, 1) := by decide +kernel
theorem dX6_bestCell_71 : decode cX6_bestCell 71 = .ok (.iload 5, 2) := by decide +kernel
theorem dX6_bestCell_73 : decode cX6_bestCell 73 = .ok (.invokestatic 227, 3) := by decide +kernel
theorem dX6_bestCell_76 : decode cX6_bestCell 76 = .ok (.aload_n 0, 1) := by decide +kernel
theorem dX6_bestCell_77 : decode cX6_bestCell 77 = .ok (.aload_n 0, 1) := by decide +kernel
theorem dX6_bestCell_78 : decode cX6_bestCell 78 = .ok (.getfield 19, 3) := by decide +kernel
theorem dX6_bestCell_81 : decode cX6_bestCell 81 = .ok (.invokevirtual 117, 3) := by decide +kernel
theorem dX6_bestCell_84 : decode cX6_bestCell 84 = .ok (.invokevirtual 250, 3) := by decide +kernel
theorem dX6_bestCell_87 : decode cX6_bestCell 87 = .ok (.pop, 1) := by decide +kernel
theorem dX6_bestCell_88 : decode cX6_bestCell 88 = .ok (.aload_n 0, 1) := by decide +kernel
theorem dX6_bestCell_89 : decode cX6_bestCell 89 = .ok (.getfield 36, 3) := by decide +kernel
theorem dX6_bestCell_92 : decode cX6_bestCell 92 = .ok (.iload_n 1, 1) := by decide +kernel
theorem dX6_bestCell_93 : decode cX6_bestCell 93 = .ok (.invokestatic 154, 3) := by decide +kernel
theorem dX6_bestCell_96 : decode cX6_bestCell 96 = .ok (.iload 4, 2) := by decide +kernel
theorem dX6_bestCell_98 : decode cX6_bestCell 98 = .ok (.if_icmp .le 16, 3) := by decide +kernel
theorem dX6_bestCell_101 : decode cX6_bestCell 101 = .ok (.aload_n 0, 1) := by decide +kernel
theorem dX6_bestCell_102 : decode cX6_bestCell 102 = .ok (.getfield 36, 3) := by decide +kernel
theorem dX6_bestCell_105 : decode cX6_bestCell 105 = .ok (.iload_n 1, 1) := by decide +kernel
theorem dX6_bestCell_106 : decode cX6_bestCell 106 = .ok (.invokestatic 154, 3) := by decide +kernel
theorem dX6_bestCell_109 : decode cX6_bestCell 109 = .ok (.istore 4, 2) := by decide +kernel
theorem dX6_bestCell_111 : decode cX6_bestCell 111 = .ok (.iload 5, 2) := by decide +kernel
theorem dX6_bestCell_113 : decode cX6_bestCell 113 = .ok (.istore_n 3, 1) := by decide +kernel
theorem dX6_bestCell_114 : decode cX6_bestCell 114 = .ok (.iinc 5 1, 3) := by decide +kernel
theorem dX6_bestCell_117 : decode cX6_bestCell 117 = .ok (.goto (-86), 3) := by decide +kernel
theorem dX6_bestCell_120 : decode cX6_bestCell 120 = .ok (.iload_n 2, 1) := by decide +kernel
theorem dX6_bestCell_121 : decode cX6_bestCell 121 = .ok (.ifCond .ne 7, 3) := by decide +kernel
theorem dX6_bestCell_124 : decode cX6_bestCell 124 = .ok (.iload_n 3, 1) := by decide +kernel
theorem dX6_bestCell_125 : decode cX6_bestCell 125 = .ok (.goto 5, 3) := by decide +kernel
theorem dX6_bestCell_128 : decode cX6_bestCell 128 = .ok (.iload 4, 2) := by decide +kernel
theorem dX6_bestCell_130 : decode cX6_bestCell 130 = .ok (.ireturn, 1) := by decide +kernel
theorem dX6_lampCosts_0 : decode cX6_lampCosts 0 = .ok (.iload_n 1, 1) := by decide +kernel
theorem dX6_lampCosts_1 : decode cX6_lampCosts 1 = .ok (.iconst 0, 1) := by decide +kernel
theorem dX6_lampCosts_2 : decode cX6_lampCosts 2 = .ok (.bipush 99, 2) := by decide +kernel
theorem dX6_lampCosts_4 : decode cX6_lampCosts 4 = .ok (.invokestatic 80, 3) := by decide +kernel
theorem dX6_lampCosts_7 : decode cX6_lampCosts 7 = .ok (.ifCond .ne 6, 3) := by decide +kernel
theorem dX6_lampCosts_10 : decode cX6_lampCosts 10 = .ok (.ldc 84, 2) := by decide +kernel
theorem dX6_lampCosts_12 : decode cX6_lampCosts 12 = .ok (.ireturn, 1) := by decide +kernel
theorem dX6_lampCosts_13 : decode cX6_lampCosts 13 = .ok (.aload_n 0, 1) := by decide +kernel
theorem dX6_lampCosts_14 : decode cX6_lampCosts 14 = .ok (.invokevirtual 173, 3) := by decide +kernel
theorem dX6_lampCosts_17 : decode cX6_lampCosts 17 = .ok (.ifCond .eq 6, 3) := by decide +kernel
theorem dX6_lampCosts_20 : decode cX6_lampCosts 20 = .ok (.ldc 177, 2) := by decide +kernel
theorem dX6_lampCosts_22 : decode cX6_lampCosts 22 = .ok (.ireturn, 1) := by decide +kernel
theorem dX6_lampCosts_23 : decode cX6_lampCosts 23 = .ok (.aload_n 0, 1) := by decide +kernel
theorem dX6_lampCosts_24 : decode cX6_lampCosts 24 = .ok (.getfield 33, 3) := by decide +kernel
theorem dX6_lampCosts_27 : decode cX6_lampCosts 27 = .ok (.aload_n 0, 1) := by decide +kernel
theorem dX6_lampCosts_28 : decode cX6_lampCosts 28 = .ok (.getfield 29, 3) := by decide +kernel
theorem dX6_lampCosts_31 : decode cX6_lampCosts 31 = .ok (.invokevirtual 247, 3) := by decide +kernel
theorem dX6_lampCosts_34 : decode cX6_lampCosts 34 = .ok (.aload_n 0, 1) := by decide +kernel
theorem dX6_lampCosts_35 : decode cX6_lampCosts 35 = .ok (.getfield 33, 3) := by decide +kernel
theorem dX6_lampCosts_38 : decode cX6_lampCosts 38 = .ok (.iconst 0, 1) := by decide +kernel
theorem dX6_lampCosts_39 : decode cX6_lampCosts 39 = .ok (.putfield 130, 3) := by decide +kernel
theorem dX6_lampCosts_42 : decode cX6_lampCosts 42 = .ok (.aload_n 0, 1) := by decide +kernel
theorem dX6_lampCosts_43 : decode cX6_lampCosts 43 = .ok (.iload_n 1, 1) := by decide +kernel
theorem dX6_lampCosts_44 : decode cX6_lampCosts 44 = .ok (.invokevirtual 250, 3) := by decide +kernel
theorem dX6_lampCosts_47 : decode cX6_lampCosts 47 = .ok (.istore_n 2, 1) := by decide +kernel
theorem dX6_lampCosts_48 : decode cX6_lampCosts 48 = .ok (.aload_n 0, 1) := by decide +kernel
theorem dX6_lampCosts_49 : decode cX6_lampCosts 49 = .ok (.getfield 33, 3) := by decide +kernel
theorem dX6_lampCosts_52 : decode cX6_lampCosts 52 = .ok (.aload_n 0, 1) := by decide +kernel
theorem dX6_lampCosts_53 : decode cX6_lampCosts 53 = .ok (.getfield 29, 3) := by decide +kernel
theorem dX6_lampCosts_56 : decode cX6_lampCosts 56 = .ok (.invokevirtual 247, 3) := by decide +kernel
theorem dX6_lampCosts_59 : decode cX6_lampCosts 59 = .ok (.aload_n 0, 1) := by decide +kernel
theorem dX6_lampCosts_60 : decode cX6_lampCosts 60 = .ok (.getfield 33, 3) := by decide +kernel
theorem dX6_lampCosts_63 : decode cX6_lampCosts 63 = .ok (.iconst 1, 1) := by decide +kernel
theorem dX6_lampCosts_64 : decode cX6_lampCosts 64 = .ok (.putfield 130, 3) := by decide +kernel
theorem dX6_lampCosts_67 : decode cX6_lampCosts 67 = .ok (.iload_n 2, 1) := by decide +kernel
theorem dX6_lampCosts_68 : decode cX6_lampCosts 68 = .ok (.aload_n 0, 1) := by decide +kernel
theorem dX6_lampCosts_69 : decode cX6_lampCosts 69 = .ok (.iload_n 1, 1) := by decide +kernel
theorem dX6_lampCosts_70 : decode cX6_lampCosts 70 = .ok (.invokevirtual 250, 3) := by decide +kernel
theorem dX6_lampCosts_73 : decode cX6_lampCosts 73 = .ok (.isub, 1) := by decide +kernel
theorem dX6_lampCosts_74 : decode cX6_lampCosts 74 = .ok (.ireturn, 1) := by decide +kernel
theorem dX6_thirsty_0 : decode cX6_thirsty 0 = .ok (.iload_n 1, 1) := by decide +kernel
theorem dX6_thirsty_1 : decode cX6_thirsty 1 = .ok (.invokestatic 184, 3) := by decide +kernel
theorem dX6_thirsty_4 : decode cX6_thirsty 4 = .ok (.ifCond .ne 6, 3) := by decide +kernel
theorem dX6_thirsty_7 : decode cX6_thirsty 7 = .ok (.ldc 150, 2) := by decide +kernel
theorem dX6_thirsty_9 : decode cX6_thirsty 9 = .ok (.ireturn, 1) := by decide +kernel
theorem dX6_thirsty_10 : decode cX6_thirsty 10 = .ok (.aload_n 0, 1) := by decide +kernel
theorem dX6_thirsty_11 : decode cX6_thirsty 11 = .ok (.invokevirtual 173, 3) := by decide +kernel
theorem dX6_thirsty_14 : decode cX6_thirsty 14 = .ok (.ifCond .eq 6, 3) := by decide +kernel
theorem dX6_thirsty_17 : decode cX6_thirsty 17 = .ok (.ldc 177, 2) := by decide +kernel
theorem dX6_thirsty_19 : decode cX6_thirsty 19 = .ok (.ireturn, 1) := by decide +kernel
theorem dX6_thirsty_20 : decode cX6_thirsty 20 = .ok (.aload_n 0, 1) := by decide +kernel
theorem dX6_thirsty_21 : decode cX6_thirsty 21 = .ok (.getfield 33, 3) := by decide +kernel
theorem dX6_thirsty_24 : decode cX6_thirsty 24 = .ok (.aload_n 0, 1) := by decide +kernel
theorem dX6_thirsty_25 : decode cX6_thirsty 25 = .ok (.getfield 29, 3) := by decide +kernel
theorem dX6_thirsty_28 : decode cX6_thirsty 28 = .ok (.invokevirtual 247, 3) := by decide +kernel
theorem dX6_thirsty_31 : decode cX6_thirsty 31 = .ok (.aload_n 0, 1) := by decide +kernel
theorem dX6_thirsty_32 : decode cX6_thirsty 32 = .ok (.getfield 29, 3) := by decide +kernel
theorem dX6_thirsty_35 : decode cX6_thirsty 35 = .ok (.getfield 196, 3) := by decide +kernel
theorem dX6_thirsty_38 : decode cX6_thirsty 38 = .ok (.iload_n 1, 1) := by decide +kernel
theorem dX6_thirsty_39 : decode cX6_thirsty 39 = .ok (.invokestatic 154, 3) := by decide +kernel
theorem dX6_thirsty_42 : decode cX6_thirsty 42 = .ok (.istore_n 2, 1) := by decide +kernel
theorem dX6_thirsty_43 : decode cX6_thirsty 43 = .ok (.iconst 0, 1) := by decide +kernel
theorem dX6_thirsty_44 : decode cX6_thirsty 44 = .ok (.istore_n 3, 1) := by decide +kernel
theorem dX6_thirsty_45 : decode cX6_thirsty 45 = .ok (.iload_n 3, 1) := by decide +kernel
theorem dX6_thirsty_46 : decode cX6_thirsty 46 = .ok (.sipush 720, 3) := by decide +kernel
theorem dX6_thirsty_49 : decode cX6_thirsty 49 = .ok (.if_icmp .ge 105, 3) := by decide +kernel
theorem dX6_thirsty_52 : decode cX6_thirsty 52 = .ok (.aload_n 0, 1) := by decide +kernel
theorem dX6_thirsty_53 : decode cX6_thirsty 53 = .ok (.getfield 33, 3) := by decide +kernel
theorem dX6_thirsty_56 : decode cX6_thirsty 56 = .ok (.getfield 124, 3) := by decide +kernel
theorem dX6_thirsty_59 : decode cX6_thirsty 59 = .ok (.aload_n 0, 1) := by decide +kernel
theorem dX6_thirsty_60 : decode cX6_thirsty 60 = .ok (.getfield 29, 3) := by decide +kernel
theorem dX6_thirsty_63 : decode cX6_thirsty 63 = .ok (.getfield 124, 3) := by decide +kernel
theorem dX6_thirsty_66 : decode cX6_thirsty 66 = .ok (.isub, 1) := by decide +kernel
theorem dX6_thirsty_67 : decode cX6_thirsty 67 = .ok (.bipush 60, 2) := by decide +kernel
theorem dX6_thirsty_69 : decode cX6_thirsty 69 = .ok (.if_icmp .ge 85, 3) := by decide +kernel
theorem dX6_thirsty_72 : decode cX6_thirsty 72 = .ok (.aload_n 0, 1) := by decide +kernel
theorem dX6_thirsty_73 : decode cX6_thirsty 73 = .ok (.getfield 33, 3) := by decide +kernel
theorem dX6_thirsty_76 : decode cX6_thirsty 76 = .ok (.aload_n 0, 1) := by decide +kernel
theorem dX6_thirsty_77 : decode cX6_thirsty 77 = .ok (.getfield 19, 3) := by decide +kernel
theorem dX6_thirsty_80 : decode cX6_thirsty 80 = .ok (.aload_n 0, 1) := by decide +kernel
theorem dX6_thirsty_81 : decode cX6_thirsty 81 = .ok (.getfield 43, 3) := by decide +kernel
theorem dX6_thirsty_84 : decode cX6_thirsty 84 = .ok (.aload_n 0, 1) := by decide +kernel
theorem dX6_thirsty_85 : decode cX6_thirsty 85 = .ok (.getfield 19, 3) := by decide +kernel
theorem dX6_thirsty_88 : decode cX6_thirsty 88 = .ok (.aload_n 0, 1) := by decide +kernel
theorem dX6_thirsty_89 : decode cX6_thirsty 89 = .ok (.getfield 33, 3) := by decide +kernel
theorem dX6_thirsty_92 : decode cX6_thirsty 92 = .ok (.getfield 127, 3) := by decide +kernel
theorem dX6_thirsty_95 : decode cX6_thirsty 95 = .ok (.invokevirtual 178, 3) := by decide +kernel
theorem dX6_thirsty_98 : decode cX6_thirsty 98 = .ok (.aload_n 0, 1) := by decide +kernel
theorem dX6_thirsty_99 : decode cX6_thirsty 99 = .ok (.getfield 19, 3) := by decide +kernel
theorem dX6_thirsty_102 : decode cX6_thirsty 102 = .ok (.aload_n 0, 1) := by decide +kernel
theorem dX6_thirsty_103 : decode cX6_thirsty 103 = .ok (.getfield 33, 3) := by decide +kernel
theorem dX6_thirsty_106 : decode cX6_thirsty 106 = .ok (.getfield 127, 3) := by decide +kernel
theorem dX6_thirsty_109 : decode cX6_thirsty 109 = .ok (.invokevirtual 181, 3) := by decide +kernel
theorem dX6_thirsty_112 : decode cX6_thirsty 112 = .ok (.iconst 1, 1) := by decide +kernel
theorem dX6_thirsty_113 : decode cX6_thirsty 113 = .ok (.invokevirtual 215, 3) := by decide +kernel
theorem dX6_thirsty_116 : decode cX6_thirsty 116 = .ok (.pop, 1) := by decide +kernel
theorem dX6_thirsty_117 : decode cX6_thirsty 117 = .ok (.aload_n 0, 1) := by decide +kernel
theorem dX6_thirsty_118 : decode cX6_thirsty 118 = .ok (.getfield 33, 3) := by decide +kernel
theorem dX6_thirsty_121 : decode cX6_thirsty 121 = .ok (.getfield 196, 3) := by decide +kernel
theorem dX6_thirsty_124 : decode cX6_thirsty 124 = .ok (.iload_n 1, 1) := by decide +kernel
theorem dX6_thirsty_125 : decode cX6_thirsty 125 = .ok (.invokestatic 154, 3) := by decide +kernel
theorem dX6_thirsty_128 : decode cX6_thirsty 128 = .ok (.iload_n 2, 1) := by decide +kernel
theorem dX6_thirsty_129 : decode cX6_thirsty 129 = .ok (.if_icmp .le 19, 3) := by decide +kernel
theorem dX6_thirsty_132 : decode cX6_thirsty 132 = .ok (.aload_n 0, 1) := by decide +kernel
theorem dX6_thirsty_133 : decode cX6_thirsty 133 = .ok (.getfield 33, 3) := by decide +kernel
theorem dX6_thirsty_136 : decode cX6_thirsty 136 = .ok (.getfield 124, 3) := by decide +kernel
theorem dX6_thirsty_139 : decode cX6_thirsty 139 = .ok (.aload_n 0, 1) := by decide +kernel
theorem dX6_thirsty_140 : decode cX6_thirsty 140 = .ok (.getfield 29, 3) := by decide +kernel
theorem dX6_thirsty_143 : decode cX6_thirsty 143 = .ok (.getfield 124, 3) := by decide +kernel
theorem dX6_thirsty_146 : decode cX6_thirsty 146 = .ok (.isub, 1) := by decide +kernel
theorem dX6_thirsty_147 : decode cX6_thirsty 147 = .ok (.ireturn, 1) := by decide +kernel
theorem dX6_thirsty_148 : decode cX6_thirsty 148 = .ok (.iinc 3 1, 3) := by decide +kernel
theorem dX6_thirsty_151 : decode cX6_thirsty 151 = .ok (.goto (-106), 3) := by decide +kernel
theorem dX6_thirsty_154 : decode cX6_thirsty 154 = .ok (.iconst (-1), 1) := by decide +kernel
theorem dX6_thirsty_155 : decode cX6_thirsty 155 = .ok (.ireturn, 1) := by decide +kernel
theorem dX6_lasts_0 : decode cX6_lasts 0 = .ok (.iload_n 1, 1) := by decide +kernel
theorem dX6_lasts_1 : decode cX6_lasts 1 = .ok (.invokestatic 184, 3) := by decide +kernel
theorem dX6_lasts_4 : decode cX6_lasts 4 = .ok (.ifCond .ne 6, 3) := by decide +kernel
theorem dX6_lasts_7 : decode cX6_lasts 7 = .ok (.ldc 150, 2) := by decide +kernel
theorem dX6_lasts_9 : decode cX6_lasts 9 = .ok (.ireturn, 1) := by decide +kernel
theorem dX6_lasts_10 : decode cX6_lasts 10 = .ok (.aload_n 0, 1) := by decide +kernel
theorem dX6_lasts_11 : decode cX6_lasts 11 = .ok (.getfield 19, 3) := by decide +kernel
theorem dX6_lasts_14 : decode cX6_lasts 14 = .ok (.getfield 190, 3) := by decide +kernel
theorem dX6_lasts_17 : decode cX6_lasts 17 = .ok (.iload_n 1, 1) := by decide +kernel
theorem dX6_lasts_18 : decode cX6_lasts 18 = .ok (.invokestatic 154, 3) := by decide +kernel
theorem dX6_lasts_21 : decode cX6_lasts 21 = .ok (.istore_n 2, 1) := by decide +kernel
theorem dX6_lasts_22 : decode cX6_lasts 22 = .ok (.iload_n 2, 1) := by decide +kernel
theorem dX6_lasts_23 : decode cX6_lasts 23 = .ok (.ifCond .gt 7, 3) := by decide +kernel
theorem dX6_lasts_26 : decode cX6_lasts 26 = .ok (.sipush 999, 3) := by decide +kernel
theorem dX6_lasts_29 : decode cX6_lasts 29 = .ok (.ireturn, 1) := by decide +kernel
theorem dX6_lasts_30 : decode cX6_lasts 30 = .ok (.aload_n 0, 1) := by decide +kernel
theorem dX6_lasts_31 : decode cX6_lasts 31 = .ok (.getfield 29, 3) := by decide +kernel
theorem dX6_lasts_34 : decode cX6_lasts 34 = .ok (.getfield 193, 3) := by decide +kernel
theorem dX6_lasts_37 : decode cX6_lasts 37 = .ok (.iload_n 1, 1) := by decide +kernel
theorem dX6_lasts_38 : decode cX6_lasts 38 = .ok (.invokestatic 154, 3) := by decide +kernel
theorem dX6_lasts_41 : decode cX6_lasts 41 = .ok (.iload_n 2, 1) := by decide +kernel
theorem dX6_lasts_42 : decode cX6_lasts 42 = .ok (.idiv, 1) := by decide +kernel
theorem dX6_lasts_43 : decode cX6_lasts 43 = .ok (.sipush 999, 3) := by decide +kernel
theorem dX6_lasts_46 : decode cX6_lasts 46 = .ok (.invokestatic 269, 3) := by decide +kernel
theorem dX6_lasts_49 : decode cX6_lasts 49 = .ok (.ireturn, 1) := by decide +kernel
theorem dX6_share_0 : decode cX6_share 0 = .ok (.iload_n 2, 1) := by decide +kernel
theorem dX6_share_1 : decode cX6_share 1 = .ok (.invokestatic 184, 3) := by decide +kernel
theorem dX6_share_4 : decode cX6_share 4 = .ok (.ifCond .ne 6, 3) := by decide +kernel
theorem dX6_share_7 : decode cX6_share 7 = .ok (.ldc 150, 2) := by decide +kernel
theorem dX6_share_9 : decode cX6_share 9 = .ok (.ireturn, 1) := by decide +kernel
theorem dX6_share_10 : decode cX6_share 10 = .ok (.iload_n 1, 1) := by decide +kernel
theorem dX6_share_11 : decode cX6_share 11 = .ok (.iconst 0, 1) := by decide +kernel
theorem dX6_share_12 : decode cX6_share 12 = .ok (.sipush 999, 3) := by decide +kernel
theorem dX6_share_15 : decode cX6_share 15 = .ok (.invokestatic 80, 3) := by decide +kernel
theorem dX6_share_18 : decode cX6_share 18 = .ok (.ifCond .ne 6, 3) := by decide +kernel
theorem dX6_share_21 : decode cX6_share 21 = .ok (.ldc 84, 2) := by decide +kernel
theorem dX6_share_23 : decode cX6_share 23 = .ok (.ireturn, 1) := by decide +kernel
theorem dX6_share_24 : decode cX6_share 24 = .ok (.aload_n 0, 1) := by decide +kernel
theorem dX6_share_25 : decode cX6_share 25 = .ok (.getfield 19, 3) := by decide +kernel
theorem dX6_share_28 : decode cX6_share 28 = .ok (.getfield 105, 3) := by decide +kernel
theorem dX6_share_31 : decode cX6_share 31 = .ok (.istore_n 3, 1) := by decide +kernel
theorem dX6_share_32 : decode cX6_share 32 = .ok (.iload_n 3, 1) := by decide +kernel
theorem dX6_share_33 : decode cX6_share 33 = .ok (.ifCond .gt 5, 3) := by decide +kernel
theorem dX6_share_36 : decode cX6_share 36 = .ok (.iconst 0, 1) := by decide +kernel
theorem dX6_share_37 : decode cX6_share 37 = .ok (.ireturn, 1) := by decide +kernel
theorem dX6_share_38 : decode cX6_share 38 = .ok (.iload_n 1, 1) := by decide +kernel
theorem dX6_share_39 : decode cX6_share 39 = .ok (.aload_n 0, 1) := by decide +kernel
theorem dX6_share_40 : decode cX6_share 40 = .ok (.getfield 19, 3) := by decide +kernel
theorem dX6_share_43 : decode cX6_share 43 = .ok (.iconst 0, 1) := by decide +kernel
theorem dX6_share_44 : decode cX6_share 44 = .ok (.invokevirtual 199, 3) := by decide +kernel
theorem dX6_share_47 : decode cX6_share 47 = .ok (.invokestatic 278, 3) := by decide +kernel
theorem dX6_share_50 : decode cX6_share 50 = .ok (.imul, 1) := by decide +kernel
theorem dX6_share_51 : decode cX6_share 51 = .ok (.istore 4, 2) := by decide +kernel
theorem dX6_share_53 : decode cX6_share 53 = .ok (.iload_n 1, 1) := by decide +kernel
theorem dX6_share_54 : decode cX6_share 54 = .ok (.aload_n 0, 1) := by decide +kernel
theorem dX6_share_55 : decode cX6_share 55 = .ok (.getfield 19, 3) := by decide +kernel
theorem dX6_share_58 : decode cX6_share 58 = .ok (.iconst 1, 1) := by decide +kernel
theorem dX6_share_59 : decode cX6_share 59 = .ok (.invokevirtual 199, 3) := by decide +kernel
theorem dX6_share_62 : decode cX6_share 62 = .ok (.invokestatic 278, 3) := by decide +kernel
theorem dX6_share_65 : decode cX6_share 65 = .ok (.imul, 1) := by decide +kernel
theorem dX6_share_66 : decode cX6_share 66 = .ok (.istore 5, 2) := by decide +kernel
theorem dX6_share_68 : decode cX6_share 68 = .ok (.iload_n 1, 1) := by decide +kernel
theorem dX6_share_69 : decode cX6_share 69 = .ok (.iload 4, 2) := by decide +kernel
theorem dX6_share_71 : decode cX6_share 71 = .ok (.iload_n 3, 1) := by decide +kernel
theorem dX6_share_72 : decode cX6_share 72 = .ok (.idiv, 1) := by decide +kernel
theorem dX6_share_73 : decode cX6_share 73 = .ok (.isub, 1) := by decide +kernel
theorem dX6_share_74 : decode cX6_share 74 = .ok (.iload 5, 2) := by decide +kernel
theorem dX6_share_76 : decode cX6_share 76 = .ok (.iload_n 3, 1) := by decide +kernel
theorem dX6_share_77 : decode cX6_share 77 = .ok (.idiv, 1) := by decide +kernel
theorem dX6_share_78 : decode cX6_share 78 = .ok (.isub, 1) := by decide +kernel
theorem dX6_share_79 : decode cX6_share 79 = .ok (.istore 6, 2) := by decide +kernel
theorem dX6_share_81 : decode cX6_share 81 = .ok (.iload 4, 2) := by decide +kernel
theorem dX6_share_83 : decode cX6_share 83 = .ok (.iload_n 3, 1) := by decide +kernel
theorem dX6_share_84 : decode cX6_share 84 = .ok (.irem, 1) := by decide +kernel
theorem dX6_share_85 : decode cX6_share 85 = .ok (.iload 5, 2) := by decide +kernel
theorem dX6_share_87 : decode cX6_share 87 = .ok (.iload_n 3, 1) := by decide +kernel
theorem dX6_share_88 : decode cX6_share 88 = .ok (.irem, 1) := by decide +kernel
theorem dX6_share_89 : decode cX6_share 89 = .ok (.if_icmp .lt 7, 3) := by decide +kernel
theorem dX6_share_92 : decode cX6_share 92 = .ok (.iconst 0, 1) := by decide +kernel
theorem dX6_share_93 : decode cX6_share 93 = .ok (.goto 4, 3) := by decide +kernel
theorem dX6_share_96 : decode cX6_share 96 = .ok (.iconst 1, 1) := by decide +kernel
theorem dX6_share_97 : decode cX6_share 97 = .ok (.istore 7, 2) := by decide +kernel
theorem dX6_share_99 : decode cX6_share 99 = .ok (.iload_n 2, 1) := by decide +kernel
theorem dX6_share_100 : decode cX6_share 100 = .ok (.ifCond .ne 8, 3) := by decide +kernel
theorem dX6_share_103 : decode cX6_share 103 = .ok (.iload 4, 2) := by decide +kernel
theorem dX6_share_105 : decode cX6_share 105 = .ok (.goto 5, 3) := by decide +kernel
theorem dX6_share_108 : decode cX6_share 108 = .ok (.iload 5, 2) := by decide +kernel
theorem dX6_share_110 : decode cX6_share 110 = .ok (.iload_n 3, 1) := by decide +kernel
theorem dX6_share_111 : decode cX6_share 111 = .ok (.idiv, 1) := by decide +kernel
theorem dX6_share_112 : decode cX6_share 112 = .ok (.iload_n 2, 1) := by decide +kernel
theorem dX6_share_113 : decode cX6_share 113 = .ok (.iload 7, 2) := by decide +kernel
theorem dX6_share_115 : decode cX6_share 115 = .ok (.if_icmp .ne 8, 3) := by decide +kernel
theorem dX6_share_118 : decode cX6_share 118 = .ok (.iload 6, 2) := by decide +kernel
theorem dX6_share_120 : decode cX6_share 120 = .ok (.goto 4, 3) := by decide +kernel
theorem dX6_share_123 : decode cX6_share 123 = .ok (.iconst 0, 1) := by decide +kernel
theorem dX6_share_124 : decode cX6_share 124 = .ok (.iadd, 1) := by decide +kernel
theorem dX6_share_125 : decode cX6_share 125 = .ok (.ireturn, 1) := by decide +kernel
theorem dX6_led_0 : decode cX6_led 0 = .ok (.iload_n 1, 1) := by decide +kernel
theorem dX6_led_1 : decode cX6_led 1 = .ok (.iconst 0, 1) := by decide +kernel
theorem dX6_led_2 : decode cX6_led 2 = .ok (.bipush 99, 2) := by decide +kernel
theorem dX6_led_4 : decode cX6_led 4 = .ok (.invokestatic 80, 3) := by decide +kernel
theorem dX6_led_7 : decode cX6_led 7 = .ok (.ifCond .eq 23, 3) := by decide +kernel
theorem dX6_led_10 : decode cX6_led 10 = .ok (.iload_n 2, 1) := by decide +kernel
theorem dX6_led_11 : decode cX6_led 11 = .ok (.iconst 0, 1) := by decide +kernel
theorem dX6_led_12 : decode cX6_led 12 = .ok (.iconst 1, 1) := by decide +kernel
theorem dX6_led_13 : decode cX6_led 13 = .ok (.invokestatic 80, 3) := by decide +kernel
theorem dX6_led_16 : decode cX6_led 16 = .ok (.ifCond .eq 14, 3) := by decide +kernel
theorem dX6_led_19 : decode cX6_led 19 = .ok (.iload_n 3, 1) := by decide +kernel
theorem dX6_led_20 : decode cX6_led 20 = .ok (.iconst 0, 1) := by decide +kernel
theorem dX6_led_21 : decode cX6_led 21 = .ok (.iload_n 1, 1) := by decide +kernel
theorem dX6_led_22 : decode cX6_led 22 = .ok (.iconst 1, 1) := by decide +kernel
theorem dX6_led_23 : decode cX6_led 23 = .ok (.isub, 1) := by decide +kernel
theorem dX6_led_24 : decode cX6_led 24 = .ok (.invokestatic 80, 3) := by decide +kernel
theorem dX6_led_27 : decode cX6_led 27 = .ok (.ifCond .ne 6, 3) := by decide +kernel
theorem dX6_led_30 : decode cX6_led 30 = .ok (.ldc 84, 2) := by decide +kernel
theorem dX6_led_32 : decode cX6_led 32 = .ok (.ireturn, 1) := by decide +kernel
theorem dX6_led_33 : decode cX6_led 33 = .ok (.aload_n 0, 1) := by decide +kernel
theorem dX6_led_34 : decode cX6_led 34 = .ok (.invokevirtual 173, 3) := by decide +kernel
theorem dX6_led_37 : decode cX6_led 37 = .ok (.ifCond .eq 6, 3) := by decide +kernel
theorem dX6_led_40 : decode cX6_led 40 = .ok (.ldc 177, 2) := by decide +kernel
theorem dX6_led_42 : decode cX6_led 42 = .ok (.ireturn, 1) := by decide +kernel
theorem dX6_led_43 : decode cX6_led 43 = .ok (.aload_n 0, 1) := by decide +kernel
theorem dX6_led_44 : decode cX6_led 44 = .ok (.getfield 43, 3) := by decide +kernel
theorem dX6_led_47 : decode cX6_led 47 = .ok (.aload_n 0, 1) := by decide +kernel
theorem dX6_led_48 : decode cX6_led 48 = .ok (.getfield 29, 3) := by decide +kernel
theorem dX6_led_51 : decode cX6_led 51 = .ok (.aload_n 0, 1) := by decide +kernel
theorem dX6_led_52 : decode cX6_led 52 = .ok (.getfield 19, 3) := by decide +kernel
theorem dX6_led_55 : decode cX6_led 55 = .ok (.getfield 111, 3) := by decide +kernel
theorem dX6_led_58 : decode cX6_led 58 = .ok (.aload_n 0, 1) := by decide +kernel
theorem dX6_led_59 : decode cX6_led 59 = .ok (.getfield 29, 3) := by decide +kernel
theorem dX6_led_62 : decode cX6_led 62 = .ok (.aload_n 0, 1) := by decide +kernel
theorem dX6_led_63 : decode cX6_led 63 = .ok (.getfield 19, 3) := by decide +kernel
theorem dX6_led_66 : decode cX6_led 66 = .ok (.invokevirtual 134, 3) := by decide +kernel
theorem dX6_led_69 : decode cX6_led 69 = .ok (.iload_n 2, 1) := by decide +kernel
theorem dX6_led_70 : decode cX6_led 70 = .ok (.iload_n 1, 1) := by decide +kernel
theorem dX6_led_71 : decode cX6_led 71 = .ok (.invokevirtual 283, 3) := by decide +kernel
theorem dX6_led_74 : decode cX6_led 74 = .ok (.aload_n 0, 1) := by decide +kernel
theorem dX6_led_75 : decode cX6_led 75 = .ok (.getfield 43, 3) := by decide +kernel
theorem dX6_led_78 : decode cX6_led 78 = .ok (.iload_n 3, 1) := by decide +kernel
theorem dX6_led_79 : decode cX6_led 79 = .ok (.invokevirtual 287, 3) := by decide +kernel
theorem dX6_led_82 : decode cX6_led 82 = .ok (.ireturn, 1) := by decide +kernel
theorem dX6_yards_0 : decode cX6_yards 0 = .ok (.aload_n 0, 1) := by decide +kernel
theorem dX6_yards_1 : decode cX6_yards 1 = .ok (.iload_n 1, 1) := by decide +kernel
theorem dX6_yards_2 : decode cX6_yards 2 = .ok (.invokevirtual 202, 3) := by decide +kernel
theorem dX6_yards_5 : decode cX6_yards 5 = .ok (.ifCond .ne 6, 3) := by decide +kernel
theorem dX6_yards_8 : decode cX6_yards 8 = .ok (.ldc 150, 2) := by decide +kernel
theorem dX6_yards_10 : decode cX6_yards 10 = .ok (.ireturn, 1) := by decide +kernel
theorem dX6_yards_11 : decode cX6_yards 11 = .ok (.iload_n 2, 1) := by decide +kernel
theorem dX6_yards_12 : decode cX6_yards 12 = .ok (.iconst 0, 1) := by decide +kernel
theorem dX6_yards_13 : decode cX6_yards 13 = .ok (.iconst 1, 1) := by decide +kernel
theorem dX6_yards_14 : decode cX6_yards 14 = .ok (.invokestatic 80, 3) := by decide +kernel
theorem dX6_yards_17 : decode cX6_yards 17 = .ok (.ifCond .ne 6, 3) := by decide +kernel
theorem dX6_yards_20 : decode cX6_yards 20 = .ok (.ldc 84, 2) := by decide +kernel
theorem dX6_yards_22 : decode cX6_yards 22 = .ok (.ireturn, 1) := by decide +kernel
theorem dX6_yards_23 : decode cX6_yards 23 = .ok (.aload_n 0, 1) := by decide +kernel
theorem dX6_yards_24 : decode cX6_yards 24 = .ok (.getfield 19, 3) := by decide +kernel
theorem dX6_yards_27 : decode cX6_yards 27 = .ok (.getfield 205, 3) := by decide +kernel
theorem dX6_yards_30 : decode cX6_yards 30 = .ok (.iload_n 1, 1) := by decide +kernel
theorem dX6_yards_31 : decode cX6_yards 31 = .ok (.invokestatic 154, 3) := by decide +kernel
theorem dX6_yards_34 : decode cX6_yards 34 = .ok (.istore_n 3, 1) := by decide +kernel
theorem dX6_yards_35 : decode cX6_yards 35 = .ok (.iconst (-1), 1) := by decide +kernel
theorem dX6_yards_36 : decode cX6_yards 36 = .ok (.istore 4, 2) := by decide +kernel
theorem dX6_yards_38 : decode cX6_yards 38 = .ok (.iconst (-1), 1) := by decide +kernel
theorem dX6_yards_39 : decode cX6_yards 39 = .ok (.istore 5, 2) := by decide +kernel
theorem dX6_yards_41 : decode cX6_yards 41 = .ok (.iconst 0, 1) := by decide +kernel
theorem dX6_yards_42 : decode cX6_yards 42 = .ok (.istore 6, 2) := by decide +kernel
theorem dX6_yards_44 : decode cX6_yards 44 = .ok (.iload 6, 2) := by decide +kernel
theorem dX6_yards_46 : decode cX6_yards 46 = .ok (.aload_n 0, 1) := by decide +kernel
theorem dX6_yards_47 : decode cX6_yards 47 = .ok (.getfield 19, 3) := by decide +kernel
theorem dX6_yards_50 : decode cX6_yards 50 = .ok (.getfield 111, 3) := by decide +kernel
theorem dX6_yards_53 : decode cX6_yards 53 = .ok (.if_icmp .ge 78, 3) := by decide +kernel
theorem dX6_yards_56 : decode cX6_yards 56 = .ok (.iload 6, 2) := by decide +kernel
theorem dX6_yards_58 : decode cX6_yards 58 = .ok (.bipush 12, 2) := by decide +kernel
theorem dX6_yards_60 : decode cX6_yards 60 = .ok (.if_icmp .ge 71, 3) := by decide +kernel
theorem dX6_yards_63 : decode cX6_yards 63 = .ok (.aload_n 0, 1) := by decide +kernel
theorem dX6_yards_64 : decode cX6_yards 64 = .ok (.getfield 29, 3) := by decide +kernel
theorem dX6_yards_67 : decode cX6_yards 67 = .ok (.iload 6, 2) := by decide +kernel
theorem dX6_yards_69 : decode cX6_yards 69 = .ok (.invokevirtual 234, 3) := by decide +kernel
theorem dX6_yards_72 : decode cX6_yards 72 = .ok (.istore 7, 2) := by decide +kernel
theorem dX6_yards_74 : decode cX6_yards 74 = .ok (.iload 6, 2) := by decide +kernel
theorem dX6_yards_76 : decode cX6_yards 76 = .ok (.iload_n 3, 1) := by decide +kernel
theorem dX6_yards_77 : decode cX6_yards 77 = .ok (.isub, 1) := by decide +kernel
theorem dX6_yards_78 : decode cX6_yards 78 = .ok (.invokestatic 290, 3) := by decide +kernel
theorem dX6_yards_81 : decode cX6_yards 81 = .ok (.istore 8, 2) := by decide +kernel
theorem dX6_yards_83 : decode cX6_yards 83 = .ok (.iload 7, 2) := by decide +kernel
theorem dX6_yards_85 : decode cX6_yards 85 = .ok (.iconst (-1), 1) := by decide +kernel
theorem dX6_yards_86 : decode cX6_yards 86 = .ok (.if_icmp .eq 39, 3) := by decide +kernel
theorem dX6_yards_89 : decode cX6_yards 89 = .ok (.aload_n 0, 1) := by decide +kernel
theorem dX6_yards_90 : decode cX6_yards 90 = .ok (.getfield 29, 3) := by decide +kernel
theorem dX6_yards_93 : decode cX6_yards 93 = .ok (.getfield 167, 3) := by decide +kernel
theorem dX6_yards_96 : decode cX6_yards 96 = .ok (.iload 7, 2) := by decide +kernel
theorem dX6_yards_98 : decode cX6_yards 98 = .ok (.invokestatic 154, 3) := by decide +kernel
theorem dX6_yards_101 : decode cX6_yards 101 = .ok (.ifCond .le 24, 3) := by decide +kernel
theorem dX6_yards_104 : decode cX6_yards 104 = .ok (.iload 4, 2) := by decide +kernel
theorem dX6_yards_106 : decode cX6_yards 106 = .ok (.iconst (-1), 1) := by decide +kernel
theorem dX6_yards_107 : decode cX6_yards 107 = .ok (.if_icmp .eq 10, 3) := by decide +kernel
theorem dX6_yards_110 : decode cX6_yards 110 = .ok (.iload 8, 2) := by decide +kernel
theorem dX6_yards_112 : decode cX6_yards 112 = .ok (.iload 5, 2) := by decide +kernel
theorem dX6_yards_114 : decode cX6_yards 114 = .ok (.if_icmp .ge 11, 3) := by decide +kernel
theorem dX6_yards_117 : decode cX6_yards 117 = .ok (.iload 7, 2) := by decide +kernel
theorem dX6_yards_119 : decode cX6_yards 119 = .ok (.istore 4, 2) := by decide +kernel
theorem dX6_yards_121 : decode cX6_yards 121 = .ok (.iload 8, 2) := by decide +kernel
theorem dX6_yards_123 : decode cX6_yards 123 = .ok (.istore 5, 2) := by decide +kernel
theorem dX6_yards_125 : decode cX6_yards 125 = .ok (.iinc 6 1, 3) := by decide +kernel
theorem dX6_yards_128 : decode cX6_yards 128 = .ok (.goto (-84), 3) := by decide +kernel
theorem dX6_yards_131 : decode cX6_yards 131 = .ok (.iload_n 2, 1) := by decide +kernel
theorem dX6_yards_132 : decode cX6_yards 132 = .ok (.ifCond .ne 8, 3) := by decide +kernel
theorem dX6_yards_135 : decode cX6_yards 135 = .ok (.iload 5, 2) := by decide +kernel
theorem dX6_yards_137 : decode cX6_yards 137 = .ok (.goto 5, 3) := by decide +kernel
theorem dX6_yards_140 : decode cX6_yards 140 = .ok (.iload 4, 2) := by decide +kernel
theorem dX6_yards_142 : decode cX6_yards 142 = .ok (.ireturn, 1) := by decide +kernel
theorem dX6_got_0 : decode cX6_got 0 = .ok (.aload_n 0, 1) := by decide +kernel
theorem dX6_got_1 : decode cX6_got 1 = .ok (.iload_n 1, 1) := by decide +kernel
theorem dX6_got_2 : decode cX6_got 2 = .ok (.invokevirtual 146, 3) := by decide +kernel
theorem dX6_got_5 : decode cX6_got 5 = .ok (.ifCond .ne 6, 3) := by decide +kernel
theorem dX6_got_8 : decode cX6_got 8 = .ok (.ldc 150, 2) := by decide +kernel
theorem dX6_got_10 : decode cX6_got 10 = .ok (.ireturn, 1) := by decide +kernel
theorem dX6_got_11 : decode cX6_got 11 = .ok (.iload_n 2, 1) := by decide +kernel
theorem dX6_got_12 : decode cX6_got 12 = .ok (.iconst 0, 1) := by decide +kernel
theorem dX6_got_13 : decode cX6_got 13 = .ok (.iconst 1, 1) := by decide +kernel
theorem dX6_got_14 : decode cX6_got 14 = .ok (.invokestatic 80, 3) := by decide +kernel
theorem dX6_got_17 : decode cX6_got 17 = .ok (.ifCond .eq 13, 3) := by decide +kernel
theorem dX6_got_20 : decode cX6_got 20 = .ok (.iload_n 3, 1) := by decide +kernel
theorem dX6_got_21 : decode cX6_got 21 = .ok (.iconst 0, 1) := by decide +kernel
theorem dX6_got_22 : decode cX6_got 22 = .ok (.bipush 40, 2) := by decide +kernel
theorem dX6_got_24 : decode cX6_got 24 = .ok (.invokestatic 80, 3) := by decide +kernel
theorem dX6_got_27 : decode cX6_got 27 = .ok (.ifCond .ne 6, 3) := by decide +kernel
theorem dX6_got_30 : decode cX6_got 30 = .ok (.ldc 84, 2) := by decide +kernel
theorem dX6_got_32 : decode cX6_got 32 = .ok (.ireturn, 1) := by decide +kernel
theorem dX6_got_33 : decode cX6_got 33 = .ok (.aload_n 0, 1) := by decide +kernel
theorem dX6_got_34 : decode cX6_got 34 = .ok (.getfield 70, 3) := by decide +kernel
theorem dX6_got_37 : decode cX6_got 37 = .ok (.getfield 104, 3) := by decide +kernel
theorem dX6_got_40 : decode cX6_got 40 = .ok (.bipush 6, 2) := by decide +kernel
theorem dX6_got_42 : decode cX6_got 42 = .ok (.if_icmp .lt 6, 3) := by decide +kernel
theorem dX6_got_45 : decode cX6_got 45 = .ok (.ldc 88, 2) := by decide +kernel
theorem dX6_got_47 : decode cX6_got 47 = .ok (.ireturn, 1) := by decide +kernel
theorem dX6_got_48 : decode cX6_got 48 = .ok (.aload_n 0, 1) := by decide +kernel
theorem dX6_got_49 : decode cX6_got 49 = .ok (.getfield 70, 3) := by decide +kernel
theorem dX6_got_52 : decode cX6_got 52 = .ok (.iload_n 1, 1) := by decide +kernel
theorem dX6_got_53 : decode cX6_got 53 = .ok (.iload_n 2, 1) := by decide +kernel
theorem dX6_got_54 : decode cX6_got 54 = .ok (.iload_n 3, 1) := by decide +kernel
theorem dX6_got_55 : decode cX6_got 55 = .ok (.invokevirtual 297, 3) := by decide +kernel
theorem dX6_got_58 : decode cX6_got 58 = .ok (.ireturn, 1) := by decide +kernel
theorem dX6_thick_0 : decode cX6_thick 0 = .ok (.iload_n 1, 1) := by decide +kernel
theorem dX6_thick_1 : decode cX6_thick 1 = .ok (.iconst 0, 1) := by decide +kernel
theorem dX6_thick_2 : decode cX6_thick 2 = .ok (.iconst 2, 1) := by decide +kernel
theorem dX6_thick_3 : decode cX6_thick 3 = .ok (.invokestatic 80, 3) := by decide +kernel
theorem dX6_thick_6 : decode cX6_thick 6 = .ok (.ifCond .ne 6, 3) := by decide +kernel
theorem dX6_thick_9 : decode cX6_thick 9 = .ok (.ldc 84, 2) := by decide +kernel
theorem dX6_thick_11 : decode cX6_thick 11 = .ok (.ireturn, 1) := by decide +kernel
theorem dX6_thick_12 : decode cX6_thick 12 = .ok (.aload_n 0, 1) := by decide +kernel
theorem dX6_thick_13 : decode cX6_thick 13 = .ok (.invokevirtual 173, 3) := by decide +kernel
theorem dX6_thick_16 : decode cX6_thick 16 = .ok (.ifCond .eq 6, 3) := by decide +kernel
theorem dX6_thick_19 : decode cX6_thick 19 = .ok (.ldc 177, 2) := by decide +kernel
theorem dX6_thick_21 : decode cX6_thick 21 = .ok (.ireturn, 1) := by decide +kernel
theorem dX6_thick_22 : decode cX6_thick 22 = .ok (.aload_n 0, 1) := by decide +kernel
theorem dX6_thick_23 : decode cX6_thick 23 = .ok (.invokevirtual 301, 3) := by decide +kernel
theorem dX6_thick_26 : decode cX6_thick 26 = .ok (.lstore_n 2, 1) := by decide +kernel
theorem dX6_thick_27 : decode cX6_thick 27 = .ok (.iload_n 1, 1) := by decide +kernel
theorem dX6_thick_28 : decode cX6_thick 28 = .ok (.ifCond .ne 8, 3) := by decide +kernel
theorem dX6_thick_31 : decode cX6_thick 31 = .ok (.lload_n 2, 1) := by decide +kernel
theorem dX6_thick_32 : decode cX6_thick 32 = .ok (.invokestatic 305, 3) := by decide +kernel
theorem dX6_thick_35 : decode cX6_thick 35 = .ok (.ireturn, 1) := by decide +kernel
theorem dX6_thick_36 : decode cX6_thick 36 = .ok (.iconst (-1), 1) := by decide +kernel
theorem dX6_thick_37 : decode cX6_thick 37 = .ok (.istore 4, 2) := by decide +kernel
theorem dX6_thick_39 : decode cX6_thick 39 = .ok (.iconst 0, 1) := by decide +kernel
theorem dX6_thick_40 : decode cX6_thick 40 = .ok (.istore 5, 2) := by decide +kernel
theorem dX6_thick_42 : decode cX6_thick 42 = .ok (.iload 5, 2) := by decide +kernel
theorem dX6_thick_44 : decode cX6_thick 44 = .ok (.bipush 40, 2) := by decide +kernel
theorem dX6_thick_46 : decode cX6_thick 46 = .ok (.if_icmp .gt 47, 3) := by decide +kernel
theorem dX6_thick_49 : decode cX6_thick 49 = .ok (.lload_n 2, 1) := by decide +kernel
theorem dX6_thick_50 : decode cX6_thick 50 = .ok (.iload 5, 2) := by decide +kernel
theorem dX6_thick_52 : decode cX6_thick 52 = .ok (.lshr, 1) := by decide +kernel
theorem dX6_thick_53 : decode cX6_thick 53 = .ok (.lconst 1, 1) := by decide +kernel
theorem dX6_thick_54 : decode cX6_thick 54 = .ok (.land, 1) := by decide +kernel
theorem dX6_thick_55 : decode cX6_thick 55 = .ok (.lconst 1, 1) := by decide +kernel
theorem dX6_thick_56 : decode cX6_thick 56 = .ok (.lcmp, 1) := by decide +kernel
theorem dX6_thick_57 : decode cX6_thick 57 = .ok (.ifCond .ne 7, 3) := by decide +kernel
theorem dX6_thick_60 : decode cX6_thick 60 = .ok (.iconst 1, 1) := by decide +kernel
theorem dX6_thick_61 : decode cX6_thick 61 = .ok (.goto 4, 3) := by decide +kernel
theorem dX6_thick_64 : decode cX6_thick 64 = .ok (.iconst 0, 1) := by decide +kernel
theorem dX6_thick_65 : decode cX6_thick 65 = .ok (.istore 6, 2) := by decide +kernel
theorem dX6_thick_67 : decode cX6_thick 67 = .ok (.iload 6, 2) := by decide +kernel
theorem dX6_thick_69 : decode cX6_thick 69 = .ok (.ifCond .eq 18, 3) := by decide +kernel
theorem dX6_thick_72 : decode cX6_thick 72 = .ok (.iload_n 1, 1) := by decide +kernel
theorem dX6_thick_73 : decode cX6_thick 73 = .ok (.iconst 2, 1) := by decide +kernel
theorem dX6_thick_74 : decode cX6_thick 74 = .ok (.if_icmp .eq 9, 3) := by decide +kernel
theorem dX6_thick_77 : decode cX6_thick 77 = .ok (.iload 4, 2) := by decide +kernel
theorem dX6_thick_79 : decode cX6_thick 79 = .ok (.iconst (-1), 1) := by decide +kernel
theorem dX6_thick_80 : decode cX6_thick 80 = .ok (.if_icmp .ne 7, 3) := by decide +kernel
theorem dX6_thick_83 : decode cX6_thick 83 = .ok (.iload 5, 2) := by decide +kernel
theorem dX6_thick_85 : decode cX6_thick 85 = .ok (.istore 4, 2) := by decide +kernel
theorem dX6_thick_87 : decode cX6_thick 87 = .ok (.iinc 5 1, 3) := by decide +kernel
theorem dX6_thick_90 : decode cX6_thick 90 = .ok (.goto (-48), 3) := by decide +kernel
theorem dX6_thick_93 : decode cX6_thick 93 = .ok (.iload 4, 2) := by decide +kernel
theorem dX6_thick_95 : decode cX6_thick 95 = .ok (.ireturn, 1) := by decide +kernel
theorem dX6_lookAt_0 : decode cX6_lookAt 0 = .ok (.iload_n 1, 1) := by decide +kernel
theorem dX6_lookAt_1 : decode cX6_lookAt 1 = .ok (.iconst 0, 1) := by decide +kernel
theorem dX6_lookAt_2 : decode cX6_lookAt 2 = .ok (.iconst 1, 1) := by decide +kernel
theorem dX6_lookAt_3 : decode cX6_lookAt 3 = .ok (.invokestatic 80, 3) := by decide +kernel
theorem dX6_lookAt_6 : decode cX6_lookAt 6 = .ok (.ifCond .ne 6, 3) := by decide +kernel
theorem dX6_lookAt_9 : decode cX6_lookAt 9 = .ok (.ldc 84, 2) := by decide +kernel
theorem dX6_lookAt_11 : decode cX6_lookAt 11 = .ok (.ireturn, 1) := by decide +kernel
theorem dX6_lookAt_12 : decode cX6_lookAt 12 = .ok (.aload_n 0, 1) := by decide +kernel
theorem dX6_lookAt_13 : decode cX6_lookAt 13 = .ok (.invokevirtual 173, 3) := by decide +kernel
theorem dX6_lookAt_16 : decode cX6_lookAt 16 = .ok (.ifCond .eq 6, 3) := by decide +kernel
theorem dX6_lookAt_19 : decode cX6_lookAt 19 = .ok (.ldc 177, 2) := by decide +kernel
theorem dX6_lookAt_21 : decode cX6_lookAt 21 = .ok (.ireturn, 1) := by decide +kernel
theorem dX6_lookAt_22 : decode cX6_lookAt 22 = .ok (.aload_n 0, 1) := by decide +kernel
theorem dX6_lookAt_23 : decode cX6_lookAt 23 = .ok (.invokevirtual 301, 3) := by decide +kernel
theorem dX6_lookAt_26 : decode cX6_lookAt 26 = .ok (.lstore_n 2, 1) := by decide +kernel
theorem dX6_lookAt_27 : decode cX6_lookAt 27 = .ok (.iconst (-1), 1) := by decide +kernel
theorem dX6_lookAt_28 : decode cX6_lookAt 28 = .ok (.istore 4, 2) := by decide +kernel
theorem dX6_lookAt_30 : decode cX6_lookAt 30 = .ok (.lload_n 2, 1) := by decide +kernel
theorem dX6_lookAt_31 : decode cX6_lookAt 31 = .ok (.invokestatic 305, 3) := by decide +kernel
theorem dX6_lookAt_34 : decode cX6_lookAt 34 = .ok (.istore 5, 2) := by decide +kernel
theorem dX6_lookAt_36 : decode cX6_lookAt 36 = .ok (.iconst 0, 1) := by decide +kernel
theorem dX6_lookAt_37 : decode cX6_lookAt 37 = .ok (.istore 6, 2) := by decide +kernel
theorem dX6_lookAt_39 : decode cX6_lookAt 39 = .ok (.iload 6, 2) := by decide +kernel
theorem dX6_lookAt_41 : decode cX6_lookAt 41 = .ok (.bipush 6, 2) := by decide +kernel
theorem dX6_lookAt_43 : decode cX6_lookAt 43 = .ok (.if_icmp .ge 46, 3) := by decide +kernel
theorem dX6_lookAt_46 : decode cX6_lookAt 46 = .ok (.aload_n 0, 1) := by decide +kernel
theorem dX6_lookAt_47 : decode cX6_lookAt 47 = .ok (.iload 6, 2) := by decide +kernel
theorem dX6_lookAt_49 : decode cX6_lookAt 49 = .ok (.invokevirtual 146, 3) := by decide +kernel
theorem dX6_lookAt_52 : decode cX6_lookAt 52 = .ok (.ifCond .ne 6, 3) := by decide +kernel
theorem dX6_lookAt_55 : decode cX6_lookAt 55 = .ok (.goto 28, 3) := by decide +kernel
theorem dX6_lookAt_58 : decode cX6_lookAt 58 = .ok (.aload_n 0, 1) := by decide +kernel
theorem dX6_lookAt_59 : decode cX6_lookAt 59 = .ok (.lload_n 2, 1) := by decide +kernel
theorem dX6_lookAt_60 : decode cX6_lookAt 60 = .ok (.iload 6, 2) := by decide +kernel
theorem dX6_lookAt_62 : decode cX6_lookAt 62 = .ok (.iload_n 1, 1) := by decide +kernel
theorem dX6_lookAt_63 : decode cX6_lookAt 63 = .ok (.invokevirtual 310, 3) := by decide +kernel
theorem dX6_lookAt_66 : decode cX6_lookAt 66 = .ok (.istore 7, 2) := by decide +kernel
theorem dX6_lookAt_68 : decode cX6_lookAt 68 = .ok (.iload 7, 2) := by decide +kernel
theorem dX6_lookAt_70 : decode cX6_lookAt 70 = .ok (.iload 5, 2) := by decide +kernel
theorem dX6_lookAt_72 : decode cX6_lookAt 72 = .ok (.if_icmp .ge 11, 3) := by decide +kernel
theorem dX6_lookAt_75 : decode cX6_lookAt 75 = .ok (.iload 7, 2) := by decide +kernel
theorem dX6_lookAt_77 : decode cX6_lookAt 77 = .ok (.istore 5, 2) := by decide +kernel
theorem dX6_lookAt_79 : decode cX6_lookAt 79 = .ok (.iload 6, 2) := by decide +kernel
theorem dX6_lookAt_81 : decode cX6_lookAt 81 = .ok (.istore 4, 2) := by decide +kernel
theorem dX6_lookAt_83 : decode cX6_lookAt 83 = .ok (.iinc 6 1, 3) := by decide +kernel
theorem dX6_lookAt_86 : decode cX6_lookAt 86 = .ok (.goto (-47), 3) := by decide +kernel
theorem dX6_lookAt_89 : decode cX6_lookAt 89 = .ok (.iload 4, 2) := by decide +kernel
theorem dX6_lookAt_91 : decode cX6_lookAt 91 = .ok (.ireturn, 1) := by decide +kernel
theorem dX6_needs_0 : decode cX6_needs 0 = .ok (.aload_n 0, 1) := by decide +kernel
theorem dX6_needs_1 : decode cX6_needs 1 = .ok (.iload_n 1, 1) := by decide +kernel
theorem dX6_needs_2 : decode cX6_needs 2 = .ok (.invokevirtual 146, 3) := by decide +kernel
theorem dX6_needs_5 : decode cX6_needs 5 = .ok (.ifCond .ne 6, 3) := by decide +kernel
theorem dX6_needs_8 : decode cX6_needs 8 = .ok (.ldc 150, 2) := by decide +kernel
theorem dX6_needs_10 : decode cX6_needs 10 = .ok (.ireturn, 1) := by decide +kernel
theorem dX6_needs_11 : decode cX6_needs 11 = .ok (.iload_n 2, 1) := by decide +kernel
theorem dX6_needs_12 : decode cX6_needs 12 = .ok (.iconst 0, 1) := by decide +kernel
theorem dX6_needs_13 : decode cX6_needs 13 = .ok (.iconst 1, 1) := by decide +kernel
theorem dX6_needs_14 : decode cX6_needs 14 = .ok (.invokestatic 80, 3) := by decide +kernel
theorem dX6_needs_17 : decode cX6_needs 17 = .ok (.ifCond .eq 13, 3) := by decide +kernel
theorem dX6_needs_20 : decode cX6_needs 20 = .ok (.iload_n 3, 1) := by decide +kernel
theorem dX6_needs_21 : decode cX6_needs 21 = .ok (.iconst 0, 1) := by decide +kernel
theorem dX6_needs_22 : decode cX6_needs 22 = .ok (.bipush 40, 2) := by decide +kernel
theorem dX6_needs_24 : decode cX6_needs 24 = .ok (.invokestatic 80, 3) := by decide +kernel
theorem dX6_needs_27 : decode cX6_needs 27 = .ok (.ifCond .ne 6, 3) := by decide +kernel
theorem dX6_needs_30 : decode cX6_needs 30 = .ok (.ldc 84, 2) := by decide +kernel
theorem dX6_needs_32 : decode cX6_needs 32 = .ok (.ireturn, 1) := by decide +kernel
theorem dX6_needs_33 : decode cX6_needs 33 = .ok (.iconst 0, 1) := by decide +kernel
theorem dX6_needs_34 : decode cX6_needs 34 = .ok (.istore 4, 2) := by decide +kernel
theorem dX6_needs_36 : decode cX6_needs 36 = .ok (.iload 4, 2) := by decide +kernel
theorem dX6_needs_38 : decode cX6_needs 38 = .ok (.bipush 40, 2) := by decide +kernel
theorem dX6_needs_40 : decode cX6_needs 40 = .ok (.if_icmp .gt 24, 3) := by decide +kernel
theorem dX6_needs_43 : decode cX6_needs 43 = .ok (.aload_n 0, 1) := by decide +kernel
theorem dX6_needs_44 : decode cX6_needs 44 = .ok (.iload_n 1, 1) := by decide +kernel
theorem dX6_needs_45 : decode cX6_needs 45 = .ok (.iload_n 2, 1) := by decide +kernel
theorem dX6_needs_46 : decode cX6_needs 46 = .ok (.iload 4, 2) := by decide +kernel
theorem dX6_needs_48 : decode cX6_needs 48 = .ok (.invokevirtual 314, 3) := by decide +kernel
theorem dX6_needs_51 : decode cX6_needs 51 = .ok (.iload_n 3, 1) := by decide +kernel
theorem dX6_needs_52 : decode cX6_needs 52 = .ok (.if_icmp .lt 6, 3) := by decide +kernel
theorem dX6_needs_55 : decode cX6_needs 55 = .ok (.iload 4, 2) := by decide +kernel
theorem dX6_needs_57 : decode cX6_needs 57 = .ok (.ireturn, 1) := by decide +kernel
theorem dX6_needs_58 : decode cX6_needs 58 = .ok (.iinc 4 1, 3) := by decide +kernel
theorem dX6_needs_61 : decode cX6_needs 61 = .ok (.goto (-25), 3) := by decide +kernel
theorem dX6_needs_64 : decode cX6_needs 64 = .ok (.iconst (-1), 1) := by decide +kernel
theorem dX6_needs_65 : decode cX6_needs 65 = .ok (.ireturn, 1) := by decide +kernel
theorem dX6_tear_0 : decode cX6_tear 0 = .ok (.aload_n 0, 1) := by decide +kernel
theorem dX6_tear_1 : decode cX6_tear 1 = .ok (.getfield 70, 3) := by decide +kernel
theorem dX6_tear_4 : decode cX6_tear 4 = .ok (.getfield 104, 3) := by decide +kernel
theorem dX6_tear_7 : decode cX6_tear 7 = .ok (.aload_n 0, 1) := by decide +kernel
theorem dX6_tear_8 : decode cX6_tear 8 = .ok (.getfield 74, 3) := by decide +kernel
theorem dX6_tear_11 : decode cX6_tear 11 = .ok (.getfield 104, 3) := by decide +kernel
theorem dX6_tear_14 : decode cX6_tear 14 = .ok (.iadd, 1) := by decide +kernel
theorem dX6_tear_15 : decode cX6_tear 15 = .ok (.istore_n 1, 1) := by decide +kernel
theorem dX6_tear_16 : decode cX6_tear 16 = .ok (.aload_n 0, 1) := by decide +kernel
theorem dX6_tear_17 : decode cX6_tear 17 = .ok (.getfield 70, 3) := by decide +kernel
theorem dX6_tear_20 : decode cX6_tear 20 = .ok (.iconst 0, 1) := by decide +kernel
theorem dX6_tear_21 : decode cX6_tear 21 = .ok (.putfield 104, 3) := by decide +kernel
theorem dX6_tear_24 : decode cX6_tear 24 = .ok (.aload_n 0, 1) := by decide +kernel
theorem dX6_tear_25 : decode cX6_tear 25 = .ok (.getfield 74, 3) := by decide +kernel
theorem dX6_tear_28 : decode cX6_tear 28 = .ok (.iconst 0, 1) := by decide +kernel
theorem dX6_tear_29 : decode cX6_tear 29 = .ok (.putfield 104, 3) := by decide +kernel
theorem dX6_tear_32 : decode cX6_tear 32 = .ok (.iload_n 1, 1) := by decide +kernel
theorem dX6_tear_33 : decode cX6_tear 33 = .ok (.ireturn, 1) := by decide +kernel
theorem dX6_seed_0 : decode cX6_seed 0 = .ok (.iload_n 1, 1) := by decide +kernel
theorem dX6_seed_1 : decode cX6_seed 1 = .ok (.ifCond .ge 6, 3) := by decide +kernel
theorem dX6_seed_4 : decode cX6_seed 4 = .ok (.ldc 84, 2) := by decide +kernel
theorem dX6_seed_6 : decode cX6_seed 6 = .ok (.ireturn, 1) := by decide +kernel
theorem dX6_seed_7 : decode cX6_seed 7 = .ok (.aload_n 0, 1) := by decide +kernel
theorem dX6_seed_8 : decode cX6_seed 8 = .ok (.getfield 61, 3) := by decide +kernel
theorem dX6_seed_11 : decode cX6_seed 11 = .ok (.istore_n 2, 1) := by decide +kernel
theorem dX6_seed_12 : decode cX6_seed 12 = .ok (.aload_n 0, 1) := by decide +kernel
theorem dX6_seed_13 : decode cX6_seed 13 = .ok (.iload_n 1, 1) := by decide +kernel
theorem dX6_seed_14 : decode cX6_seed 14 = .ok (.putfield 61, 3) := by decide +kernel
theorem dX6_seed_17 : decode cX6_seed 17 = .ok (.iload_n 2, 1) := by decide +kernel
theorem dX6_seed_18 : decode cX6_seed 18 = .ok (.ireturn, 1) := by decide +kernel
theorem dX6_keep_0 : decode cX6_keep 0 = .ok (.aload_n 0, 1) := by decide +kernel
theorem dX6_keep_1 : decode cX6_keep 1 = .ok (.iload_n 1, 1) := by decide +kernel
theorem dX6_keep_2 : decode cX6_keep 2 = .ok (.invokevirtual 322, 3) := by decide +kernel
theorem dX6_keep_5 : decode cX6_keep 5 = .ok (.astore_n 2, 1) := by decide +kernel
theorem dX6_keep_6 : decode cX6_keep 6 = .ok (.aload_n 2, 1) := by decide +kernel
theorem dX6_keep_7 : decode cX6_keep 7 = .ok (.ifnonnull 6, 3) := by decide +kernel
theorem dX6_keep_10 : decode cX6_keep 10 = .ok (.ldc 150, 2) := by decide +kernel
theorem dX6_keep_12 : decode cX6_keep 12 = .ok (.ireturn, 1) := by decide +kernel
theorem dX6_keep_13 : decode cX6_keep 13 = .ok (.aload_n 2, 1) := by decide +kernel
theorem dX6_keep_14 : decode cX6_keep 14 = .ok (.aload_n 0, 1) := by decide +kernel
theorem dX6_keep_15 : decode cX6_keep 15 = .ok (.getfield 29, 3) := by decide +kernel
theorem dX6_keep_18 : decode cX6_keep 18 = .ok (.invokevirtual 247, 3) := by decide +kernel
theorem dX6_keep_21 : decode cX6_keep 21 = .ok (.aload_n 0, 1) := by decide +kernel
theorem dX6_keep_22 : decode cX6_keep 22 = .ok (.getfield 58, 3) := by decide +kernel
theorem dX6_keep_25 : decode cX6_keep 25 = .ok (.iload_n 1, 1) := by decide +kernel
theorem dX6_keep_26 : decode cX6_keep 26 = .ok (.aload_n 0, 1) := by decide +kernel
theorem dX6_keep_27 : decode cX6_keep 27 = .ok (.getfield 61, 3) := by decide +kernel
theorem dX6_keep_30 : decode cX6_keep 30 = .ok (.invokestatic 227, 3) := by decide +kernel
theorem dX6_keep_33 : decode cX6_keep 33 = .ok (.aload_n 0, 1) := by decide +kernel
theorem dX6_keep_34 : decode cX6_keep 34 = .ok (.getfield 50, 3) := by decide +kernel
theorem dX6_keep_37 : decode cX6_keep 37 = .ok (.iconst 0, 1) := by decide +kernel
theorem dX6_keep_38 : decode cX6_keep 38 = .ok (.putfield 101, 3) := by decide +kernel
theorem dX6_keep_41 : decode cX6_keep 41 = .ok (.iconst 1, 1) := by decide +kernel
theorem dX6_keep_42 : decode cX6_keep 42 = .ok (.ireturn, 1) := by decide +kernel
theorem dX6_goBack_0 : decode cX6_goBack 0 = .ok (.aload_n 0, 1) := by decide +kernel
theorem dX6_goBack_1 : decode cX6_goBack 1 = .ok (.iload_n 1, 1) := by decide +kernel
theorem dX6_goBack_2 : decode cX6_goBack 2 = .ok (.invokevirtual 322, 3) := by decide +kernel
theorem dX6_goBack_5 : decode cX6_goBack 5 = .ok (.astore_n 2, 1) := by decide +kernel
theorem dX6_goBack_6 : decode cX6_goBack 6 = .ok (.aload_n 2, 1) := by decide +kernel
theorem dX6_goBack_7 : decode cX6_goBack 7 = .ok (.ifnonnull 6, 3) := by decide +kernel
theorem dX6_goBack_10 : decode cX6_goBack 10 = .ok (.ldc 150, 2) := by decide +kernel
theorem dX6_goBack_12 : decode cX6_goBack 12 = .ok (.ireturn, 1) := by decide +kernel
theorem dX6_goBack_13 : decode cX6_goBack 13 = .ok (.aload_n 0, 1) := by decide +kernel
theorem dX6_goBack_14 : decode cX6_goBack 14 = .ok (.getfield 58, 3) := by decide +kernel
theorem dX6_goBack_17 : decode cX6_goBack 17 = .ok (.iload_n 1, 1) := by decide +kernel
theorem dX6_goBack_18 : decode cX6_goBack 18 = .ok (.invokestatic 154, 3) := by decide +kernel
theorem dX6_goBack_21 : decode cX6_goBack 21 = .ok (.istore_n 3, 1) := by decide +kernel
theorem dX6_goBack_22 : decode cX6_goBack 22 = .ok (.iload_n 3, 1) := by decide +kernel
theorem dX6_goBack_23 : decode cX6_goBack 23 = .ok (.iconst (-1), 1) := by decide +kernel
theorem dX6_goBack_24 : decode cX6_goBack 24 = .ok (.if_icmp .ne 6, 3) := by decide +kernel
theorem dX6_goBack_27 : decode cX6_goBack 27 = .ok (.ldc 177, 2) := by decide +kernel
theorem dX6_goBack_29 : decode cX6_goBack 29 = .ok (.ireturn, 1) := by decide +kernel
theorem dX6_goBack_30 : decode cX6_goBack 30 = .ok (.aload_n 0, 1) := by decide +kernel
theorem dX6_goBack_31 : decode cX6_goBack 31 = .ok (.getfield 29, 3) := by decide +kernel
theorem dX6_goBack_34 : decode cX6_goBack 34 = .ok (.aload_n 2, 1) := by decide +kernel
theorem dX6_goBack_35 : decode cX6_goBack 35 = .ok (.invokevirtual 247, 3) := by decide +kernel
theorem dX6_goBack_38 : decode cX6_goBack 38 = .ok (.aload_n 0, 1) := by decide +kernel
theorem dX6_goBack_39 : decode cX6_goBack 39 = .ok (.iload_n 3, 1) := by decide +kernel
theorem dX6_goBack_40 : decode cX6_goBack 40 = .ok (.putfield 61, 3) := by decide +kernel
theorem dX6_goBack_43 : decode cX6_goBack 43 = .ok (.aload_n 0, 1) := by decide +kernel
theorem dX6_goBack_44 : decode cX6_goBack 44 = .ok (.getfield 50, 3) := by decide +kernel
theorem dX6_goBack_47 : decode cX6_goBack 47 = .ok (.iconst 0, 1) := by decide +kernel
theorem dX6_goBack_48 : decode cX6_goBack 48 = .ok (.putfield 101, 3) := by decide +kernel
theorem dX6_goBack_51 : decode cX6_goBack 51 = .ok (.iconst 1, 1) := by decide +kernel
theorem dX6_goBack_52 : decode cX6_goBack 52 = .ok (.ireturn, 1) := by decide +kernel
theorem dX6_within_0 : decode cX6_within 0 = .ok (.iload_n 0, 1) := by decide +kernel
theorem dX6_within_1 : decode cX6_within 1 = .ok (.iload_n 1, 1) := by decide +kernel
theorem dX6_within_2 : decode cX6_within 2 = .ok (.if_icmp .lt 12, 3) := by decide +kernel
theorem dX6_within_5 : decode cX6_within 5 = .ok (.iload_n 0, 1) := by decide +kernel
theorem dX6_within_6 : decode cX6_within 6 = .ok (.iload_n 2, 1) := by decide +kernel
theorem dX6_within_7 : decode cX6_within 7 = .ok (.if_icmp .gt 7, 3) := by decide +kernel
theorem dX6_within_10 : decode cX6_within 10 = .ok (.iconst 1, 1) := by decide +kernel
theorem dX6_within_11 : decode cX6_within 11 = .ok (.goto 4, 3) := by decide +kernel
theorem dX6_within_14 : decode cX6_within 14 = .ok (.iconst 0, 1) := by decide +kernel
theorem dX6_within_15 : decode cX6_within 15 = .ok (.ireturn, 1) := by decide +kernel
theorem dX6_at_0 : decode cX6_at 0 = .ok (.iload_n 1, 1) := by decide +kernel
theorem dX6_at_1 : decode cX6_at 1 = .ok (.ifCond .lt 15, 3) := by decide +kernel
theorem dX6_at_4 : decode cX6_at 4 = .ok (.iload_n 1, 1) := by decide +kernel
theorem dX6_at_5 : decode cX6_at 5 = .ok (.aload_n 0, 1) := by decide +kernel
theorem dX6_at_6 : decode cX6_at 6 = .ok (.arraylength, 1) := by decide +kernel
theorem dX6_at_7 : decode cX6_at 7 = .ok (.if_icmp .ge 9, 3) := by decide +kernel
theorem dX6_at_10 : decode cX6_at 10 = .ok (.aload_n 0, 1) := by decide +kernel
theorem dX6_at_11 : decode cX6_at 11 = .ok (.iload_n 1, 1) := by decide +kernel
theorem dX6_at_12 : decode cX6_at 12 = .ok (.iaload, 1) := by decide +kernel
theorem dX6_at_13 : decode cX6_at 13 = .ok (.goto 4, 3) := by decide +kernel
theorem dX6_at_16 : decode cX6_at 16 = .ok (.iconst 0, 1) := by decide +kernel
theorem dX6_at_17 : decode cX6_at 17 = .ok (.ireturn, 1) := by decide +kernel
theorem dX6_put_0 : decode cX6_put 0 = .ok (.iload_n 1, 1) := by decide +kernel
theorem dX6_put_1 : decode cX6_put 1 = .ok (.ifCond .lt 13, 3) := by decide +kernel
theorem dX6_put_4 : decode cX6_put 4 = .ok (.iload_n 1, 1) := by decide +kernel
theorem dX6_put_5 : decode cX6_put 5 = .ok (.aload_n 0, 1) := by decide +kernel
theorem dX6_put_6 : decode cX6_put 6 = .ok (.arraylength, 1) := by decide +kernel
theorem dX6_put_7 : decode cX6_put 7 = .ok (.if_icmp .ge 7, 3) := by decide +kernel
theorem dX6_put_10 : decode cX6_put 10 = .ok (.aload_n 0, 1) := by decide +kernel
theorem dX6_put_11 : decode cX6_put 11 = .ok (.iload_n 1, 1) := by decide +kernel
theorem dX6_put_12 : decode cX6_put 12 = .ok (.iload_n 2, 1) := by decide +kernel
theorem dX6_put_13 : decode cX6_put 13 = .ok (.iastore, 1) := by decide +kernel
theorem dX6_put_14 : decode cX6_put 14 = .ok (.return_, 1) := by decide +kernel
theorem dX6_isBare_0 : decode cX6_isBare 0 = .ok (.aload_n 0, 1) := by decide +kernel
theorem dX6_isBare_1 : decode cX6_isBare 1 = .ok (.getfield 19, 3) := by decide +kernel
theorem dX6_isBare_4 : decode cX6_isBare 4 = .ok (.getfield 111, 3) := by decide +kernel
theorem dX6_isBare_7 : decode cX6_isBare 7 = .ok (.ifCond .ne 7, 3) := by decide +kernel
theorem dX6_isBare_10 : decode cX6_isBare 10 = .ok (.iconst 1, 1) := by decide +kernel
theorem dX6_isBare_11 : decode cX6_isBare 11 = .ok (.goto 4, 3) := by decide +kernel
theorem dX6_isBare_14 : decode cX6_isBare 14 = .ok (.iconst 0, 1) := by decide +kernel
theorem dX6_isBare_15 : decode cX6_isBare 15 = .ok (.ireturn, 1) := by decide +kernel
theorem dX6_isCell_0 : decode cX6_isCell 0 = .ok (.iload_n 1, 1) := by decide +kernel
theorem dX6_isCell_1 : decode cX6_isCell 1 = .ok (.iconst 0, 1) := by decide +kernel
theorem dX6_isCell_2 : decode cX6_isCell 2 = .ok (.aload_n 0, 1) := by decide +kernel
theorem dX6_isCell_3 : decode cX6_isCell 3 = .ok (.getfield 19, 3) := by decide +kernel
theorem dX6_isCell_6 : decode cX6_isCell 6 = .ok (.getfield 111, 3) := by decide +kernel
theorem dX6_isCell_9 : decode cX6_isCell 9 = .ok (.iconst 1, 1) := by decide +kernel
theorem dX6_isCell_10 : decode cX6_isCell 10 = .ok (.isub, 1) := by decide +kernel
theorem dX6_isCell_11 : decode cX6_isCell 11 = .ok (.invokestatic 80, 3) := by decide +kernel
theorem dX6_isCell_14 : decode cX6_isCell 14 = .ok (.ireturn, 1) := by decide +kernel
theorem dX6_isPost_0 : decode cX6_isPost 0 = .ok (.iload_n 1, 1) := by decide +kernel
theorem dX6_isPost_1 : decode cX6_isPost 1 = .ok (.iconst 0, 1) := by decide +kernel
theorem dX6_isPost_2 : decode cX6_isPost 2 = .ok (.aload_n 0, 1) := by decide +kernel
theorem dX6_isPost_3 : decode cX6_isPost 3 = .ok (.getfield 19, 3) := by decide +kernel
theorem dX6_isPost_6 : decode cX6_isPost 6 = .ok (.getfield 105, 3) := by decide +kernel
theorem dX6_isPost_9 : decode cX6_isPost 9 = .ok (.iconst 1, 1) := by decide +kernel
theorem dX6_isPost_10 : decode cX6_isPost 10 = .ok (.isub, 1) := by decide +kernel
theorem dX6_isPost_11 : decode cX6_isPost 11 = .ok (.invokestatic 80, 3) := by decide +kernel
theorem dX6_isPost_14 : decode cX6_isPost 14 = .ok (.ireturn, 1) := by decide +kernel
theorem dX6_isGoat_0 : decode cX6_isGoat 0 = .ok (.iload_n 1, 1) := by decide +kernel
theorem dX6_isGoat_1 : decode cX6_isGoat 1 = .ok (.iconst 0, 1) := by decide +kernel
theorem dX6_isGoat_2 : decode cX6_isGoat 2 = .ok (.aload_n 0, 1) := by decide +kernel
theorem dX6_isGoat_3 : decode cX6_isGoat 3 = .ok (.getfield 19, 3) := by decide +kernel
theorem dX6_isGoat_6 : decode cX6_isGoat 6 = .ok (.getfield 121, 3) := by decide +kernel
theorem dX6_isGoat_9 : decode cX6_isGoat 9 = .ok (.iconst 1, 1) := by decide +kernel
theorem dX6_isGoat_10 : decode cX6_isGoat 10 = .ok (.isub, 1) := by decide +kernel
theorem dX6_isGoat_11 : decode cX6_isGoat 11 = .ok (.invokestatic 80, 3) := by decide +kernel
theorem dX6_isGoat_14 : decode cX6_isGoat 14 = .ok (.ireturn, 1) := by decide +kernel
theorem dX6_isVillage_0 : decode cX6_isVillage 0 = .ok (.iload_n 0, 1) := by decide +kernel
theorem dX6_isVillage_1 : decode cX6_isVillage 1 = .ok (.iconst 0, 1) := by decide +kernel
theorem dX6_isVillage_2 : decode cX6_isVillage 2 = .ok (.iconst 1, 1) := by decide +kernel
theorem dX6_isVillage_3 : decode cX6_isVillage 3 = .ok (.invokestatic 80, 3) := by decide +kernel
theorem dX6_isVillage_6 : decode cX6_isVillage 6 = .ok (.ireturn, 1) := by decide +kernel
theorem dX6_isOpenTo_0 : decode cX6_isOpenTo 0 = .ok (.aload_n 0, 1) := by decide +kernel
theorem dX6_isOpenTo_1 : decode cX6_isOpenTo 1 = .ok (.iload_n 1, 1) := by decide +kernel
theorem dX6_isOpenTo_2 : decode cX6_isOpenTo 2 = .ok (.invokevirtual 231, 3) := by decide +kernel
theorem dX6_isOpenTo_5 : decode cX6_isOpenTo 5 = .ok (.ifCond .ne 5, 3) := by decide +kernel
theorem dX6_isOpenTo_8 : decode cX6_isOpenTo 8 = .ok (.iconst 0, 1) := by decide +kernel
theorem dX6_isOpenTo_9 : decode cX6_isOpenTo 9 = .ok (.ireturn, 1) := by decide +kernel
theorem dX6_isOpenTo_10 : decode cX6_isOpenTo 10 = .ok (.aload_n 0, 1) := by decide +kernel
theorem dX6_isOpenTo_11 : decode cX6_isOpenTo 11 = .ok (.getfield 29, 3) := by decide +kernel
theorem dX6_isOpenTo_14 : decode cX6_isOpenTo 14 = .ok (.iload_n 1, 1) := by decide +kernel
theorem dX6_isOpenTo_15 : decode cX6_isOpenTo 15 = .ok (.invokevirtual 234, 3) := by decide +kernel
theorem dX6_isOpenTo_18 : decode cX6_isOpenTo 18 = .ok (.istore 4, 2) := by decide +kernel
theorem dX6_isOpenTo_20 : decode cX6_isOpenTo 20 = .ok (.iload 4, 2) := by decide +kernel
theorem dX6_isOpenTo_22 : decode cX6_isOpenTo 22 = .ok (.iconst (-1), 1) := by decide +kernel
theorem dX6_isOpenTo_23 : decode cX6_isOpenTo 23 = .ok (.if_icmp .eq 15, 3) := by decide +kernel
theorem dX6_isOpenTo_26 : decode cX6_isOpenTo 26 = .ok (.iload 4, 2) := by decide +kernel
theorem dX6_isOpenTo_28 : decode cX6_isOpenTo 28 = .ok (.iload_n 2, 1) := by decide +kernel
theorem dX6_isOpenTo_29 : decode cX6_isOpenTo 29 = .ok (.if_icmp .eq 9, 3) := by decide +kernel
theorem dX6_isOpenTo_32 : decode cX6_isOpenTo 32 = .ok (.iload 4, 2) := by decide +kernel
theorem dX6_isOpenTo_34 : decode cX6_isOpenTo 34 = .ok (.iload_n 3, 1) := by decide +kernel
theorem dX6_isOpenTo_35 : decode cX6_isOpenTo 35 = .ok (.if_icmp .ne 7, 3) := by decide +kernel
theorem dX6_isOpenTo_38 : decode cX6_isOpenTo 38 = .ok (.iconst 1, 1) := by decide +kernel
theorem dX6_isOpenTo_39 : decode cX6_isOpenTo 39 = .ok (.goto 4, 3) := by decide +kernel
theorem dX6_isOpenTo_42 : decode cX6_isOpenTo 42 = .ok (.iconst 0, 1) := by decide +kernel
theorem dX6_isOpenTo_43 : decode cX6_isOpenTo 43 = .ok (.ireturn, 1) := by decide +kernel
theorem dX6_imageOf_0 : decode cX6_imageOf 0 = .ok (.iload_n 1, 1) := by decide +kernel
theorem dX6_imageOf_1 : decode cX6_imageOf 1 = .ok (.ifCond .lt 26, 3) := by decide +kernel
theorem dX6_imageOf_4 : decode cX6_imageOf 4 = .ok (.iload_n 1, 1) := by decide +kernel
theorem dX6_imageOf_5 : decode cX6_imageOf 5 = .ok (.iconst 2, 1) := by decide +kernel
theorem dX6_imageOf_6 : decode cX6_imageOf 6 = .ok (.if_icmp .ge 21, 3) := by decide +kernel
theorem dX6_imageOf_9 : decode cX6_imageOf 9 = .ok (.iload_n 1, 1) := by decide +kernel
theorem dX6_imageOf_10 : decode cX6_imageOf 10 = .ok (.aload_n 0, 1) := by decide +kernel
theorem dX6_imageOf_11 : decode cX6_imageOf 11 = .ok (.getfield 54, 3) := by decide +kernel
theorem dX6_imageOf_14 : decode cX6_imageOf 14 = .ok (.arraylength, 1) := by decide +kernel
theorem dX6_imageOf_15 : decode cX6_imageOf 15 = .ok (.if_icmp .ge 12, 3) := by decide +kernel
theorem dX6_imageOf_18 : decode cX6_imageOf 18 = .ok (.aload_n 0, 1) := by decide +kernel
theorem dX6_imageOf_19 : decode cX6_imageOf 19 = .ok (.getfield 54, 3) := by decide +kernel
theorem dX6_imageOf_22 : decode cX6_imageOf 22 = .ok (.iload_n 1, 1) := by decide +kernel
theorem dX6_imageOf_23 : decode cX6_imageOf 23 = .ok (.aaload, 1) := by decide +kernel
theorem dX6_imageOf_24 : decode cX6_imageOf 24 = .ok (.goto 4, 3) := by decide +kernel
theorem dX6_imageOf_27 : decode cX6_imageOf 27 = .ok (.aconst_null, 1) := by decide +kernel
theorem dX6_imageOf_28 : decode cX6_imageOf 28 = .ok (.areturn, 1) := by decide +kernel
theorem dX6_draw_0 : decode cX6_draw 0 = .ok (.aload_n 0, 1) := by decide +kernel
theorem dX6_draw_1 : decode cX6_draw 1 = .ok (.aload_n 0, 1) := by decide +kernel
theorem dX6_draw_2 : decode cX6_draw 2 = .ok (.getfield 61, 3) := by decide +kernel
theorem dX6_draw_5 : decode cX6_draw 5 = .ok (.i2l, 1) := by decide +kernel
theorem dX6_draw_6 : decode cX6_draw 6 = .ok (.ldc2_w 326, 3) := by decide +kernel
theorem dX6_draw_9 : decode cX6_draw 9 = .ok (.lmul, 1) := by decide +kernel
theorem dX6_draw_10 : decode cX6_draw 10 = .ok (.ldc2_w 328, 3) := by decide +kernel
theorem dX6_draw_13 : decode cX6_draw 13 = .ok (.ladd, 1) := by decide +kernel
theorem dX6_draw_14 : decode cX6_draw 14 = .ok (.ldc2_w 330, 3) := by decide +kernel
theorem dX6_draw_17 : decode cX6_draw 17 = .ok (.land, 1) := by decide +kernel
theorem dX6_draw_18 : decode cX6_draw 18 = .ok (.l2i, 1) := by decide +kernel
theorem dX6_draw_19 : decode cX6_draw 19 = .ok (.putfield 61, 3) := by decide +kernel
theorem dX6_draw_22 : decode cX6_draw 22 = .ok (.iload_n 1, 1) := by decide +kernel
theorem dX6_draw_23 : decode cX6_draw 23 = .ok (.ifCond .le 16, 3) := by decide +kernel
theorem dX6_draw_26 : decode cX6_draw 26 = .ok (.aload_n 0, 1) := by decide +kernel
theorem dX6_draw_27 : decode cX6_draw 27 = .ok (.getfield 61, 3) := by decide +kernel
theorem dX6_draw_30 : decode cX6_draw 30 = .ok (.ldc_w 332, 3) := by decide +kernel
theorem dX6_draw_33 : decode cX6_draw 33 = .ok (.idiv, 1) := by decide +kernel
theorem dX6_draw_34 : decode cX6_draw 34 = .ok (.iload_n 1, 1) := by decide +kernel
theorem dX6_draw_35 : decode cX6_draw 35 = .ok (.irem, 1) := by decide +kernel
theorem dX6_draw_36 : decode cX6_draw 36 = .ok (.goto 4, 3) := by decide +kernel
theorem dX6_draw_39 : decode cX6_draw 39 = .ok (.iconst 0, 1) := by decide +kernel
theorem dX6_draw_40 : decode cX6_draw 40 = .ok (.ireturn, 1) := by decide +kernel
theorem dX6_lickByDraws_0 : decode cX6_lickByDraws 0 = .ok (.aload_n 0, 1) := by decide +kernel
theorem dX6_lickByDraws_1 : decode cX6_lickByDraws 1 = .ok (.getfield 19, 3) := by decide +kernel
theorem dX6_lickByDraws_4 : decode cX6_lickByDraws 4 = .ok (.getfield 105, 3) := by decide +kernel
theorem dX6_lickByDraws_7 : decode cX6_lickByDraws 7 = .ok (.ifCond .eq 12, 3) := by decide +kernel
theorem dX6_lickByDraws_10 : decode cX6_lickByDraws 10 = .ok (.aload_n 0, 1) := by decide +kernel
theorem dX6_lickByDraws_11 : decode cX6_lickByDraws 11 = .ok (.bipush 8, 2) := by decide +kernel
theorem dX6_lickByDraws_13 : decode cX6_lickByDraws 13 = .ok (.invokevirtual 237, 3) := by decide +kernel
theorem dX6_lickByDraws_16 : decode cX6_lickByDraws 16 = .ok (.ifCond .eq 4, 3) := by decide +kernel
theorem dX6_lickByDraws_19 : decode cX6_lickByDraws 19 = .ok (.return_, 1) := by decide +kernel
theorem dX6_lickByDraws_20 : decode cX6_lickByDraws 20 = .ok (.aload_n 0, 1) := by decide +kernel
theorem dX6_lickByDraws_21 : decode cX6_lickByDraws 21 = .ok (.aload_n 0, 1) := by decide +kernel
theorem dX6_lickByDraws_22 : decode cX6_lickByDraws 22 = .ok (.getfield 19, 3) := by decide +kernel
theorem dX6_lickByDraws_25 : decode cX6_lickByDraws 25 = .ok (.getfield 105, 3) := by decide +kernel
theorem dX6_lickByDraws_28 : decode cX6_lickByDraws 28 = .ok (.invokevirtual 237, 3) := by decide +kernel
theorem dX6_lickByDraws_31 : decode cX6_lickByDraws 31 = .ok (.istore_n 1, 1) := by decide +kernel
theorem dX6_lickByDraws_32 : decode cX6_lickByDraws 32 = .ok (.aload_n 0, 1) := by decide +kernel
theorem dX6_lickByDraws_33 : decode cX6_lickByDraws 33 = .ok (.getfield 29, 3) := by decide +kernel
theorem dX6_lickByDraws_36 : decode cX6_lickByDraws 36 = .ok (.iload_n 1, 1) := by decide +kernel
theorem dX6_lickByDraws_37 : decode cX6_lickByDraws 37 = .ok (.aload_n 0, 1) := by decide +kernel
theorem dX6_lickByDraws_38 : decode cX6_lickByDraws 38 = .ok (.bipush 10, 2) := by decide +kernel
theorem dX6_lickByDraws_40 : decode cX6_lickByDraws 40 = .ok (.invokevirtual 237, 3) := by decide +kernel
theorem dX6_lickByDraws_43 : decode cX6_lickByDraws 43 = .ok (.invokevirtual 223, 3) := by decide +kernel
theorem dX6_lickByDraws_46 : decode cX6_lickByDraws 46 = .ok (.pop, 1) := by decide +kernel
theorem dX6_lickByDraws_47 : decode cX6_lickByDraws 47 = .ok (.return_, 1) := by decide +kernel
theorem dX6_tryHours_0 : decode cX6_tryHours 0 = .ok (.iconst 0, 1) := by decide +kernel
theorem dX6_tryHours_1 : decode cX6_tryHours 1 = .ok (.istore_n 2, 1) := by decide +kernel
theorem dX6_tryHours_2 : decode cX6_tryHours 2 = .ok (.iconst 0, 1) := by decide +kernel
theorem dX6_tryHours_3 : decode cX6_tryHours 3 = .ok (.istore_n 3, 1) := by decide +kernel
theorem dX6_tryHours_4 : decode cX6_tryHours 4 = .ok (.iload_n 3, 1) := by decide +kernel
theorem dX6_tryHours_5 : decode cX6_tryHours 5 = .ok (.bipush 6, 2) := by decide +kernel
theorem dX6_tryHours_7 : decode cX6_tryHours 7 = .ok (.if_icmp .ge 16, 3) := by decide +kernel
theorem dX6_tryHours_10 : decode cX6_tryHours 10 = .ok (.aload_n 0, 1) := by decide +kernel
theorem dX6_tryHours_11 : decode cX6_tryHours 11 = .ok (.getfield 36, 3) := by decide +kernel
theorem dX6_tryHours_14 : decode cX6_tryHours 14 = .ok (.iload_n 3, 1) := by decide +kernel
theorem dX6_tryHours_15 : decode cX6_tryHours 15 = .ok (.iconst 0, 1) := by decide +kernel
theorem dX6_tryHours_16 : decode cX6_tryHours 16 = .ok (.iastore, 1) := by decide +kernel
theorem dX6_tryHours_17 : decode cX6_tryHours 17 = .ok (.iinc 3 1, 3) := by decide +kernel
theorem dX6_tryHours_20 : decode cX6_tryHours 20 = .ok (.goto (-16), 3) := by decide +kernel
theorem dX6_tryHours_23 : decode cX6_tryHours 23 = .ok (.iconst 0, 1) := by decide +kernel
theorem dX6_tryHours_24 : decode cX6_tryHours 24 = .ok (.istore_n 3, 1) := by decide +kernel
theorem dX6_tryHours_25 : decode cX6_tryHours 25 = .ok (.iload_n 3, 1) := by decide +kernel
theorem dX6_tryHours_26 : decode cX6_tryHours 26 = .ok (.iload_n 1, 1) := by decide +kernel
theorem dX6_tryHours_27 : decode cX6_tryHours 27 = .ok (.if_icmp .ge 92, 3) := by decide +kernel
theorem dX6_tryHours_30 : decode cX6_tryHours 30 = .ok (.iload_n 2, 1) := by decide +kernel
theorem dX6_tryHours_31 : decode cX6_tryHours 31 = .ok (.aload_n 0, 1) := by decide +kernel
theorem dX6_tryHours_32 : decode cX6_tryHours 32 = .ok (.getfield 33, 3) := by decide +kernel
theorem dX6_tryHours_35 : decode cX6_tryHours 35 = .ok (.aload_n 0, 1) := by decide +kernel
theorem dX6_tryHours_36 : decode cX6_tryHours 36 = .ok (.getfield 19, 3) := by decide +kernel
theorem dX6_tryHours_39 : decode cX6_tryHours 39 = .ok (.aload_n 0, 1) := by decide +kernel
theorem dX6_tryHours_40 : decode cX6_tryHours 40 = .ok (.getfield 43, 3) := by decide +kernel
theorem dX6_tryHours_43 : decode cX6_tryHours 43 = .ok (.aload_n 0, 1) := by decide +kernel
theorem dX6_tryHours_44 : decode cX6_tryHours 44 = .ok (.getfield 19, 3) := by decide +kernel
theorem dX6_tryHours_47 : decode cX6_tryHours 47 = .ok (.aload_n 0, 1) := by decide +kernel
theorem dX6_tryHours_48 : decode cX6_tryHours 48 = .ok (.getfield 33, 3) := by decide +kernel
theorem dX6_tryHours_51 : decode cX6_tryHours 51 = .ok (.getfield 127, 3) := by decide +kernel
theorem dX6_tryHours_54 : decode cX6_tryHours 54 = .ok (.invokevirtual 178, 3) := by decide +kernel
theorem dX6_tryHours_57 : decode cX6_tryHours 57 = .ok (.aload_n 0, 1) := by decide +kernel
theorem dX6_tryHours_58 : decode cX6_tryHours 58 = .ok (.getfield 19, 3) := by decide +kernel
theorem dX6_tryHours_61 : decode cX6_tryHours 61 = .ok (.aload_n 0, 1) := by decide +kernel
theorem dX6_tryHours_62 : decode cX6_tryHours 62 = .ok (.getfield 33, 3) := by decide +kernel
theorem dX6_tryHours_65 : decode cX6_tryHours 65 = .ok (.getfield 127, 3) := by decide +kernel
theorem dX6_tryHours_68 : decode cX6_tryHours 68 = .ok (.invokevirtual 181, 3) := by decide +kernel
theorem dX6_tryHours_71 : decode cX6_tryHours 71 = .ok (.iconst 0, 1) := by decide +kernel
theorem dX6_tryHours_72 : decode cX6_tryHours 72 = .ok (.invokevirtual 215, 3) := by decide +kernel
theorem dX6_tryHours_75 : decode cX6_tryHours 75 = .ok (.iadd, 1) := by decide +kernel
theorem dX6_tryHours_76 : decode cX6_tryHours 76 = .ok (.istore_n 2, 1) := by decide +kernel
theorem dX6_tryHours_77 : decode cX6_tryHours 77 = .ok (.iconst 0, 1) := by decide +kernel
theorem dX6_tryHours_78 : decode cX6_tryHours 78 = .ok (.istore 4, 2) := by decide +kernel
theorem dX6_tryHours_80 : decode cX6_tryHours 80 = .ok (.iload 4, 2) := by decide +kernel
theorem dX6_tryHours_82 : decode cX6_tryHours 82 = .ok (.bipush 6, 2) := by decide +kernel
theorem dX6_tryHours_84 : decode cX6_tryHours 84 = .ok (.if_icmp .ge 29, 3) := by decide +kernel
theorem dX6_tryHours_87 : decode cX6_tryHours 87 = .ok (.aload_n 0, 1) := by decide +kernel
theorem dX6_tryHours_88 : decode cX6_tryHours 88 = .ok (.getfield 36, 3) := by decide +kernel
theorem dX6_tryHours_91 : decode cX6_tryHours 91 = .ok (.iload 4, 2) := by decide +kernel
theorem dX6_tryHours_93 : decode cX6_tryHours 93 = .ok (.dup2, 1) := by decide +kernel
theorem dX6_tryHours_94 : decode cX6_tryHours 94 = .ok (.iaload, 1) := by decide +kernel
theorem dX6_tryHours_95 : decode cX6_tryHours 95 = .ok (.aload_n 0, 1) := by decide +kernel
theorem dX6_tryHours_96 : decode cX6_tryHours 96 = .ok (.getfield 43, 3) := by decide +kernel
theorem dX6_tryHours_99 : decode cX6_tryHours 99 = .ok (.getfield 256, 3) := by decide +kernel
theorem dX6_tryHours_102 : decode cX6_tryHours 102 = .ok (.iload 4, 2) := by decide +kernel
theorem dX6_tryHours_104 : decode cX6_tryHours 104 = .ok (.iaload, 1) := by decide +kernel
theorem dX6_tryHours_105 : decode cX6_tryHours 105 = .ok (.iadd, 1) := by decide +kernel
theorem dX6_tryHours_106 : decode cX6_tryHours 106 = .ok (.iastore, 1) := by decide +kernel
theorem dX6_tryHours_107 : decode cX6_tryHours 107 = .ok (.iinc 4 1, 3) := by decide +kernel
theorem dX6_tryHours_110 : decode cX6_tryHours 110 = .ok (.goto (-30), 3) := by decide +kernel
theorem dX6_tryHours_113 : decode cX6_tryHours 113 = .ok (.iinc 3 1, 3) := by decide +kernel
theorem dX6_tryHours_116 : decode cX6_tryHours 116 = .ok (.goto (-91), 3) := by decide +kernel
theorem dX6_tryHours_119 : decode cX6_tryHours 119 = .ok (.iload_n 2, 1) := by decide +kernel
theorem dX6_tryHours_120 : decode cX6_tryHours 120 = .ok (.ireturn, 1) := by decide +kernel
theorem dX6_blowNext_0 : decode cX6_blowNext 0 = .ok (.aload_n 0, 1) := by decide +kernel
theorem dX6_blowNext_1 : decode cX6_blowNext 1 = .ok (.getfield 29, 3) := by decide +kernel
theorem dX6_blowNext_4 : decode cX6_blowNext 4 = .ok (.aload_n 0, 1) := by decide +kernel
theorem dX6_blowNext_5 : decode cX6_blowNext 5 = .ok (.getfield 19, 3) := by decide +kernel
theorem dX6_blowNext_8 : decode cX6_blowNext 8 = .ok (.aload_n 0, 1) := by decide +kernel
theorem dX6_blowNext_9 : decode cX6_blowNext 9 = .ok (.getfield 19, 3) := by decide +kernel
theorem dX6_blowNext_12 : decode cX6_blowNext 12 = .ok (.aload_n 0, 1) := by decide +kernel
theorem dX6_blowNext_13 : decode cX6_blowNext 13 = .ok (.getfield 29, 3) := by decide +kernel
theorem dX6_blowNext_16 : decode cX6_blowNext 16 = .ok (.getfield 127, 3) := by decide +kernel
theorem dX6_blowNext_19 : decode cX6_blowNext 19 = .ok (.invokevirtual 181, 3) := by decide +kernel
theorem dX6_blowNext_22 : decode cX6_blowNext 22 = .ok (.invokevirtual 333, 3) := by decide +kernel
theorem dX6_blowNext_25 : decode cX6_blowNext 25 = .ok (.istore_n 2, 1) := by decide +kernel
theorem dX6_blowNext_26 : decode cX6_blowNext 26 = .ok (.aload_n 0, 1) := by decide +kernel
theorem dX6_blowNext_27 : decode cX6_blowNext 27 = .ok (.getfield 43, 3) := by decide +kernel
theorem dX6_blowNext_30 : decode cX6_blowNext 30 = .ok (.aload_n 0, 1) := by decide +kernel
theorem dX6_blowNext_31 : decode cX6_blowNext 31 = .ok (.getfield 29, 3) := by decide +kernel
theorem dX6_blowNext_34 : decode cX6_blowNext 34 = .ok (.aload_n 0, 1) := by decide +kernel
theorem dX6_blowNext_35 : decode cX6_blowNext 35 = .ok (.getfield 19, 3) := by decide +kernel
theorem dX6_blowNext_38 : decode cX6_blowNext 38 = .ok (.getfield 111, 3) := by decide +kernel
theorem dX6_blowNext_41 : decode cX6_blowNext 41 = .ok (.iload_n 1, 1) := by decide +kernel
theorem dX6_blowNext_42 : decode cX6_blowNext 42 = .ok (.aload_n 0, 1) := by decide +kernel
theorem dX6_blowNext_43 : decode cX6_blowNext 43 = .ok (.getfield 19, 3) := by decide +kernel
theorem dX6_blowNext_46 : decode cX6_blowNext 46 = .ok (.aload_n 0, 1) := by decide +kernel
theorem dX6_blowNext_47 : decode cX6_blowNext 47 = .ok (.getfield 29, 3) := by decide +kernel
theorem dX6_blowNext_50 : decode cX6_blowNext 50 = .ok (.getfield 127, 3) := by decide +kernel
theorem dX6_blowNext_53 : decode cX6_blowNext 53 = .ok (.invokevirtual 178, 3) := by decide +kernel
theorem dX6_blowNext_56 : decode cX6_blowNext 56 = .ok (.iload_n 2, 1) := by decide +kernel
theorem dX6_blowNext_57 : decode cX6_blowNext 57 = .ok (.invokevirtual 283, 3) := by decide +kernel
theorem dX6_blowNext_60 : decode cX6_blowNext 60 = .ok (.return_, 1) := by decide +kernel
theorem dX6_takenOf_0 : decode cX6_takenOf 0 = .ok (.aload_n 0, 1) := by decide +kernel
theorem dX6_takenOf_1 : decode cX6_takenOf 1 = .ok (.getfield 43, 3) := by decide +kernel
theorem dX6_takenOf_4 : decode cX6_takenOf 4 = .ok (.aload_n 0, 1) := by decide +kernel
theorem dX6_takenOf_5 : decode cX6_takenOf 5 = .ok (.getfield 29, 3) := by decide +kernel
theorem dX6_takenOf_8 : decode cX6_takenOf 8 = .ok (.aload_n 0, 1) := by decide +kernel
theorem dX6_takenOf_9 : decode cX6_takenOf 9 = .ok (.getfield 19, 3) := by decide +kernel
theorem dX6_takenOf_12 : decode cX6_takenOf 12 = .ok (.getfield 111, 3) := by decide +kernel
theorem dX6_takenOf_15 : decode cX6_takenOf 15 = .ok (.aload_n 0, 1) := by decide +kernel
theorem dX6_takenOf_16 : decode cX6_takenOf 16 = .ok (.getfield 29, 3) := by decide +kernel
theorem dX6_takenOf_19 : decode cX6_takenOf 19 = .ok (.aload_n 0, 1) := by decide +kernel
theorem dX6_takenOf_20 : decode cX6_takenOf 20 = .ok (.getfield 19, 3) := by decide +kernel
theorem dX6_takenOf_23 : decode cX6_takenOf 23 = .ok (.invokevirtual 134, 3) := by decide +kernel
theorem dX6_takenOf_26 : decode cX6_takenOf 26 = .ok (.iload_n 2, 1) := by decide +kernel
theorem dX6_takenOf_27 : decode cX6_takenOf 27 = .ok (.iload_n 3, 1) := by decide +kernel
theorem dX6_takenOf_28 : decode cX6_takenOf 28 = .ok (.invokevirtual 283, 3) := by decide +kernel
theorem dX6_takenOf_31 : decode cX6_takenOf 31 = .ok (.aload_n 0, 1) := by decide +kernel
theorem dX6_takenOf_32 : decode cX6_takenOf 32 = .ok (.getfield 43, 3) := by decide +kernel
theorem dX6_takenOf_35 : decode cX6_takenOf 35 = .ok (.getfield 256, 3) := by decide +kernel
theorem dX6_takenOf_38 : decode cX6_takenOf 38 = .ok (.iload_n 1, 1) := by decide +kernel
theorem dX6_takenOf_39 : decode cX6_takenOf 39 = .ok (.invokestatic 154, 3) := by decide +kernel
theorem dX6_takenOf_42 : decode cX6_takenOf 42 = .ok (.ireturn, 1) := by decide +kernel
theorem dX6_fitting_0 : decode cX6_fitting 0 = .ok (.lconst 0, 1) := by decide +kernel
theorem dX6_fitting_1 : decode cX6_fitting 1 = .ok (.lstore_n 1, 1) := by decide +kernel
theorem dX6_fitting_2 : decode cX6_fitting 2 = .ok (.iconst 0, 1) := by decide +kernel
theorem dX6_fitting_3 : decode cX6_fitting 3 = .ok (.istore_n 3, 1) := by decide +kernel
theorem dX6_fitting_4 : decode cX6_fitting 4 = .ok (.iload_n 3, 1) := by decide +kernel
theorem dX6_fitting_5 : decode cX6_fitting 5 = .ok (.bipush 40, 2) := by decide +kernel
theorem dX6_fitting_7 : decode cX6_fitting 7 = .ok (.if_icmp .gt 23, 3) := by decide +kernel
theorem dX6_fitting_10 : decode cX6_fitting 10 = .ok (.aload_n 0, 1) := by decide +kernel
theorem dX6_fitting_11 : decode cX6_fitting 11 = .ok (.iload_n 3, 1) := by decide +kernel
theorem dX6_fitting_12 : decode cX6_fitting 12 = .ok (.invokevirtual 336, 3) := by decide +kernel
theorem dX6_fitting_15 : decode cX6_fitting 15 = .ok (.ifCond .eq 9, 3) := by decide +kernel
theorem dX6_fitting_18 : decode cX6_fitting 18 = .ok (.lload_n 1, 1) := by decide +kernel
theorem dX6_fitting_19 : decode cX6_fitting 19 = .ok (.lconst 1, 1) := by decide +kernel
theorem dX6_fitting_20 : decode cX6_fitting 20 = .ok (.iload_n 3, 1) := by decide +kernel
theorem dX6_fitting_21 : decode cX6_fitting 21 = .ok (.lshl, 1) := by decide +kernel
theorem dX6_fitting_22 : decode cX6_fitting 22 = .ok (.lor, 1) := by decide +kernel
theorem dX6_fitting_23 : decode cX6_fitting 23 = .ok (.lstore_n 1, 1) := by decide +kernel
theorem dX6_fitting_24 : decode cX6_fitting 24 = .ok (.iinc 3 1, 3) := by decide +kernel
theorem dX6_fitting_27 : decode cX6_fitting 27 = .ok (.goto (-23), 3) := by decide +kernel
theorem dX6_fitting_30 : decode cX6_fitting 30 = .ok (.lload_n 1, 1) := by decide +kernel
theorem dX6_fitting_31 : decode cX6_fitting 31 = .ok (.lreturn, 1) := by decide +kernel
theorem dX6_fitsAll_0 : decode cX6_fitsAll 0 = .ok (.iconst 0, 1) := by decide +kernel
theorem dX6_fitsAll_1 : decode cX6_fitsAll 1 = .ok (.istore_n 2, 1) := by decide +kernel
theorem dX6_fitsAll_2 : decode cX6_fitsAll 2 = .ok (.iload_n 2, 1) := by decide +kernel
theorem dX6_fitsAll_3 : decode cX6_fitsAll 3 = .ok (.aload_n 0, 1) := by decide +kernel
theorem dX6_fitsAll_4 : decode cX6_fitsAll 4 = .ok (.getfield 70, 3) := by decide +kernel
theorem dX6_fitsAll_7 : decode cX6_fitsAll 7 = .ok (.getfield 104, 3) := by decide +kernel
theorem dX6_fitsAll_10 : decode cX6_fitsAll 10 = .ok (.if_icmp .ge 60, 3) := by decide +kernel
theorem dX6_fitsAll_13 : decode cX6_fitsAll 13 = .ok (.iload_n 2, 1) := by decide +kernel
theorem dX6_fitsAll_14 : decode cX6_fitsAll 14 = .ok (.bipush 6, 2) := by decide +kernel
theorem dX6_fitsAll_16 : decode cX6_fitsAll 16 = .ok (.if_icmp .ge 54, 3) := by decide +kernel
theorem dX6_fitsAll_19 : decode cX6_fitsAll 19 = .ok (.aload_n 0, 1) := by decide +kernel
theorem dX6_fitsAll_20 : decode cX6_fitsAll 20 = .ok (.aload_n 0, 1) := by decide +kernel
theorem dX6_fitsAll_21 : decode cX6_fitsAll 21 = .ok (.getfield 70, 3) := by decide +kernel
theorem dX6_fitsAll_24 : decode cX6_fitsAll 24 = .ok (.getfield 317, 3) := by decide +kernel
theorem dX6_fitsAll_27 : decode cX6_fitsAll 27 = .ok (.iload_n 2, 1) := by decide +kernel
theorem dX6_fitsAll_28 : decode cX6_fitsAll 28 = .ok (.invokestatic 154, 3) := by decide +kernel
theorem dX6_fitsAll_31 : decode cX6_fitsAll 31 = .ok (.aload_n 0, 1) := by decide +kernel
theorem dX6_fitsAll_32 : decode cX6_fitsAll 32 = .ok (.getfield 70, 3) := by decide +kernel
theorem dX6_fitsAll_35 : decode cX6_fitsAll 35 = .ok (.getfield 339, 3) := by decide +kernel
theorem dX6_fitsAll_38 : decode cX6_fitsAll 38 = .ok (.iload_n 2, 1) := by decide +kernel
theorem dX6_fitsAll_39 : decode cX6_fitsAll 39 = .ok (.invokestatic 154, 3) := by decide +kernel
theorem dX6_fitsAll_42 : decode cX6_fitsAll 42 = .ok (.iload_n 1, 1) := by decide +kernel
theorem dX6_fitsAll_43 : decode cX6_fitsAll 43 = .ok (.invokevirtual 314, 3) := by decide +kernel
theorem dX6_fitsAll_46 : decode cX6_fitsAll 46 = .ok (.istore_n 3, 1) := by decide +kernel
theorem dX6_fitsAll_47 : decode cX6_fitsAll 47 = .ok (.iload_n 3, 1) := by decide +kernel
theorem dX6_fitsAll_48 : decode cX6_fitsAll 48 = .ok (.aload_n 0, 1) := by decide +kernel
theorem dX6_fitsAll_49 : decode cX6_fitsAll 49 = .ok (.getfield 70, 3) := by decide +kernel
theorem dX6_fitsAll_52 : decode cX6_fitsAll 52 = .ok (.getfield 319, 3) := by decide +kernel
theorem dX6_fitsAll_55 : decode cX6_fitsAll 55 = .ok (.iload_n 2, 1) := by decide +kernel
theorem dX6_fitsAll_56 : decode cX6_fitsAll 56 = .ok (.invokestatic 154, 3) := by decide +kernel
theorem dX6_fitsAll_59 : decode cX6_fitsAll 59 = .ok (.if_icmp .eq 5, 3) := by decide +kernel
theorem dX6_fitsAll_62 : decode cX6_fitsAll 62 = .ok (.iconst 0, 1) := by decide +kernel
theorem dX6_fitsAll_63 : decode cX6_fitsAll 63 = .ok (.ireturn, 1) := by decide +kernel
theorem dX6_fitsAll_64 : decode cX6_fitsAll 64 = .ok (.iinc 2 1, 3) := by decide +kernel
theorem dX6_fitsAll_67 : decode cX6_fitsAll 67 = .ok (.goto (-65), 3) := by decide +kernel
theorem dX6_fitsAll_70 : decode cX6_fitsAll 70 = .ok (.iconst 1, 1) := by decide +kernel
theorem dX6_fitsAll_71 : decode cX6_fitsAll 71 = .ok (.ireturn, 1) := by decide +kernel
theorem dX6_greatestPart_0 : decode cX6_greatestPart 0 = .ok (.iconst 0, 1) := by decide +kernel
theorem dX6_greatestPart_1 : decode cX6_greatestPart 1 = .ok (.istore 5, 2) := by decide +kernel
theorem dX6_greatestPart_3 : decode cX6_greatestPart 3 = .ok (.iload 5, 2) := by decide +kernel
theorem dX6_greatestPart_5 : decode cX6_greatestPart 5 = .ok (.bipush 40, 2) := by decide +kernel
theorem dX6_greatestPart_7 : decode cX6_greatestPart 7 = .ok (.if_icmp .gt 17, 3) := by decide +kernel
theorem dX6_greatestPart_10 : decode cX6_greatestPart 10 = .ok (.aload_n 0, 1) := by decide +kernel
theorem dX6_greatestPart_11 : decode cX6_greatestPart 11 = .ok (.getfield 77, 3) := by decide +kernel
theorem dX6_greatestPart_14 : decode cX6_greatestPart 14 = .ok (.iload 5, 2) := by decide +kernel
theorem dX6_greatestPart_16 : decode cX6_greatestPart 16 = .ok (.iconst 0, 1) := by decide +kernel
theorem dX6_greatestPart_17 : decode cX6_greatestPart 17 = .ok (.iastore, 1) := by decide +kernel
theorem dX6_greatestPart_18 : decode cX6_greatestPart 18 = .ok (.iinc 5 1, 3) := by decide +kernel
theorem dX6_greatestPart_21 : decode cX6_greatestPart 21 = .ok (.goto (-18), 3) := by decide +kernel
theorem dX6_greatestPart_24 : decode cX6_greatestPart 24 = .ok (.iconst 0, 1) := by decide +kernel
theorem dX6_greatestPart_25 : decode cX6_greatestPart 25 = .ok (.istore 5, 2) := by decide +kernel
theorem dX6_greatestPart_27 : decode cX6_greatestPart 27 = .ok (.iconst 0, 1) := by decide +kernel
theorem dX6_greatestPart_28 : decode cX6_greatestPart 28 = .ok (.istore 6, 2) := by decide +kernel
theorem dX6_greatestPart_30 : decode cX6_greatestPart 30 = .ok (.iload 6, 2) := by decide +kernel
theorem dX6_greatestPart_32 : decode cX6_greatestPart 32 = .ok (.bipush 40, 2) := by decide +kernel
theorem dX6_greatestPart_34 : decode cX6_greatestPart 34 = .ok (.if_icmp .gt 67, 3) := by decide +kernel
theorem dX6_greatestPart_37 : decode cX6_greatestPart 37 = .ok (.lload_n 1, 1) := by decide +kernel
theorem dX6_greatestPart_38 : decode cX6_greatestPart 38 = .ok (.iload 6, 2) := by decide +kernel
theorem dX6_greatestPart_40 : decode cX6_greatestPart 40 = .ok (.lshr, 1) := by decide +kernel
theorem dX6_greatestPart_41 : decode cX6_greatestPart 41 = .ok (.lconst 1, 1) := by decide +kernel
theorem dX6_greatestPart_42 : decode cX6_greatestPart 42 = .ok (.land, 1) := by decide +kernel
theorem dX6_greatestPart_43 : decode cX6_greatestPart 43 = .ok (.lconst 0, 1) := by decide +kernel
theorem dX6_greatestPart_44 : decode cX6_greatestPart 44 = .ok (.lcmp, 1) := by decide +kernel
theorem dX6_greatestPart_45 : decode cX6_greatestPart 45 = .ok (.ifCond .ne 6, 3) := by decide +kernel
theorem dX6_greatestPart_48 : decode cX6_greatestPart 48 = .ok (.goto 47, 3) := by decide +kernel
theorem dX6_greatestPart_51 : decode cX6_greatestPart 51 = .ok (.aload_n 0, 1) := by decide +kernel
theorem dX6_greatestPart_52 : decode cX6_greatestPart 52 = .ok (.iload_n 3, 1) := by decide +kernel
theorem dX6_greatestPart_53 : decode cX6_greatestPart 53 = .ok (.iload 4, 2) := by decide +kernel
theorem dX6_greatestPart_55 : decode cX6_greatestPart 55 = .ok (.iload 6, 2) := by decide +kernel
theorem dX6_greatestPart_57 : decode cX6_greatestPart 57 = .ok (.invokevirtual 314, 3) := by decide +kernel
theorem dX6_greatestPart_60 : decode cX6_greatestPart 60 = .ok (.istore 7, 2) := by decide +kernel
theorem dX6_greatestPart_62 : decode cX6_greatestPart 62 = .ok (.aload_n 0, 1) := by decide +kernel
theorem dX6_greatestPart_63 : decode cX6_greatestPart 63 = .ok (.getfield 77, 3) := by decide +kernel
theorem dX6_greatestPart_66 : decode cX6_greatestPart 66 = .ok (.iload 7, 2) := by decide +kernel
theorem dX6_greatestPart_68 : decode cX6_greatestPart 68 = .ok (.invokestatic 154, 3) := by decide +kernel
theorem dX6_greatestPart_71 : decode cX6_greatestPart 71 = .ok (.iconst 1, 1) := by decide +kernel
theorem dX6_greatestPart_72 : decode cX6_greatestPart 72 = .ok (.iadd, 1) := by decide +kernel
theorem dX6_greatestPart_73 : decode cX6_greatestPart 73 = .ok (.istore 8, 2) := by decide +kernel
theorem dX6_greatestPart_75 : decode cX6_greatestPart 75 = .ok (.aload_n 0, 1) := by decide +kernel
theorem dX6_greatestPart_76 : decode cX6_greatestPart 76 = .ok (.getfield 77, 3) := by decide +kernel
theorem dX6_greatestPart_79 : decode cX6_greatestPart 79 = .ok (.iload 7, 2) := by decide +kernel
theorem dX6_greatestPart_81 : decode cX6_greatestPart 81 = .ok (.iload 8, 2) := by decide +kernel
theorem dX6_greatestPart_83 : decode cX6_greatestPart 83 = .ok (.invokestatic 227, 3) := by decide +kernel
theorem dX6_greatestPart_86 : decode cX6_greatestPart 86 = .ok (.iload 5, 2) := by decide +kernel
theorem dX6_greatestPart_88 : decode cX6_greatestPart 88 = .ok (.iload 8, 2) := by decide +kernel
theorem dX6_greatestPart_90 : decode cX6_greatestPart 90 = .ok (.invokestatic 342, 3) := by decide +kernel
theorem dX6_greatestPart_93 : decode cX6_greatestPart 93 = .ok (.istore 5, 2) := by decide +kernel
theorem dX6_greatestPart_95 : decode cX6_greatestPart 95 = .ok (.iinc 6 1, 3) := by decide +kernel
theorem dX6_greatestPart_98 : decode cX6_greatestPart 98 = .ok (.goto (-68), 3) := by decide +kernel
theorem dX6_greatestPart_101 : decode cX6_greatestPart 101 = .ok (.iload 5, 2) := by decide +kernel
theorem dX6_greatestPart_103 : decode cX6_greatestPart 103 = .ok (.ireturn, 1) := by decide +kernel
theorem dJ6_bitCount_0f7a4_0 : decode cJ6_bitCount_0f7a4 0 = .ok (.iload_n 0, 1) := by decide +kernel
theorem dJ6_bitCount_0f7a4_1 : decode cJ6_bitCount_0f7a4 1 = .ok (.iload_n 0, 1) := by decide +kernel
theorem dJ6_bitCount_0f7a4_2 : decode cJ6_bitCount_0f7a4 2 = .ok (.iconst 1, 1) := by decide +kernel
theorem dJ6_bitCount_0f7a4_3 : decode cJ6_bitCount_0f7a4 3 = .ok (.iushr, 1) := by decide +kernel
theorem dJ6_bitCount_0f7a4_4 : decode cJ6_bitCount_0f7a4 4 = .ok (.ldc_w 265, 3) := by decide +kernel
theorem dJ6_bitCount_0f7a4_7 : decode cJ6_bitCount_0f7a4 7 = .ok (.iand, 1) := by decide +kernel
theorem dJ6_bitCount_0f7a4_8 : decode cJ6_bitCount_0f7a4 8 = .ok (.isub, 1) := by decide +kernel
theorem dJ6_bitCount_0f7a4_9 : decode cJ6_bitCount_0f7a4 9 = .ok (.istore_n 0, 1) := by decide +kernel
theorem dJ6_bitCount_0f7a4_10 : decode cJ6_bitCount_0f7a4 10 = .ok (.iload_n 0, 1) := by decide +kernel
theorem dJ6_bitCount_0f7a4_11 : decode cJ6_bitCount_0f7a4 11 = .ok (.ldc_w 266, 3) := by decide +kernel
theorem dJ6_bitCount_0f7a4_14 : decode cJ6_bitCount_0f7a4 14 = .ok (.iand, 1) := by decide +kernel
theorem dJ6_bitCount_0f7a4_15 : decode cJ6_bitCount_0f7a4 15 = .ok (.iload_n 0, 1) := by decide +kernel
theorem dJ6_bitCount_0f7a4_16 : decode cJ6_bitCount_0f7a4 16 = .ok (.iconst 2, 1) := by decide +kernel
theorem dJ6_bitCount_0f7a4_17 : decode cJ6_bitCount_0f7a4 17 = .ok (.iushr, 1) := by decide +kernel
theorem dJ6_bitCount_0f7a4_18 : decode cJ6_bitCount_0f7a4 18 = .ok (.ldc_w 266, 3) := by decide +kernel
theorem dJ6_bitCount_0f7a4_21 : decode cJ6_bitCount_0f7a4 21 = .ok (.iand, 1) := by decide +kernel
theorem dJ6_bitCount_0f7a4_22 : decode cJ6_bitCount_0f7a4 22 = .ok (.iadd, 1) := by decide +kernel
theorem dJ6_bitCount_0f7a4_23 : decode cJ6_bitCount_0f7a4 23 = .ok (.istore_n 0, 1) := by decide +kernel
theorem dJ6_bitCount_0f7a4_24 : decode cJ6_bitCount_0f7a4 24 = .ok (.iload_n 0, 1) := by decide +kernel
theorem dJ6_bitCount_0f7a4_25 : decode cJ6_bitCount_0f7a4 25 = .ok (.iload_n 0, 1) := by decide +kernel
theorem dJ6_bitCount_0f7a4_26 : decode cJ6_bitCount_0f7a4 26 = .ok (.iconst 4, 1) := by decide +kernel
theorem dJ6_bitCount_0f7a4_27 : decode cJ6_bitCount_0f7a4 27 = .ok (.iushr, 1) := by decide +kernel
theorem dJ6_bitCount_0f7a4_28 : decode cJ6_bitCount_0f7a4 28 = .ok (.iadd, 1) := by decide +kernel
theorem dJ6_bitCount_0f7a4_29 : decode cJ6_bitCount_0f7a4 29 = .ok (.ldc_w 267, 3) := by decide +kernel
theorem dJ6_bitCount_0f7a4_32 : decode cJ6_bitCount_0f7a4 32 = .ok (.iand, 1) := by decide +kernel
theorem dJ6_bitCount_0f7a4_33 : decode cJ6_bitCount_0f7a4 33 = .ok (.istore_n 0, 1) := by decide +kernel
theorem dJ6_bitCount_0f7a4_34 : decode cJ6_bitCount_0f7a4 34 = .ok (.iload_n 0, 1) := by decide +kernel
theorem dJ6_bitCount_0f7a4_35 : decode cJ6_bitCount_0f7a4 35 = .ok (.iload_n 0, 1) := by decide +kernel
theorem dJ6_bitCount_0f7a4_36 : decode cJ6_bitCount_0f7a4 36 = .ok (.bipush 8, 2) := by decide +kernel
theorem dJ6_bitCount_0f7a4_38 : decode cJ6_bitCount_0f7a4 38 = .ok (.iushr, 1) := by decide +kernel
theorem dJ6_bitCount_0f7a4_39 : decode cJ6_bitCount_0f7a4 39 = .ok (.iadd, 1) := by decide +kernel
theorem dJ6_bitCount_0f7a4_40 : decode cJ6_bitCount_0f7a4 40 = .ok (.istore_n 0, 1) := by decide +kernel
theorem dJ6_bitCount_0f7a4_41 : decode cJ6_bitCount_0f7a4 41 = .ok (.iload_n 0, 1) := by decide +kernel
theorem dJ6_bitCount_0f7a4_42 : decode cJ6_bitCount_0f7a4 42 = .ok (.iload_n 0, 1) := by decide +kernel
theorem dJ6_bitCount_0f7a4_43 : decode cJ6_bitCount_0f7a4 43 = .ok (.bipush 16, 2) := by decide +kernel
theorem dJ6_bitCount_0f7a4_45 : decode cJ6_bitCount_0f7a4 45 = .ok (.iushr, 1) := by decide +kernel
theorem dJ6_bitCount_0f7a4_46 : decode cJ6_bitCount_0f7a4 46 = .ok (.iadd, 1) := by decide +kernel
theorem dJ6_bitCount_0f7a4_47 : decode cJ6_bitCount_0f7a4 47 = .ok (.istore_n 0, 1) := by decide +kernel
theorem dJ6_bitCount_0f7a4_48 : decode cJ6_bitCount_0f7a4 48 = .ok (.iload_n 0, 1) := by decide +kernel
theorem dJ6_bitCount_0f7a4_49 : decode cJ6_bitCount_0f7a4 49 = .ok (.bipush 63, 2) := by decide +kernel
theorem dJ6_bitCount_0f7a4_51 : decode cJ6_bitCount_0f7a4 51 = .ok (.iand, 1) := by decide +kernel
theorem dJ6_bitCount_0f7a4_52 : decode cJ6_bitCount_0f7a4 52 = .ok (.ireturn, 1) := by decide +kernel
theorem dJ13_bitCount_95d88_0 : decode cJ13_bitCount_95d88 0 = .ok (.lload_n 0, 1) := by decide +kernel
theorem dJ13_bitCount_95d88_1 : decode cJ13_bitCount_95d88 1 = .ok (.lload_n 0, 1) := by decide +kernel
theorem dJ13_bitCount_95d88_2 : decode cJ13_bitCount_95d88 2 = .ok (.iconst 1, 1) := by decide +kernel
theorem dJ13_bitCount_95d88_3 : decode cJ13_bitCount_95d88 3 = .ok (.lushr, 1) := by decide +kernel
theorem dJ13_bitCount_95d88_4 : decode cJ13_bitCount_95d88 4 = .ok (.ldc2_w 314, 3) := by decide +kernel
theorem dJ13_bitCount_95d88_7 : decode cJ13_bitCount_95d88 7 = .ok (.land, 1) := by decide +kernel
theorem dJ13_bitCount_95d88_8 : decode cJ13_bitCount_95d88 8 = .ok (.lsub, 1) := by decide +kernel
theorem dJ13_bitCount_95d88_9 : decode cJ13_bitCount_95d88 9 = .ok (.lstore_n 0, 1) := by decide +kernel
theorem dJ13_bitCount_95d88_10 : decode cJ13_bitCount_95d88 10 = .ok (.lload_n 0, 1) := by decide +kernel
theorem dJ13_bitCount_95d88_11 : decode cJ13_bitCount_95d88 11 = .ok (.ldc2_w 316, 3) := by decide +kernel
theorem dJ13_bitCount_95d88_14 : decode cJ13_bitCount_95d88 14 = .ok (.land, 1) := by decide +kernel
theorem dJ13_bitCount_95d88_15 : decode cJ13_bitCount_95d88 15 = .ok (.lload_n 0, 1) := by decide +kernel
theorem dJ13_bitCount_95d88_16 : decode cJ13_bitCount_95d88 16 = .ok (.iconst 2, 1) := by decide +kernel
theorem dJ13_bitCount_95d88_17 : decode cJ13_bitCount_95d88 17 = .ok (.lushr, 1) := by decide +kernel
theorem dJ13_bitCount_95d88_18 : decode cJ13_bitCount_95d88 18 = .ok (.ldc2_w 316, 3) := by decide +kernel
theorem dJ13_bitCount_95d88_21 : decode cJ13_bitCount_95d88 21 = .ok (.land, 1) := by decide +kernel
theorem dJ13_bitCount_95d88_22 : decode cJ13_bitCount_95d88 22 = .ok (.ladd, 1) := by decide +kernel
theorem dJ13_bitCount_95d88_23 : decode cJ13_bitCount_95d88 23 = .ok (.lstore_n 0, 1) := by decide +kernel
theorem dJ13_bitCount_95d88_24 : decode cJ13_bitCount_95d88 24 = .ok (.lload_n 0, 1) := by decide +kernel
theorem dJ13_bitCount_95d88_25 : decode cJ13_bitCount_95d88 25 = .ok (.lload_n 0, 1) := by decide +kernel
