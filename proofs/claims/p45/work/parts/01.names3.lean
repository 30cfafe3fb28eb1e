theorem dJ13_bitCount_95d88_26 : decode cJ13_bitCount_95d88 26 = .ok (.iconst 4, 1) := by decide +kernel
theorem dJ13_bitCount_95d88_27 : decode cJ13_bitCount_95d88 27 = .ok (.lushr, 1) := by decide +kernel
theorem dJ13_bitCount_95d88_28 : decode cJ13_bitCount_95d88 28 = .ok (.ladd, 1) := by decide +kernel
theorem dJ13_bitCount_95d88_29 : decode cJ13_bitCount_95d88 29 = .ok (.ldc2_w 318, 3) := by decide +kernel
theorem dJ13_bitCount_95d88_32 : decode cJ13_bitCount_95d88 32 = .ok (.land, 1) := by decide +kernel
theorem dJ13_bitCount_95d88_33 : decode cJ13_bitCount_95d88 33 = .ok (.lstore_n 0, 1) := by decide +kernel
theorem dJ13_bitCount_95d88_34 : decode cJ13_bitCount_95d88 34 = .ok (.lload_n 0, 1) := by decide +kernel
theorem dJ13_bitCount_95d88_35 : decode cJ13_bitCount_95d88 35 = .ok (.lload_n 0, 1) := by decide +kernel
theorem dJ13_bitCount_95d88_36 : decode cJ13_bitCount_95d88 36 = .ok (.bipush 8, 2) := by decide +kernel
theorem dJ13_bitCount_95d88_38 : decode cJ13_bitCount_95d88 38 = .ok (.lushr, 1) := by decide +kernel
theorem dJ13_bitCount_95d88_39 : decode cJ13_bitCount_95d88 39 = .ok (.ladd, 1) := by decide +kernel
theorem dJ13_bitCount_95d88_40 : decode cJ13_bitCount_95d88 40 = .ok (.lstore_n 0, 1) := by decide +kernel
theorem dJ13_bitCount_95d88_41 : decode cJ13_bitCount_95d88 41 = .ok (.lload_n 0, 1) := by decide +kernel
theorem dJ13_bitCount_95d88_42 : decode cJ13_bitCount_95d88 42 = .ok (.lload_n 0, 1) := by decide +kernel
theorem dJ13_bitCount_95d88_43 : decode cJ13_bitCount_95d88 43 = .ok (.bipush 16, 2) := by decide +kernel
theorem dJ13_bitCount_95d88_45 : decode cJ13_bitCount_95d88 45 = .ok (.lushr, 1) := by decide +kernel
theorem dJ13_bitCount_95d88_46 : decode cJ13_bitCount_95d88 46 = .ok (.ladd, 1) := by decide +kernel
theorem dJ13_bitCount_95d88_47 : decode cJ13_bitCount_95d88 47 = .ok (.lstore_n 0, 1) := by decide +kernel
theorem dJ13_bitCount_95d88_48 : decode cJ13_bitCount_95d88 48 = .ok (.lload_n 0, 1) := by decide +kernel
theorem dJ13_bitCount_95d88_49 : decode cJ13_bitCount_95d88 49 = .ok (.lload_n 0, 1) := by decide +kernel
theorem dJ13_bitCount_95d88_50 : decode cJ13_bitCount_95d88 50 = .ok (.bipush 32, 2) := by decide +kernel
theorem dJ13_bitCount_95d88_52 : decode cJ13_bitCount_95d88 52 = .ok (.lushr, 1) := by decide +kernel
theorem dJ13_bitCount_95d88_53 : decode cJ13_bitCount_95d88 53 = .ok (.ladd, 1) := by decide +kernel
theorem dJ13_bitCount_95d88_54 : decode cJ13_bitCount_95d88 54 = .ok (.lstore_n 0, 1) := by decide +kernel
theorem dJ13_bitCount_95d88_55 : decode cJ13_bitCount_95d88 55 = .ok (.lload_n 0, 1) := by decide +kernel
theorem dJ13_bitCount_95d88_56 : decode cJ13_bitCount_95d88 56 = .ok (.l2i, 1) := by decide +kernel
theorem dJ13_bitCount_95d88_57 : decode cJ13_bitCount_95d88 57 = .ok (.bipush 127, 2) := by decide +kernel
theorem dJ13_bitCount_95d88_59 : decode cJ13_bitCount_95d88 59 = .ok (.iand, 1) := by decide +kernel
theorem dJ13_bitCount_95d88_60 : decode cJ13_bitCount_95d88 60 = .ok (.ireturn, 1) := by decide +kernel
theorem dJ9_abs_0f7a4_0 : decode cJ9_abs_0f7a4 0 = .ok (.iload_n 0, 1) := by decide +kernel
theorem dJ9_abs_0f7a4_1 : decode cJ9_abs_0f7a4 1 = .ok (.ifCond .ge 8, 3) := by decide +kernel
theorem dJ9_abs_0f7a4_4 : decode cJ9_abs_0f7a4 4 = .ok (.iload_n 0, 1) := by decide +kernel
theorem dJ9_abs_0f7a4_5 : decode cJ9_abs_0f7a4 5 = .ok (.ineg, 1) := by decide +kernel
theorem dJ9_abs_0f7a4_6 : decode cJ9_abs_0f7a4 6 = .ok (.goto 4, 3) := by decide +kernel
theorem dJ9_abs_0f7a4_9 : decode cJ9_abs_0f7a4 9 = .ok (.iload_n 0, 1) := by decide +kernel
theorem dJ9_abs_0f7a4_10 : decode cJ9_abs_0f7a4 10 = .ok (.ireturn, 1) := by decide +kernel
theorem dJ9_max_7cf53_0 : decode cJ9_max_7cf53 0 = .ok (.iload_n 0, 1) := by decide +kernel
theorem dJ9_max_7cf53_1 : decode cJ9_max_7cf53 1 = .ok (.iload_n 1, 1) := by decide +kernel
theorem dJ9_max_7cf53_2 : decode cJ9_max_7cf53 2 = .ok (.if_icmp .lt 7, 3) := by decide +kernel
theorem dJ9_max_7cf53_5 : decode cJ9_max_7cf53 5 = .ok (.iload_n 0, 1) := by decide +kernel
theorem dJ9_max_7cf53_6 : decode cJ9_max_7cf53 6 = .ok (.goto 4, 3) := by decide +kernel
theorem dJ9_max_7cf53_9 : decode cJ9_max_7cf53 9 = .ok (.iload_n 1, 1) := by decide +kernel
theorem dJ9_max_7cf53_10 : decode cJ9_max_7cf53 10 = .ok (.ireturn, 1) := by decide +kernel
theorem dJ9_min_7cf53_0 : decode cJ9_min_7cf53 0 = .ok (.iload_n 0, 1) := by decide +kernel
theorem dJ9_min_7cf53_1 : decode cJ9_min_7cf53 1 = .ok (.iload_n 1, 1) := by decide +kernel
theorem dJ9_min_7cf53_2 : decode cJ9_min_7cf53 2 = .ok (.if_icmp .gt 7, 3) := by decide +kernel
theorem dJ9_min_7cf53_5 : decode cJ9_min_7cf53 5 = .ok (.iload_n 0, 1) := by decide +kernel
theorem dJ9_min_7cf53_6 : decode cJ9_min_7cf53 6 = .ok (.goto 4, 3) := by decide +kernel
theorem dJ9_min_7cf53_9 : decode cJ9_min_7cf53 9 = .ok (.iload_n 1, 1) := by decide +kernel
theorem dJ9_min_7cf53_10 : decode cJ9_min_7cf53 10 = .ok (.ireturn, 1) := by decide +kernel
theorem dL_cell_0 : decode cL_cell 0 = .ok (.iload_n 1, 1) := by decide +kernel
theorem dL_cell_1 : decode cL_cell 1 = .ok (.aload_n 0, 1) := by decide +kernel
theorem dL_cell_2 : decode cL_cell 2 = .ok (.arraylength, 1) := by decide +kernel
theorem dL_cell_3 : decode cL_cell 3 = .ok (.if_icmp .ge 12, 3) := by decide +kernel
theorem dL_cell_6 : decode cL_cell 6 = .ok (.aload_n 0, 1) := by decide +kernel
theorem dL_cell_7 : decode cL_cell 7 = .ok (.iload_n 1, 1) := by decide +kernel
theorem dL_cell_8 : decode cL_cell 8 = .ok (.iaload, 1) := by decide +kernel
theorem dL_cell_9 : decode cL_cell 9 = .ok (.ldc 7, 2) := by decide +kernel
theorem dL_cell_11 : decode cL_cell 11 = .ok (.iand, 1) := by decide +kernel
theorem dL_cell_12 : decode cL_cell 12 = .ok (.goto 14, 3) := by decide +kernel
theorem dL_cell_15 : decode cL_cell 15 = .ok (.bipush 61, 2) := by decide +kernel
theorem dL_cell_17 : decode cL_cell 17 = .ok (.iload_n 1, 1) := by decide +kernel
theorem dL_cell_18 : decode cL_cell 18 = .ok (.imul, 1) := by decide +kernel
theorem dL_cell_19 : decode cL_cell 19 = .ok (.bipush 7, 2) := by decide +kernel
theorem dL_cell_21 : decode cL_cell 21 = .ok (.iadd, 1) := by decide +kernel
theorem dL_cell_22 : decode cL_cell 22 = .ok (.iload_n 1, 1) := by decide +kernel
theorem dL_cell_23 : decode cL_cell 23 = .ok (.iconst 3, 1) := by decide +kernel
theorem dL_cell_24 : decode cL_cell 24 = .ok (.iadd, 1) := by decide +kernel
theorem dL_cell_25 : decode cL_cell 25 = .ok (.imul, 1) := by decide +kernel
theorem dL_cell_26 : decode cL_cell 26 = .ok (.ireturn, 1) := by decide +kernel
theorem dL_put_0 : decode cL_put 0 = .ok (.iload_n 1, 1) := by decide +kernel
theorem dL_put_1 : decode cL_put 1 = .ok (.ifCond .lt 20, 3) := by decide +kernel
theorem dL_put_4 : decode cL_put 4 = .ok (.aload_n 0, 1) := by decide +kernel
theorem dL_put_5 : decode cL_put 5 = .ok (.iload_n 2, 1) := by decide +kernel
theorem dL_put_6 : decode cL_put 6 = .ok (.invokevirtual 8, 3) := by decide +kernel
theorem dL_put_9 : decode cL_put 9 = .ok (.iload_n 1, 1) := by decide +kernel
theorem dL_put_10 : decode cL_put 10 = .ok (.iconst 1, 1) := by decide +kernel
theorem dL_put_11 : decode cL_put 11 = .ok (.iadd, 1) := by decide +kernel
theorem dL_put_12 : decode cL_put 12 = .ok (.if_icmp .ne 9, 3) := by decide +kernel
theorem dL_put_15 : decode cL_put 15 = .ok (.iload_n 1, 1) := by decide +kernel
theorem dL_put_16 : decode cL_put 16 = .ok (.iconst 1, 1) := by decide +kernel
theorem dL_put_17 : decode cL_put 17 = .ok (.iadd, 1) := by decide +kernel
theorem dL_put_18 : decode cL_put 18 = .ok (.goto 6, 3) := by decide +kernel
theorem dL_put_21 : decode cL_put 21 = .ok (.sipush (-1000), 3) := by decide +kernel
theorem dL_put_24 : decode cL_put 24 = .ok (.ireturn, 1) := by decide +kernel
theorem dL_number_0 : decode cL_number 0 = .ok (.iload_n 2, 1) := by decide +kernel
theorem dL_number_1 : decode cL_number 1 = .ok (.bipush 99, 2) := by decide +kernel
theorem dL_number_3 : decode cL_number 3 = .ok (.if_icmp .le 18, 3) := by decide +kernel
theorem dL_number_6 : decode cL_number 6 = .ok (.aload_n 0, 1) := by decide +kernel
theorem dL_number_7 : decode cL_number 7 = .ok (.iload_n 1, 1) := by decide +kernel
theorem dL_number_8 : decode cL_number 8 = .ok (.bipush 48, 2) := by decide +kernel
theorem dL_number_10 : decode cL_number 10 = .ok (.iload_n 2, 1) := by decide +kernel
theorem dL_number_11 : decode cL_number 11 = .ok (.bipush 100, 2) := by decide +kernel
theorem dL_number_13 : decode cL_number 13 = .ok (.idiv, 1) := by decide +kernel
theorem dL_number_14 : decode cL_number 14 = .ok (.iadd, 1) := by decide +kernel
theorem dL_number_15 : decode cL_number 15 = .ok (.invokestatic 14, 3) := by decide +kernel
theorem dL_number_18 : decode cL_number 18 = .ok (.goto 4, 3) := by decide +kernel
theorem dL_number_21 : decode cL_number 21 = .ok (.iload_n 1, 1) := by decide +kernel
theorem dL_number_22 : decode cL_number 22 = .ok (.istore 4, 2) := by decide +kernel
theorem dL_number_24 : decode cL_number 24 = .ok (.iload_n 2, 1) := by decide +kernel
theorem dL_number_25 : decode cL_number 25 = .ok (.bipush 9, 2) := by decide +kernel
theorem dL_number_27 : decode cL_number 27 = .ok (.if_icmp .le 22, 3) := by decide +kernel
theorem dL_number_30 : decode cL_number 30 = .ok (.aload_n 0, 1) := by decide +kernel
theorem dL_number_31 : decode cL_number 31 = .ok (.iload 4, 2) := by decide +kernel
theorem dL_number_33 : decode cL_number 33 = .ok (.bipush 48, 2) := by decide +kernel
theorem dL_number_35 : decode cL_number 35 = .ok (.iload_n 2, 1) := by decide +kernel
theorem dL_number_36 : decode cL_number 36 = .ok (.bipush 10, 2) := by decide +kernel
theorem dL_number_38 : decode cL_number 38 = .ok (.idiv, 1) := by decide +kernel
theorem dL_number_39 : decode cL_number 39 = .ok (.bipush 10, 2) := by decide +kernel
theorem dL_number_41 : decode cL_number 41 = .ok (.irem, 1) := by decide +kernel
theorem dL_number_42 : decode cL_number 42 = .ok (.iadd, 1) := by decide +kernel
theorem dL_number_43 : decode cL_number 43 = .ok (.invokestatic 14, 3) := by decide +kernel
theorem dL_number_46 : decode cL_number 46 = .ok (.goto 5, 3) := by decide +kernel
theorem dL_number_49 : decode cL_number 49 = .ok (.iload 4, 2) := by decide +kernel
theorem dL_number_51 : decode cL_number 51 = .ok (.istore 4, 2) := by decide +kernel
theorem dL_number_53 : decode cL_number 53 = .ok (.aload_n 0, 1) := by decide +kernel
theorem dL_number_54 : decode cL_number 54 = .ok (.aload_n 0, 1) := by decide +kernel
theorem dL_number_55 : decode cL_number 55 = .ok (.iload 4, 2) := by decide +kernel
theorem dL_number_57 : decode cL_number 57 = .ok (.bipush 48, 2) := by decide +kernel
theorem dL_number_59 : decode cL_number 59 = .ok (.iload_n 2, 1) := by decide +kernel
theorem dL_number_60 : decode cL_number 60 = .ok (.bipush 10, 2) := by decide +kernel
theorem dL_number_62 : decode cL_number 62 = .ok (.irem, 1) := by decide +kernel
theorem dL_number_63 : decode cL_number 63 = .ok (.iadd, 1) := by decide +kernel
theorem dL_number_64 : decode cL_number 64 = .ok (.invokestatic 14, 3) := by decide +kernel
theorem dL_number_67 : decode cL_number 67 = .ok (.iload_n 3, 1) := by decide +kernel
theorem dL_number_68 : decode cL_number 68 = .ok (.invokestatic 14, 3) := by decide +kernel
theorem dL_number_71 : decode cL_number 71 = .ok (.ireturn, 1) := by decide +kernel
theorem dL_numbers_0 : decode cL_numbers 0 = .ok (.iconst 0, 1) := by decide +kernel
theorem dL_numbers_1 : decode cL_numbers 1 = .ok (.istore 5, 2) := by decide +kernel
theorem dL_numbers_3 : decode cL_numbers 3 = .ok (.iload 5, 2) := by decide +kernel
theorem dL_numbers_5 : decode cL_numbers 5 = .ok (.bipush 53, 2) := by decide +kernel
theorem dL_numbers_7 : decode cL_numbers 7 = .ok (.if_icmp .ge 14, 3) := by decide +kernel
theorem dL_numbers_10 : decode cL_numbers 10 = .ok (.aload_n 3, 1) := by decide +kernel
theorem dL_numbers_11 : decode cL_numbers 11 = .ok (.iload 5, 2) := by decide +kernel
theorem dL_numbers_13 : decode cL_numbers 13 = .ok (.iconst 0, 1) := by decide +kernel
theorem dL_numbers_14 : decode cL_numbers 14 = .ok (.iastore, 1) := by decide +kernel
theorem dL_numbers_15 : decode cL_numbers 15 = .ok (.iinc 5 1, 3) := by decide +kernel
theorem dL_numbers_18 : decode cL_numbers 18 = .ok (.goto (-15), 3) := by decide +kernel
theorem dL_numbers_21 : decode cL_numbers 21 = .ok (.iconst 0, 1) := by decide +kernel
theorem dL_numbers_22 : decode cL_numbers 22 = .ok (.istore 5, 2) := by decide +kernel
theorem dL_numbers_24 : decode cL_numbers 24 = .ok (.iload 5, 2) := by decide +kernel
theorem dL_numbers_26 : decode cL_numbers 26 = .ok (.bipush 27, 2) := by decide +kernel
theorem dL_numbers_28 : decode cL_numbers 28 = .ok (.if_icmp .ge 15, 3) := by decide +kernel
theorem dL_numbers_31 : decode cL_numbers 31 = .ok (.aload 4, 2) := by decide +kernel
theorem dL_numbers_33 : decode cL_numbers 33 = .ok (.iload 5, 2) := by decide +kernel
theorem dL_numbers_35 : decode cL_numbers 35 = .ok (.iconst 0, 1) := by decide +kernel
theorem dL_numbers_36 : decode cL_numbers 36 = .ok (.iastore, 1) := by decide +kernel
theorem dL_numbers_37 : decode cL_numbers 37 = .ok (.iinc 5 1, 3) := by decide +kernel
theorem dL_numbers_40 : decode cL_numbers 40 = .ok (.goto (-16), 3) := by decide +kernel
theorem dL_numbers_43 : decode cL_numbers 43 = .ok (.aload_n 0, 1) := by decide +kernel
theorem dL_numbers_44 : decode cL_numbers 44 = .ok (.iload_n 1, 1) := by decide +kernel
theorem dL_numbers_45 : decode cL_numbers 45 = .ok (.invokestatic 20, 3) := by decide +kernel
theorem dL_numbers_48 : decode cL_numbers 48 = .ok (.istore 5, 2) := by decide +kernel
theorem dL_numbers_50 : decode cL_numbers 50 = .ok (.aload_n 3, 1) := by decide +kernel
theorem dL_numbers_51 : decode cL_numbers 51 = .ok (.iconst 0, 1) := by decide +kernel
theorem dL_numbers_52 : decode cL_numbers 52 = .ok (.iload_n 2, 1) := by decide +kernel
theorem dL_numbers_53 : decode cL_numbers 53 = .ok (.iload 5, 2) := by decide +kernel
theorem dL_numbers_55 : decode cL_numbers 55 = .ok (.bipush 13, 2) := by decide +kernel
theorem dL_numbers_57 : decode cL_numbers 57 = .ok (.iload_n 2, 1) := by decide +kernel
theorem dL_numbers_58 : decode cL_numbers 58 = .ok (.isub, 1) := by decide +kernel
theorem dL_numbers_59 : decode cL_numbers 59 = .ok (.irem, 1) := by decide +kernel
theorem dL_numbers_60 : decode cL_numbers 60 = .ok (.iadd, 1) := by decide +kernel
theorem dL_numbers_61 : decode cL_numbers 61 = .ok (.iastore, 1) := by decide +kernel
theorem dL_numbers_62 : decode cL_numbers 62 = .ok (.aload_n 3, 1) := by decide +kernel
theorem dL_numbers_63 : decode cL_numbers 63 = .ok (.iconst 1, 1) := by decide +kernel
theorem dL_numbers_64 : decode cL_numbers 64 = .ok (.iload 5, 2) := by decide +kernel
theorem dL_numbers_66 : decode cL_numbers 66 = .ok (.bipush 16, 2) := by decide +kernel
theorem dL_numbers_68 : decode cL_numbers 68 = .ok (.idiv, 1) := by decide +kernel
theorem dL_numbers_69 : decode cL_numbers 69 = .ok (.bipush 21, 2) := by decide +kernel
theorem dL_numbers_71 : decode cL_numbers 71 = .ok (.irem, 1) := by decide +kernel
theorem dL_numbers_72 : decode cL_numbers 72 = .ok (.iastore, 1) := by decide +kernel
theorem dL_numbers_73 : decode cL_numbers 73 = .ok (.aload_n 3, 1) := by decide +kernel
theorem dL_numbers_74 : decode cL_numbers 74 = .ok (.iconst 2, 1) := by decide +kernel
theorem dL_numbers_75 : decode cL_numbers 75 = .ok (.iload 5, 2) := by decide +kernel
theorem dL_numbers_77 : decode cL_numbers 77 = .ok (.sipush 512, 3) := by decide +kernel
theorem dL_numbers_80 : decode cL_numbers 80 = .ok (.idiv, 1) := by decide +kernel
theorem dL_numbers_81 : decode cL_numbers 81 = .ok (.iconst 5, 1) := by decide +kernel
theorem dL_numbers_82 : decode cL_numbers 82 = .ok (.irem, 1) := by decide +kernel
theorem dL_numbers_83 : decode cL_numbers 83 = .ok (.ifCond .ne 7, 3) := by decide +kernel
theorem dL_numbers_86 : decode cL_numbers 86 = .ok (.iconst 0, 1) := by decide +kernel
theorem dL_numbers_87 : decode cL_numbers 87 = .ok (.goto 13, 3) := by decide +kernel
theorem dL_numbers_90 : decode cL_numbers 90 = .ok (.iconst 1, 1) := by decide +kernel
theorem dL_numbers_91 : decode cL_numbers 91 = .ok (.iload 5, 2) := by decide +kernel
theorem dL_numbers_93 : decode cL_numbers 93 = .ok (.sipush 512, 3) := by decide +kernel
theorem dL_numbers_96 : decode cL_numbers 96 = .ok (.idiv, 1) := by decide +kernel
theorem dL_numbers_97 : decode cL_numbers 97 = .ok (.iconst 4, 1) := by decide +kernel
theorem dL_numbers_98 : decode cL_numbers 98 = .ok (.irem, 1) := by decide +kernel
theorem dL_numbers_99 : decode cL_numbers 99 = .ok (.iadd, 1) := by decide +kernel
theorem dL_numbers_100 : decode cL_numbers 100 = .ok (.iastore, 1) := by decide +kernel
theorem dL_numbers_101 : decode cL_numbers 101 = .ok (.aload_n 3, 1) := by decide +kernel
theorem dL_numbers_102 : decode cL_numbers 102 = .ok (.iconst 3, 1) := by decide +kernel
theorem dL_numbers_103 : decode cL_numbers 103 = .ok (.iconst 1, 1) := by decide +kernel
theorem dL_numbers_104 : decode cL_numbers 104 = .ok (.iload 5, 2) := by decide +kernel
theorem dL_numbers_106 : decode cL_numbers 106 = .ok (.sipush 4096, 3) := by decide +kernel
theorem dL_numbers_109 : decode cL_numbers 109 = .ok (.idiv, 1) := by decide +kernel
theorem dL_numbers_110 : decode cL_numbers 110 = .ok (.iload_n 2, 1) := by decide +kernel
theorem dL_numbers_111 : decode cL_numbers 111 = .ok (.irem, 1) := by decide +kernel
theorem dL_numbers_112 : decode cL_numbers 112 = .ok (.iadd, 1) := by decide +kernel
theorem dL_numbers_113 : decode cL_numbers 113 = .ok (.iastore, 1) := by decide +kernel
theorem dL_numbers_114 : decode cL_numbers 114 = .ok (.aload_n 3, 1) := by decide +kernel
theorem dL_numbers_115 : decode cL_numbers 115 = .ok (.iconst 4, 1) := by decide +kernel
theorem dL_numbers_116 : decode cL_numbers 116 = .ok (.iload 5, 2) := by decide +kernel
theorem dL_numbers_118 : decode cL_numbers 118 = .ok (.ldc 24, 2) := by decide +kernel
theorem dL_numbers_120 : decode cL_numbers 120 = .ok (.idiv, 1) := by decide +kernel
theorem dL_numbers_121 : decode cL_numbers 121 = .ok (.iconst 5, 1) := by decide +kernel
theorem dL_numbers_122 : decode cL_numbers 122 = .ok (.irem, 1) := by decide +kernel
theorem dL_numbers_123 : decode cL_numbers 123 = .ok (.iastore, 1) := by decide +kernel
theorem dL_numbers_124 : decode cL_numbers 124 = .ok (.iload 5, 2) := by decide +kernel
theorem dL_numbers_126 : decode cL_numbers 126 = .ok (.ldc 25, 2) := by decide +kernel
theorem dL_numbers_128 : decode cL_numbers 128 = .ok (.idiv, 1) := by decide +kernel
theorem dL_numbers_129 : decode cL_numbers 129 = .ok (.iconst 3, 1) := by decide +kernel
theorem dL_numbers_130 : decode cL_numbers 130 = .ok (.irem, 1) := by decide +kernel
theorem dL_numbers_131 : decode cL_numbers 131 = .ok (.ifCond .ne 7, 3) := by decide +kernel
theorem dL_numbers_134 : decode cL_numbers 134 = .ok (.iconst 1, 1) := by decide +kernel
theorem dL_numbers_135 : decode cL_numbers 135 = .ok (.goto 4, 3) := by decide +kernel
theorem dL_numbers_138 : decode cL_numbers 138 = .ok (.iconst 0, 1) := by decide +kernel
theorem dL_numbers_139 : decode cL_numbers 139 = .ok (.istore 6, 2) := by decide +kernel
theorem dL_numbers_141 : decode cL_numbers 141 = .ok (.aload_n 0, 1) := by decide +kernel
theorem dL_numbers_142 : decode cL_numbers 142 = .ok (.iload_n 1, 1) := by decide +kernel
theorem dL_numbers_143 : decode cL_numbers 143 = .ok (.iconst 1, 1) := by decide +kernel
theorem dL_numbers_144 : decode cL_numbers 144 = .ok (.iadd, 1) := by decide +kernel
theorem dL_numbers_145 : decode cL_numbers 145 = .ok (.invokestatic 20, 3) := by decide +kernel
theorem dL_numbers_148 : decode cL_numbers 148 = .ok (.istore 5, 2) := by decide +kernel
theorem dL_numbers_150 : decode cL_numbers 150 = .ok (.aload_n 3, 1) := by decide +kernel
theorem dL_numbers_151 : decode cL_numbers 151 = .ok (.iconst 5, 1) := by decide +kernel
theorem dL_numbers_152 : decode cL_numbers 152 = .ok (.iload 6, 2) := by decide +kernel
theorem dL_numbers_154 : decode cL_numbers 154 = .ok (.ifCond .eq 8, 3) := by decide +kernel
theorem dL_numbers_157 : decode cL_numbers 157 = .ok (.bipush 127, 2) := by decide +kernel
theorem dL_numbers_159 : decode cL_numbers 159 = .ok (.goto 9, 3) := by decide +kernel
theorem dL_numbers_162 : decode cL_numbers 162 = .ok (.iload 5, 2) := by decide +kernel
theorem dL_numbers_164 : decode cL_numbers 164 = .ok (.sipush 128, 3) := by decide +kernel
theorem dL_numbers_167 : decode cL_numbers 167 = .ok (.irem, 1) := by decide +kernel
theorem dL_numbers_168 : decode cL_numbers 168 = .ok (.iastore, 1) := by decide +kernel
theorem dL_numbers_169 : decode cL_numbers 169 = .ok (.aload_n 3, 1) := by decide +kernel
theorem dL_numbers_170 : decode cL_numbers 170 = .ok (.bipush 6, 2) := by decide +kernel
theorem dL_numbers_172 : decode cL_numbers 172 = .ok (.iload 6, 2) := by decide +kernel
theorem dL_numbers_174 : decode cL_numbers 174 = .ok (.ifCond .eq 8, 3) := by decide +kernel
theorem dL_numbers_177 : decode cL_numbers 177 = .ok (.bipush 127, 2) := by decide +kernel
theorem dL_numbers_179 : decode cL_numbers 179 = .ok (.goto 13, 3) := by decide +kernel
theorem dL_numbers_182 : decode cL_numbers 182 = .ok (.iload 5, 2) := by decide +kernel
theorem dL_numbers_184 : decode cL_numbers 184 = .ok (.sipush 128, 3) := by decide +kernel
theorem dL_numbers_187 : decode cL_numbers 187 = .ok (.idiv, 1) := by decide +kernel
theorem dL_numbers_188 : decode cL_numbers 188 = .ok (.sipush 128, 3) := by decide +kernel
theorem dL_numbers_191 : decode cL_numbers 191 = .ok (.irem, 1) := by decide +kernel
theorem dL_numbers_192 : decode cL_numbers 192 = .ok (.iastore, 1) := by decide +kernel
theorem dL_numbers_193 : decode cL_numbers 193 = .ok (.aload_n 3, 1) := by decide +kernel
theorem dL_numbers_194 : decode cL_numbers 194 = .ok (.bipush 7, 2) := by decide +kernel
theorem dL_numbers_196 : decode cL_numbers 196 = .ok (.iload 5, 2) := by decide +kernel
theorem dL_numbers_198 : decode cL_numbers 198 = .ok (.sipush 16384, 3) := by decide +kernel
theorem dL_numbers_201 : decode cL_numbers 201 = .ok (.idiv, 1) := by decide +kernel
theorem dL_numbers_202 : decode cL_numbers 202 = .ok (.bipush 30, 2) := by decide +kernel
theorem dL_numbers_204 : decode cL_numbers 204 = .ok (.irem, 1) := by decide +kernel
theorem dL_numbers_205 : decode cL_numbers 205 = .ok (.iastore, 1) := by decide +kernel
theorem dL_numbers_206 : decode cL_numbers 206 = .ok (.aload_n 3, 1) := by decide +kernel
theorem dL_numbers_207 : decode cL_numbers 207 = .ok (.bipush 8, 2) := by decide +kernel
theorem dL_numbers_209 : decode cL_numbers 209 = .ok (.iload 5, 2) := by decide +kernel
theorem dL_numbers_211 : decode cL_numbers 211 = .ok (.ldc 26, 2) := by decide +kernel
theorem dL_numbers_213 : decode cL_numbers 213 = .ok (.idiv, 1) := by decide +kernel
theorem dL_numbers_214 : decode cL_numbers 214 = .ok (.bipush 20, 2) := by decide +kernel
theorem dL_numbers_216 : decode cL_numbers 216 = .ok (.irem, 1) := by decide +kernel
theorem dL_numbers_217 : decode cL_numbers 217 = .ok (.iastore, 1) := by decide +kernel
theorem dL_numbers_218 : decode cL_numbers 218 = .ok (.iconst 0, 1) := by decide +kernel
theorem dL_numbers_219 : decode cL_numbers 219 = .ok (.istore 7, 2) := by decide +kernel
theorem dL_numbers_221 : decode cL_numbers 221 = .ok (.iconst 0, 1) := by decide +kernel
theorem dL_numbers_222 : decode cL_numbers 222 = .ok (.istore 8, 2) := by decide +kernel
theorem dL_numbers_224 : decode cL_numbers 224 = .ok (.iload 8, 2) := by decide +kernel
theorem dL_numbers_226 : decode cL_numbers 226 = .ok (.aload_n 3, 1) := by decide +kernel
theorem dL_numbers_227 : decode cL_numbers 227 = .ok (.iconst 3, 1) := by decide +kernel
theorem dL_numbers_228 : decode cL_numbers 228 = .ok (.iaload, 1) := by decide +kernel
theorem dL_numbers_229 : decode cL_numbers 229 = .ok (.if_icmp .ge 158, 3) := by decide +kernel
theorem dL_numbers_232 : decode cL_numbers 232 = .ok (.aload_n 0, 1) := by decide +kernel
theorem dL_numbers_233 : decode cL_numbers 233 = .ok (.iload_n 1, 1) := by decide +kernel
theorem dL_numbers_234 : decode cL_numbers 234 = .ok (.iconst 2, 1) := by decide +kernel
theorem dL_numbers_235 : decode cL_numbers 235 = .ok (.iadd, 1) := by decide +kernel
theorem dL_numbers_236 : decode cL_numbers 236 = .ok (.iload 8, 2) := by decide +kernel
theorem dL_numbers_238 : decode cL_numbers 238 = .ok (.iadd, 1) := by decide +kernel
theorem dL_numbers_239 : decode cL_numbers 239 = .ok (.invokestatic 20, 3) := by decide +kernel
theorem dL_numbers_242 : decode cL_numbers 242 = .ok (.istore 5, 2) := by decide +kernel
theorem dL_numbers_244 : decode cL_numbers 244 = .ok (.iload 5, 2) := by decide +kernel
theorem dL_numbers_246 : decode cL_numbers 246 = .ok (.aload_n 3, 1) := by decide +kernel
theorem dL_numbers_247 : decode cL_numbers 247 = .ok (.iconst 0, 1) := by decide +kernel
theorem dL_numbers_248 : decode cL_numbers 248 = .ok (.iaload, 1) := by decide +kernel
theorem dL_numbers_249 : decode cL_numbers 249 = .ok (.irem, 1) := by decide +kernel
theorem dL_numbers_250 : decode cL_numbers 250 = .ok (.istore 9, 2) := by decide +kernel
theorem dL_numbers_252 : decode cL_numbers 252 = .ok (.iconst 0, 1) := by decide +kernel
theorem dL_numbers_253 : decode cL_numbers 253 = .ok (.istore 10, 2) := by decide +kernel
theorem dL_numbers_255 : decode cL_numbers 255 = .ok (.iload 10, 2) := by decide +kernel
theorem dL_numbers_257 : decode cL_numbers 257 = .ok (.bipush 12, 2) := by decide +kernel
theorem dL_numbers_259 : decode cL_numbers 259 = .ok (.if_icmp .ge 40, 3) := by decide +kernel
theorem dL_numbers_262 : decode cL_numbers 262 = .ok (.iload 7, 2) := by decide +kernel
theorem dL_numbers_264 : decode cL_numbers 264 = .ok (.iload 9, 2) := by decide +kernel
theorem dL_numbers_266 : decode cL_numbers 266 = .ok (.ishr, 1) := by decide +kernel
theorem dL_numbers_267 : decode cL_numbers 267 = .ok (.iconst 1, 1) := by decide +kernel
theorem dL_numbers_268 : decode cL_numbers 268 = .ok (.iand, 1) := by decide +kernel
theorem dL_numbers_269 : decode cL_numbers 269 = .ok (.iconst 1, 1) := by decide +kernel
theorem dL_numbers_270 : decode cL_numbers 270 = .ok (.if_icmp .ne 29, 3) := by decide +kernel
theorem dL_numbers_273 : decode cL_numbers 273 = .ok (.iload 9, 2) := by decide +kernel
theorem dL_numbers_275 : decode cL_numbers 275 = .ok (.aload_n 3, 1) := by decide +kernel
theorem dL_numbers_276 : decode cL_numbers 276 = .ok (.iconst 0, 1) := by decide +kernel
theorem dL_numbers_277 : decode cL_numbers 277 = .ok (.iaload, 1) := by decide +kernel
theorem dL_numbers_278 : decode cL_numbers 278 = .ok (.iconst 1, 1) := by decide +kernel
theorem dL_numbers_279 : decode cL_numbers 279 = .ok (.isub, 1) := by decide +kernel
theorem dL_numbers_280 : decode cL_numbers 280 = .ok (.if_icmp .ne 7, 3) := by decide +kernel
theorem dL_numbers_283 : decode cL_numbers 283 = .ok (.iconst 0, 1) := by decide +kernel
theorem dL_numbers_284 : decode cL_numbers 284 = .ok (.goto 7, 3) := by decide +kernel
theorem dL_numbers_287 : decode cL_numbers 287 = .ok (.iload 9, 2) := by decide +kernel
theorem dL_numbers_289 : decode cL_numbers 289 = .ok (.iconst 1, 1) := by decide +kernel
theorem dL_numbers_290 : decode cL_numbers 290 = .ok (.iadd, 1) := by decide +kernel
theorem dL_numbers_291 : decode cL_numbers 291 = .ok (.istore 9, 2) := by decide +kernel
theorem dL_numbers_293 : decode cL_numbers 293 = .ok (.iinc 10 1, 3) := by decide +kernel
theorem dL_numbers_296 : decode cL_numbers 296 = .ok (.goto (-41), 3) := by decide +kernel
theorem dL_numbers_299 : decode cL_numbers 299 = .ok (.iload 7, 2) := by decide +kernel
theorem dL_numbers_301 : decode cL_numbers 301 = .ok (.iconst 1, 1) := by decide +kernel
theorem dL_numbers_302 : decode cL_numbers 302 = .ok (.iload 9, 2) := by decide +kernel
theorem dL_numbers_304 : decode cL_numbers 304 = .ok (.ishl, 1) := by decide +kernel
theorem dL_numbers_305 : decode cL_numbers 305 = .ok (.ior, 1) := by decide +kernel
theorem dL_numbers_306 : decode cL_numbers 306 = .ok (.istore 7, 2) := by decide +kernel
theorem dL_numbers_308 : decode cL_numbers 308 = .ok (.aload 4, 2) := by decide +kernel
theorem dL_numbers_310 : decode cL_numbers 310 = .ok (.bipush 15, 2) := by decide +kernel
theorem dL_numbers_312 : decode cL_numbers 312 = .ok (.iload 8, 2) := by decide +kernel
theorem dL_numbers_314 : decode cL_numbers 314 = .ok (.iadd, 1) := by decide +kernel
theorem dL_numbers_315 : decode cL_numbers 315 = .ok (.iload 9, 2) := by decide +kernel
theorem dL_numbers_317 : decode cL_numbers 317 = .ok (.iastore, 1) := by decide +kernel
theorem dL_numbers_318 : decode cL_numbers 318 = .ok (.aload 4, 2) := by decide +kernel
theorem dL_numbers_320 : decode cL_numbers 320 = .ok (.bipush 21, 2) := by decide +kernel
theorem dL_numbers_322 : decode cL_numbers 322 = .ok (.iload 8, 2) := by decide +kernel
theorem dL_numbers_324 : decode cL_numbers 324 = .ok (.iadd, 1) := by decide +kernel
theorem dL_numbers_325 : decode cL_numbers 325 = .ok (.iload 5, 2) := by decide +kernel
theorem dL_numbers_327 : decode cL_numbers 327 = .ok (.bipush 16, 2) := by decide +kernel
theorem dL_numbers_329 : decode cL_numbers 329 = .ok (.idiv, 1) := by decide +kernel
theorem dL_numbers_330 : decode cL_numbers 330 = .ok (.bipush 10, 2) := by decide +kernel
theorem dL_numbers_332 : decode cL_numbers 332 = .ok (.irem, 1) := by decide +kernel
theorem dL_numbers_333 : decode cL_numbers 333 = .ok (.iastore, 1) := by decide +kernel
theorem dL_numbers_334 : decode cL_numbers 334 = .ok (.aload_n 3, 1) := by decide +kernel
theorem dL_numbers_335 : decode cL_numbers 335 = .ok (.bipush 9, 2) := by decide +kernel
theorem dL_numbers_337 : decode cL_numbers 337 = .ok (.iload 8, 2) := by decide +kernel
theorem dL_numbers_339 : decode cL_numbers 339 = .ok (.iadd, 1) := by decide +kernel
theorem dL_numbers_340 : decode cL_numbers 340 = .ok (.iconst 1, 1) := by decide +kernel
theorem dL_numbers_341 : decode cL_numbers 341 = .ok (.iload 5, 2) := by decide +kernel
theorem dL_numbers_343 : decode cL_numbers 343 = .ok (.sipush 256, 3) := by decide +kernel
theorem dL_numbers_346 : decode cL_numbers 346 = .ok (.idiv, 1) := by decide +kernel
theorem dL_numbers_347 : decode cL_numbers 347 = .ok (.iload 5, 2) := by decide +kernel
theorem dL_numbers_349 : decode cL_numbers 349 = .ok (.ldc 24, 2) := by decide +kernel
theorem dL_numbers_351 : decode cL_numbers 351 = .ok (.idiv, 1) := by decide +kernel
theorem dL_numbers_352 : decode cL_numbers 352 = .ok (.iconst 2, 1) := by decide +kernel
theorem dL_numbers_353 : decode cL_numbers 353 = .ok (.irem, 1) := by decide +kernel
theorem dL_numbers_354 : decode cL_numbers 354 = .ok (.ifCond .ne 8, 3) := by decide +kernel
theorem dL_numbers_357 : decode cL_numbers 357 = .ok (.bipush 99, 2) := by decide +kernel
theorem dL_numbers_359 : decode cL_numbers 359 = .ok (.goto 5, 3) := by decide +kernel
theorem dL_numbers_362 : decode cL_numbers 362 = .ok (.bipush 20, 2) := by decide +kernel
theorem dL_numbers_364 : decode cL_numbers 364 = .ok (.irem, 1) := by decide +kernel
theorem dL_numbers_365 : decode cL_numbers 365 = .ok (.iadd, 1) := by decide +kernel
theorem dL_numbers_366 : decode cL_numbers 366 = .ok (.iastore, 1) := by decide +kernel
theorem dL_numbers_367 : decode cL_numbers 367 = .ok (.aload_n 3, 1) := by decide +kernel
theorem dL_numbers_368 : decode cL_numbers 368 = .ok (.bipush 15, 2) := by decide +kernel
theorem dL_numbers_370 : decode cL_numbers 370 = .ok (.iload 8, 2) := by decide +kernel
theorem dL_numbers_372 : decode cL_numbers 372 = .ok (.iadd, 1) := by decide +kernel
theorem dL_numbers_373 : decode cL_numbers 373 = .ok (.iload 5, 2) := by decide +kernel
theorem dL_numbers_375 : decode cL_numbers 375 = .ok (.ldc 27, 2) := by decide +kernel
theorem dL_numbers_377 : decode cL_numbers 377 = .ok (.idiv, 1) := by decide +kernel
theorem dL_numbers_378 : decode cL_numbers 378 = .ok (.iconst 2, 1) := by decide +kernel
theorem dL_numbers_379 : decode cL_numbers 379 = .ok (.irem, 1) := by decide +kernel
theorem dL_numbers_380 : decode cL_numbers 380 = .ok (.iastore, 1) := by decide +kernel
theorem dL_numbers_381 : decode cL_numbers 381 = .ok (.iinc 8 1, 3) := by decide +kernel
theorem dL_numbers_384 : decode cL_numbers 384 = .ok (.goto (-160), 3) := by decide +kernel
theorem dL_numbers_387 : decode cL_numbers 387 = .ok (.iconst 0, 1) := by decide +kernel
theorem dL_numbers_388 : decode cL_numbers 388 = .ok (.istore 8, 2) := by decide +kernel
theorem dL_numbers_390 : decode cL_numbers 390 = .ok (.iload 8, 2) := by decide +kernel
theorem dL_numbers_392 : decode cL_numbers 392 = .ok (.aload_n 3, 1) := by decide +kernel
theorem dL_numbers_393 : decode cL_numbers 393 = .ok (.iconst 4, 1) := by decide +kernel
theorem dL_numbers_394 : decode cL_numbers 394 = .ok (.iaload, 1) := by decide +kernel
theorem dL_numbers_395 : decode cL_numbers 395 = .ok (.if_icmp .ge 52, 3) := by decide +kernel
theorem dL_numbers_398 : decode cL_numbers 398 = .ok (.aload_n 0, 1) := by decide +kernel
theorem dL_numbers_399 : decode cL_numbers 399 = .ok (.iload_n 1, 1) := by decide +kernel
theorem dL_numbers_400 : decode cL_numbers 400 = .ok (.bipush 8, 2) := by decide +kernel
theorem dL_numbers_402 : decode cL_numbers 402 = .ok (.iadd, 1) := by decide +kernel
theorem dL_numbers_403 : decode cL_numbers 403 = .ok (.iload 8, 2) := by decide +kernel
theorem dL_numbers_405 : decode cL_numbers 405 = .ok (.iadd, 1) := by decide +kernel
theorem dL_numbers_406 : decode cL_numbers 406 = .ok (.invokestatic 20, 3) := by decide +kernel
theorem dL_numbers_409 : decode cL_numbers 409 = .ok (.istore 5, 2) := by decide +kernel
theorem dL_numbers_411 : decode cL_numbers 411 = .ok (.aload_n 3, 1) := by decide +kernel
theorem dL_numbers_412 : decode cL_numbers 412 = .ok (.bipush 21, 2) := by decide +kernel
theorem dL_numbers_414 : decode cL_numbers 414 = .ok (.iload 8, 2) := by decide +kernel
theorem dL_numbers_416 : decode cL_numbers 416 = .ok (.iadd, 1) := by decide +kernel
theorem dL_numbers_417 : decode cL_numbers 417 = .ok (.iload 5, 2) := by decide +kernel
theorem dL_numbers_419 : decode cL_numbers 419 = .ok (.aload_n 3, 1) := by decide +kernel
theorem dL_numbers_420 : decode cL_numbers 420 = .ok (.iconst 0, 1) := by decide +kernel
theorem dL_numbers_421 : decode cL_numbers 421 = .ok (.iaload, 1) := by decide +kernel
theorem dL_numbers_422 : decode cL_numbers 422 = .ok (.irem, 1) := by decide +kernel
theorem dL_numbers_423 : decode cL_numbers 423 = .ok (.iastore, 1) := by decide +kernel
theorem dL_numbers_424 : decode cL_numbers 424 = .ok (.aload_n 3, 1) := by decide +kernel
theorem dL_numbers_425 : decode cL_numbers 425 = .ok (.bipush 25, 2) := by decide +kernel
theorem dL_numbers_427 : decode cL_numbers 427 = .ok (.iload 8, 2) := by decide +kernel
theorem dL_numbers_429 : decode cL_numbers 429 = .ok (.iadd, 1) := by decide +kernel
theorem dL_numbers_430 : decode cL_numbers 430 = .ok (.iconst 1, 1) := by decide +kernel
theorem dL_numbers_431 : decode cL_numbers 431 = .ok (.iload 5, 2) := by decide +kernel
theorem dL_numbers_433 : decode cL_numbers 433 = .ok (.bipush 16, 2) := by decide +kernel
theorem dL_numbers_435 : decode cL_numbers 435 = .ok (.idiv, 1) := by decide +kernel
theorem dL_numbers_436 : decode cL_numbers 436 = .ok (.bipush 20, 2) := by decide +kernel
theorem dL_numbers_438 : decode cL_numbers 438 = .ok (.irem, 1) := by decide +kernel
theorem dL_numbers_439 : decode cL_numbers 439 = .ok (.iadd, 1) := by decide +kernel
theorem dL_numbers_440 : decode cL_numbers 440 = .ok (.iastore, 1) := by decide +kernel
theorem dL_numbers_441 : decode cL_numbers 441 = .ok (.iinc 8 1, 3) := by decide +kernel
theorem dL_numbers_444 : decode cL_numbers 444 = .ok (.goto (-54), 3) := by decide +kernel
theorem dL_numbers_447 : decode cL_numbers 447 = .ok (.iconst 0, 1) := by decide +kernel
theorem dL_numbers_448 : decode cL_numbers 448 = .ok (.istore 8, 2) := by decide +kernel
theorem dL_numbers_450 : decode cL_numbers 450 = .ok (.iload 8, 2) := by decide +kernel
theorem dL_numbers_452 : decode cL_numbers 452 = .ok (.aload_n 3, 1) := by decide +kernel
theorem dL_numbers_453 : decode cL_numbers 453 = .ok (.iconst 2, 1) := by decide +kernel
theorem dL_numbers_454 : decode cL_numbers 454 = .ok (.iaload, 1) := by decide +kernel
theorem dL_numbers_455 : decode cL_numbers 455 = .ok (.if_icmp .ge 51, 3) := by decide +kernel
theorem dL_numbers_458 : decode cL_numbers 458 = .ok (.aload_n 0, 1) := by decide +kernel
theorem dL_numbers_459 : decode cL_numbers 459 = .ok (.iload_n 1, 1) := by decide +kernel
theorem dL_numbers_460 : decode cL_numbers 460 = .ok (.bipush 12, 2) := by decide +kernel
theorem dL_numbers_462 : decode cL_numbers 462 = .ok (.iadd, 1) := by decide +kernel
theorem dL_numbers_463 : decode cL_numbers 463 = .ok (.iload 8, 2) := by decide +kernel
theorem dL_numbers_465 : decode cL_numbers 465 = .ok (.iadd, 1) := by decide +kernel
theorem dL_numbers_466 : decode cL_numbers 466 = .ok (.invokestatic 20, 3) := by decide +kernel
theorem dL_numbers_469 : decode cL_numbers 469 = .ok (.istore 5, 2) := by decide +kernel
theorem dL_numbers_471 : decode cL_numbers 471 = .ok (.aload_n 3, 1) := by decide +kernel
theorem dL_numbers_472 : decode cL_numbers 472 = .ok (.bipush 29, 2) := by decide +kernel
theorem dL_numbers_474 : decode cL_numbers 474 = .ok (.iconst 2, 1) := by decide +kernel
theorem dL_numbers_475 : decode cL_numbers 475 = .ok (.iload 8, 2) := by decide +kernel
theorem dL_numbers_477 : decode cL_numbers 477 = .ok (.imul, 1) := by decide +kernel
theorem dL_numbers_478 : decode cL_numbers 478 = .ok (.iadd, 1) := by decide +kernel
theorem dL_numbers_479 : decode cL_numbers 479 = .ok (.iload 5, 2) := by decide +kernel
theorem dL_numbers_481 : decode cL_numbers 481 = .ok (.iconst 2, 1) := by decide +kernel
theorem dL_numbers_482 : decode cL_numbers 482 = .ok (.irem, 1) := by decide +kernel
theorem dL_numbers_483 : decode cL_numbers 483 = .ok (.iastore, 1) := by decide +kernel
theorem dL_numbers_484 : decode cL_numbers 484 = .ok (.aload_n 3, 1) := by decide +kernel
theorem dL_numbers_485 : decode cL_numbers 485 = .ok (.bipush 30, 2) := by decide +kernel
theorem dL_numbers_487 : decode cL_numbers 487 = .ok (.iconst 2, 1) := by decide +kernel
theorem dL_numbers_488 : decode cL_numbers 488 = .ok (.iload 8, 2) := by decide +kernel
theorem dL_numbers_490 : decode cL_numbers 490 = .ok (.imul, 1) := by decide +kernel
theorem dL_numbers_491 : decode cL_numbers 491 = .ok (.iadd, 1) := by decide +kernel
theorem dL_numbers_492 : decode cL_numbers 492 = .ok (.iload 5, 2) := by decide +kernel
theorem dL_numbers_494 : decode cL_numbers 494 = .ok (.iconst 2, 1) := by decide +kernel
theorem dL_numbers_495 : decode cL_numbers 495 = .ok (.idiv, 1) := by decide +kernel
theorem dL_numbers_496 : decode cL_numbers 496 = .ok (.bipush 41, 2) := by decide +kernel
theorem dL_numbers_498 : decode cL_numbers 498 = .ok (.irem, 1) := by decide +kernel
theorem dL_numbers_499 : decode cL_numbers 499 = .ok (.iastore, 1) := by decide +kernel
theorem dL_numbers_500 : decode cL_numbers 500 = .ok (.iinc 8 1, 3) := by decide +kernel
theorem dL_numbers_503 : decode cL_numbers 503 = .ok (.goto (-53), 3) := by decide +kernel
theorem dL_numbers_506 : decode cL_numbers 506 = .ok (.return_, 1) := by decide +kernel
theorem dL_coast_0 : decode cL_coast 0 = .ok (.aload_n 0, 1) := by decide +kernel
theorem dL_coast_1 : decode cL_coast 1 = .ok (.iconst 5, 1) := by decide +kernel
theorem dL_coast_2 : decode cL_coast 2 = .ok (.invokevirtual 28, 3) := by decide +kernel
theorem dL_coast_5 : decode cL_coast 5 = .ok (.ifCond .eq 5, 3) := by decide +kernel
theorem dL_coast_8 : decode cL_coast 8 = .ok (.iconst 0, 1) := by decide +kernel
theorem dL_coast_9 : decode cL_coast 9 = .ok (.ireturn, 1) := by decide +kernel
theorem dL_coast_10 : decode cL_coast 10 = .ok (.aload_n 0, 1) := by decide +kernel
theorem dL_coast_11 : decode cL_coast 11 = .ok (.aload_n 0, 1) := by decide +kernel
theorem dL_coast_12 : decode cL_coast 12 = .ok (.aload_n 0, 1) := by decide +kernel
theorem dL_coast_13 : decode cL_coast 13 = .ok (.iconst 0, 1) := by decide +kernel
theorem dL_coast_14 : decode cL_coast 14 = .ok (.bipush 102, 2) := by decide +kernel
theorem dL_coast_16 : decode cL_coast 16 = .ok (.invokestatic 14, 3) := by decide +kernel
theorem dL_coast_19 : decode cL_coast 19 = .ok (.aload_n 1, 1) := by decide +kernel
theorem dL_coast_20 : decode cL_coast 20 = .ok (.iconst 0, 1) := by decide +kernel
theorem dL_coast_21 : decode cL_coast 21 = .ok (.iaload, 1) := by decide +kernel
theorem dL_coast_22 : decode cL_coast 22 = .ok (.bipush 32, 2) := by decide +kernel
theorem dL_coast_24 : decode cL_coast 24 = .ok (.invokestatic 31, 3) := by decide +kernel
theorem dL_coast_27 : decode cL_coast 27 = .ok (.aload_n 1, 1) := by decide +kernel
theorem dL_coast_28 : decode cL_coast 28 = .ok (.iconst 1, 1) := by decide +kernel
theorem dL_coast_29 : decode cL_coast 29 = .ok (.iaload, 1) := by decide +kernel
theorem dL_coast_30 : decode cL_coast 30 = .ok (.bipush 59, 2) := by decide +kernel
theorem dL_coast_32 : decode cL_coast 32 = .ok (.invokestatic 31, 3) := by decide +kernel
theorem dL_coast_35 : decode cL_coast 35 = .ok (.istore_n 3, 1) := by decide +kernel
theorem dL_coast_36 : decode cL_coast 36 = .ok (.iconst 0, 1) := by decide +kernel
theorem dL_coast_37 : decode cL_coast 37 = .ok (.istore 4, 2) := by decide +kernel
theorem dL_coast_39 : decode cL_coast 39 = .ok (.iload 4, 2) := by decide +kernel
theorem dL_coast_41 : decode cL_coast 41 = .ok (.aload_n 1, 1) := by decide +kernel
theorem dL_coast_42 : decode cL_coast 42 = .ok (.iconst 2, 1) := by decide +kernel
theorem dL_coast_43 : decode cL_coast 43 = .ok (.iaload, 1) := by decide +kernel
theorem dL_coast_44 : decode cL_coast 44 = .ok (.if_icmp .ge 47, 3) := by decide +kernel
theorem dL_coast_47 : decode cL_coast 47 = .ok (.aload_n 0, 1) := by decide +kernel
theorem dL_coast_48 : decode cL_coast 48 = .ok (.aload_n 0, 1) := by decide +kernel
theorem dL_coast_49 : decode cL_coast 49 = .ok (.aload_n 0, 1) := by decide +kernel
theorem dL_coast_50 : decode cL_coast 50 = .ok (.iload_n 3, 1) := by decide +kernel
theorem dL_coast_51 : decode cL_coast 51 = .ok (.bipush 104, 2) := by decide +kernel
theorem dL_coast_53 : decode cL_coast 53 = .ok (.invokestatic 14, 3) := by decide +kernel
theorem dL_coast_56 : decode cL_coast 56 = .ok (.aload_n 1, 1) := by decide +kernel
theorem dL_coast_57 : decode cL_coast 57 = .ok (.bipush 29, 2) := by decide +kernel
theorem dL_coast_59 : decode cL_coast 59 = .ok (.iconst 2, 1) := by decide +kernel
theorem dL_coast_60 : decode cL_coast 60 = .ok (.iload 4, 2) := by decide +kernel
theorem dL_coast_62 : decode cL_coast 62 = .ok (.imul, 1) := by decide +kernel
theorem dL_coast_63 : decode cL_coast 63 = .ok (.iadd, 1) := by decide +kernel
theorem dL_coast_64 : decode cL_coast 64 = .ok (.iaload, 1) := by decide +kernel
theorem dL_coast_65 : decode cL_coast 65 = .ok (.bipush 32, 2) := by decide +kernel
theorem dL_coast_67 : decode cL_coast 67 = .ok (.invokestatic 31, 3) := by decide +kernel
theorem dL_coast_70 : decode cL_coast 70 = .ok (.aload_n 1, 1) := by decide +kernel
theorem dL_coast_71 : decode cL_coast 71 = .ok (.bipush 30, 2) := by decide +kernel
theorem dL_coast_73 : decode cL_coast 73 = .ok (.iconst 2, 1) := by decide +kernel
theorem dL_coast_74 : decode cL_coast 74 = .ok (.iload 4, 2) := by decide +kernel
theorem dL_coast_76 : decode cL_coast 76 = .ok (.imul, 1) := by decide +kernel
theorem dL_coast_77 : decode cL_coast 77 = .ok (.iadd, 1) := by decide +kernel
theorem dL_coast_78 : decode cL_coast 78 = .ok (.iaload, 1) := by decide +kernel
theorem dL_coast_79 : decode cL_coast 79 = .ok (.bipush 59, 2) := by decide +kernel
theorem dL_coast_81 : decode cL_coast 81 = .ok (.invokestatic 31, 3) := by decide +kernel
theorem dL_coast_84 : decode cL_coast 84 = .ok (.istore_n 3, 1) := by decide +kernel
theorem dL_coast_85 : decode cL_coast 85 = .ok (.iinc 4 1, 3) := by decide +kernel
theorem dL_coast_88 : decode cL_coast 88 = .ok (.goto (-49), 3) := by decide +kernel
theorem dL_coast_91 : decode cL_coast 91 = .ok (.iconst 0, 1) := by decide +kernel
theorem dL_coast_92 : decode cL_coast 92 = .ok (.istore 4, 2) := by decide +kernel
theorem dL_coast_94 : decode cL_coast 94 = .ok (.iload 4, 2) := by decide +kernel
theorem dL_coast_96 : decode cL_coast 96 = .ok (.aload_n 1, 1) := by decide +kernel
theorem dL_coast_97 : decode cL_coast 97 = .ok (.iconst 3, 1) := by decide +kernel
theorem dL_coast_98 : decode cL_coast 98 = .ok (.iaload, 1) := by decide +kernel
theorem dL_coast_99 : decode cL_coast 99 = .ok (.if_icmp .ge 69, 3) := by decide +kernel
theorem dL_coast_102 : decode cL_coast 102 = .ok (.aload_n 0, 1) := by decide +kernel
theorem dL_coast_103 : decode cL_coast 103 = .ok (.aload_n 0, 1) := by decide +kernel
theorem dL_coast_104 : decode cL_coast 104 = .ok (.aload_n 0, 1) := by decide +kernel
theorem dL_coast_105 : decode cL_coast 105 = .ok (.aload_n 0, 1) := by decide +kernel
theorem dL_coast_106 : decode cL_coast 106 = .ok (.aload_n 0, 1) := by decide +kernel
theorem dL_coast_107 : decode cL_coast 107 = .ok (.iload_n 3, 1) := by decide +kernel
theorem dL_coast_108 : decode cL_coast 108 = .ok (.bipush 112, 2) := by decide +kernel
theorem dL_coast_110 : decode cL_coast 110 = .ok (.invokestatic 14, 3) := by decide +kernel
theorem dL_coast_113 : decode cL_coast 113 = .ok (.aload_n 2, 1) := by decide +kernel
theorem dL_coast_114 : decode cL_coast 114 = .ok (.bipush 15, 2) := by decide +kernel
theorem dL_coast_116 : decode cL_coast 116 = .ok (.iload 4, 2) := by decide +kernel
theorem dL_coast_118 : decode cL_coast 118 = .ok (.iadd, 1) := by decide +kernel
theorem dL_coast_119 : decode cL_coast 119 = .ok (.iaload, 1) := by decide +kernel
theorem dL_coast_120 : decode cL_coast 120 = .ok (.bipush 32, 2) := by decide +kernel
theorem dL_coast_122 : decode cL_coast 122 = .ok (.invokestatic 31, 3) := by decide +kernel
theorem dL_coast_125 : decode cL_coast 125 = .ok (.aload_n 2, 1) := by decide +kernel
theorem dL_coast_126 : decode cL_coast 126 = .ok (.bipush 21, 2) := by decide +kernel
theorem dL_coast_128 : decode cL_coast 128 = .ok (.iload 4, 2) := by decide +kernel
theorem dL_coast_130 : decode cL_coast 130 = .ok (.iadd, 1) := by decide +kernel
theorem dL_coast_131 : decode cL_coast 131 = .ok (.iaload, 1) := by decide +kernel
theorem dL_coast_132 : decode cL_coast 132 = .ok (.bipush 32, 2) := by decide +kernel
theorem dL_coast_134 : decode cL_coast 134 = .ok (.invokestatic 31, 3) := by decide +kernel
theorem dL_coast_137 : decode cL_coast 137 = .ok (.aload_n 1, 1) := by decide +kernel
theorem dL_coast_138 : decode cL_coast 138 = .ok (.bipush 9, 2) := by decide +kernel
theorem dL_coast_140 : decode cL_coast 140 = .ok (.iload 4, 2) := by decide +kernel
theorem dL_coast_142 : decode cL_coast 142 = .ok (.iadd, 1) := by decide +kernel
theorem dL_coast_143 : decode cL_coast 143 = .ok (.iaload, 1) := by decide +kernel
theorem dL_coast_144 : decode cL_coast 144 = .ok (.bipush 32, 2) := by decide +kernel
theorem dL_coast_146 : decode cL_coast 146 = .ok (.invokestatic 31, 3) := by decide +kernel
theorem dL_coast_149 : decode cL_coast 149 = .ok (.aload_n 1, 1) := by decide +kernel
theorem dL_coast_150 : decode cL_coast 150 = .ok (.bipush 15, 2) := by decide +kernel
theorem dL_coast_152 : decode cL_coast 152 = .ok (.iload 4, 2) := by decide +kernel
theorem dL_coast_154 : decode cL_coast 154 = .ok (.iadd, 1) := by decide +kernel
theorem dL_coast_155 : decode cL_coast 155 = .ok (.iaload, 1) := by decide +kernel
theorem dL_coast_156 : decode cL_coast 156 = .ok (.bipush 59, 2) := by decide +kernel
theorem dL_coast_158 : decode cL_coast 158 = .ok (.invokestatic 31, 3) := by decide +kernel
theorem dL_coast_161 : decode cL_coast 161 = .ok (.istore_n 3, 1) := by decide +kernel
theorem dL_coast_162 : decode cL_coast 162 = .ok (.iinc 4 1, 3) := by decide +kernel
theorem dL_coast_165 : decode cL_coast 165 = .ok (.goto (-71), 3) := by decide +kernel
theorem dL_coast_168 : decode cL_coast 168 = .ok (.aload_n 0, 1) := by decide +kernel
theorem dL_coast_169 : decode cL_coast 169 = .ok (.aload_n 0, 1) := by decide +kernel
theorem dL_coast_170 : decode cL_coast 170 = .ok (.aload_n 0, 1) := by decide +kernel
theorem dL_coast_171 : decode cL_coast 171 = .ok (.iload_n 3, 1) := by decide +kernel
theorem dL_coast_172 : decode cL_coast 172 = .ok (.bipush 100, 2) := by decide +kernel
theorem dL_coast_174 : decode cL_coast 174 = .ok (.invokestatic 14, 3) := by decide +kernel
theorem dL_coast_177 : decode cL_coast 177 = .ok (.aload_n 1, 1) := by decide +kernel
theorem dL_coast_178 : decode cL_coast 178 = .ok (.iconst 5, 1) := by decide +kernel
theorem dL_coast_179 : decode cL_coast 179 = .ok (.iaload, 1) := by decide +kernel
theorem dL_coast_180 : decode cL_coast 180 = .ok (.bipush 32, 2) := by decide +kernel
theorem dL_coast_182 : decode cL_coast 182 = .ok (.invokestatic 31, 3) := by decide +kernel
theorem dL_coast_185 : decode cL_coast 185 = .ok (.aload_n 1, 1) := by decide +kernel
theorem dL_coast_186 : decode cL_coast 186 = .ok (.bipush 6, 2) := by decide +kernel
theorem dL_coast_188 : decode cL_coast 188 = .ok (.iaload, 1) := by decide +kernel
theorem dL_coast_189 : decode cL_coast 189 = .ok (.bipush 59, 2) := by decide +kernel
theorem dL_coast_191 : decode cL_coast 191 = .ok (.invokestatic 31, 3) := by decide +kernel
theorem dL_coast_194 : decode cL_coast 194 = .ok (.istore_n 3, 1) := by decide +kernel
theorem dL_coast_195 : decode cL_coast 195 = .ok (.aload_n 0, 1) := by decide +kernel
theorem dL_coast_196 : decode cL_coast 196 = .ok (.aload_n 0, 1) := by decide +kernel
theorem dL_coast_197 : decode cL_coast 197 = .ok (.aload_n 0, 1) := by decide +kernel
theorem dL_coast_198 : decode cL_coast 198 = .ok (.iload_n 3, 1) := by decide +kernel
theorem dL_coast_199 : decode cL_coast 199 = .ok (.bipush 117, 2) := by decide +kernel
theorem dL_coast_201 : decode cL_coast 201 = .ok (.invokestatic 14, 3) := by decide +kernel
theorem dL_coast_204 : decode cL_coast 204 = .ok (.aload_n 1, 1) := by decide +kernel
theorem dL_coast_205 : decode cL_coast 205 = .ok (.bipush 7, 2) := by decide +kernel
theorem dL_coast_207 : decode cL_coast 207 = .ok (.iaload, 1) := by decide +kernel
theorem dL_coast_208 : decode cL_coast 208 = .ok (.bipush 32, 2) := by decide +kernel
theorem dL_coast_210 : decode cL_coast 210 = .ok (.invokestatic 31, 3) := by decide +kernel
theorem dL_coast_213 : decode cL_coast 213 = .ok (.aload_n 1, 1) := by decide +kernel
theorem dL_coast_214 : decode cL_coast 214 = .ok (.bipush 8, 2) := by decide +kernel
theorem dL_coast_216 : decode cL_coast 216 = .ok (.iaload, 1) := by decide +kernel
theorem dL_coast_217 : decode cL_coast 217 = .ok (.bipush 59, 2) := by decide +kernel
theorem dL_coast_219 : decode cL_coast 219 = .ok (.invokestatic 31, 3) := by decide +kernel
theorem dL_coast_222 : decode cL_coast 222 = .ok (.istore_n 3, 1) := by decide +kernel
theorem dL_coast_223 : decode cL_coast 223 = .ok (.iconst 0, 1) := by decide +kernel
theorem dL_coast_224 : decode cL_coast 224 = .ok (.istore 4, 2) := by decide +kernel
theorem dL_coast_226 : decode cL_coast 226 = .ok (.iload 4, 2) := by decide +kernel
theorem dL_coast_228 : decode cL_coast 228 = .ok (.aload_n 1, 1) := by decide +kernel
theorem dL_coast_229 : decode cL_coast 229 = .ok (.iconst 4, 1) := by decide +kernel
theorem dL_coast_230 : decode cL_coast 230 = .ok (.iaload, 1) := by decide +kernel
theorem dL_coast_231 : decode cL_coast 231 = .ok (.if_icmp .ge 43, 3) := by decide +kernel
theorem dL_coast_234 : decode cL_coast 234 = .ok (.aload_n 0, 1) := by decide +kernel
theorem dL_coast_235 : decode cL_coast 235 = .ok (.aload_n 0, 1) := by decide +kernel
theorem dL_coast_236 : decode cL_coast 236 = .ok (.aload_n 0, 1) := by decide +kernel
theorem dL_coast_237 : decode cL_coast 237 = .ok (.iload_n 3, 1) := by decide +kernel
theorem dL_coast_238 : decode cL_coast 238 = .ok (.bipush 103, 2) := by decide +kernel
theorem dL_coast_240 : decode cL_coast 240 = .ok (.invokestatic 14, 3) := by decide +kernel
theorem dL_coast_243 : decode cL_coast 243 = .ok (.aload_n 1, 1) := by decide +kernel
theorem dL_coast_244 : decode cL_coast 244 = .ok (.bipush 21, 2) := by decide +kernel
theorem dL_coast_246 : decode cL_coast 246 = .ok (.iload 4, 2) := by decide +kernel
theorem dL_coast_248 : decode cL_coast 248 = .ok (.iadd, 1) := by decide +kernel
theorem dL_coast_249 : decode cL_coast 249 = .ok (.iaload, 1) := by decide +kernel
theorem dL_coast_250 : decode cL_coast 250 = .ok (.bipush 32, 2) := by decide +kernel
theorem dL_coast_252 : decode cL_coast 252 = .ok (.invokestatic 31, 3) := by decide +kernel
theorem dL_coast_255 : decode cL_coast 255 = .ok (.aload_n 1, 1) := by decide +kernel
theorem dL_coast_256 : decode cL_coast 256 = .ok (.bipush 25, 2) := by decide +kernel
theorem dL_coast_258 : decode cL_coast 258 = .ok (.iload 4, 2) := by decide +kernel
theorem dL_coast_260 : decode cL_coast 260 = .ok (.iadd, 1) := by decide +kernel
theorem dL_coast_261 : decode cL_coast 261 = .ok (.iaload, 1) := by decide +kernel
theorem dL_coast_262 : decode cL_coast 262 = .ok (.bipush 59, 2) := by decide +kernel
theorem dL_coast_264 : decode cL_coast 264 = .ok (.invokestatic 31, 3) := by decide +kernel
theorem dL_coast_267 : decode cL_coast 267 = .ok (.istore_n 3, 1) := by decide +kernel
theorem dL_coast_268 : decode cL_coast 268 = .ok (.iinc 4 1, 3) := by decide +kernel
theorem dL_coast_271 : decode cL_coast 271 = .ok (.goto (-45), 3) := by decide +kernel
theorem dL_coast_274 : decode cL_coast 274 = .ok (.iload_n 3, 1) := by decide +kernel
theorem dL_coast_275 : decode cL_coast 275 = .ok (.ifCond .le 42, 3) := by decide +kernel
theorem dL_coast_278 : decode cL_coast 278 = .ok (.aload_n 0, 1) := by decide +kernel
theorem dL_coast_279 : decode cL_coast 279 = .ok (.iconst 5, 1) := by decide +kernel
theorem dL_coast_280 : decode cL_coast 280 = .ok (.invokevirtual 28, 3) := by decide +kernel
theorem dL_coast_283 : decode cL_coast 283 = .ok (.iload_n 3, 1) := by decide +kernel
theorem dL_coast_284 : decode cL_coast 284 = .ok (.if_icmp .ne 33, 3) := by decide +kernel
theorem dL_coast_287 : decode cL_coast 287 = .ok (.aload_n 0, 1) := by decide +kernel
theorem dL_coast_288 : decode cL_coast 288 = .ok (.invokevirtual 35, 3) := by decide +kernel
theorem dL_coast_291 : decode cL_coast 291 = .ok (.aload_n 1, 1) := by decide +kernel
theorem dL_coast_292 : decode cL_coast 292 = .ok (.iconst 3, 1) := by decide +kernel
theorem dL_coast_293 : decode cL_coast 293 = .ok (.iaload, 1) := by decide +kernel
theorem dL_coast_294 : decode cL_coast 294 = .ok (.if_icmp .ne 23, 3) := by decide +kernel
theorem dL_coast_297 : decode cL_coast 297 = .ok (.aload_n 0, 1) := by decide +kernel
theorem dL_coast_298 : decode cL_coast 298 = .ok (.invokevirtual 39, 3) := by decide +kernel
theorem dL_coast_301 : decode cL_coast 301 = .ok (.iconst (-1), 1) := by decide +kernel
theorem dL_coast_302 : decode cL_coast 302 = .ok (.if_icmp .ne 15, 3) := by decide +kernel
theorem dL_coast_305 : decode cL_coast 305 = .ok (.aload_n 0, 1) := by decide +kernel
theorem dL_coast_306 : decode cL_coast 306 = .ok (.iconst 5, 1) := by decide +kernel
theorem dL_coast_307 : decode cL_coast 307 = .ok (.invokevirtual 28, 3) := by decide +kernel
theorem dL_coast_310 : decode cL_coast 310 = .ok (.ifCond .ne 7, 3) := by decide +kernel
theorem dL_coast_313 : decode cL_coast 313 = .ok (.iconst 1, 1) := by decide +kernel
theorem dL_coast_314 : decode cL_coast 314 = .ok (.goto 4, 3) := by decide +kernel
theorem dL_coast_317 : decode cL_coast 317 = .ok (.iconst 0, 1) := by decide +kernel
theorem dL_coast_318 : decode cL_coast 318 = .ok (.ireturn, 1) := by decide +kernel
theorem dL_hang_0 : decode cL_hang 0 = .ok (.iconst 0, 1) := by decide +kernel
theorem dL_hang_1 : decode cL_hang 1 = .ok (.istore_n 2, 1) := by decide +kernel
theorem dL_hang_2 : decode cL_hang 2 = .ok (.iconst 0, 1) := by decide +kernel
theorem dL_hang_3 : decode cL_hang 3 = .ok (.istore_n 3, 1) := by decide +kernel
theorem dL_hang_4 : decode cL_hang 4 = .ok (.iload_n 3, 1) := by decide +kernel
theorem dL_hang_5 : decode cL_hang 5 = .ok (.aload_n 0, 1) := by decide +kernel
theorem dL_hang_6 : decode cL_hang 6 = .ok (.iconst 3, 1) := by decide +kernel
theorem dL_hang_7 : decode cL_hang 7 = .ok (.iaload, 1) := by decide +kernel
theorem dL_hang_8 : decode cL_hang 8 = .ok (.if_icmp .ge 33, 3) := by decide +kernel
theorem dL_hang_11 : decode cL_hang 11 = .ok (.iload_n 2, 1) := by decide +kernel
theorem dL_hang_12 : decode cL_hang 12 = .ok (.aload_n 0, 1) := by decide +kernel
theorem dL_hang_13 : decode cL_hang 13 = .ok (.iconst 5, 1) := by decide +kernel
theorem dL_hang_14 : decode cL_hang 14 = .ok (.aload_n 0, 1) := by decide +kernel
theorem dL_hang_15 : decode cL_hang 15 = .ok (.bipush 15, 2) := by decide +kernel
theorem dL_hang_17 : decode cL_hang 17 = .ok (.iload_n 3, 1) := by decide +kernel
theorem dL_hang_18 : decode cL_hang 18 = .ok (.iadd, 1) := by decide +kernel
theorem dL_hang_19 : decode cL_hang 19 = .ok (.iaload, 1) := by decide +kernel
theorem dL_hang_20 : decode cL_hang 20 = .ok (.iadd, 1) := by decide +kernel
theorem dL_hang_21 : decode cL_hang 21 = .ok (.iaload, 1) := by decide +kernel
theorem dL_hang_22 : decode cL_hang 22 = .ok (.aload_n 1, 1) := by decide +kernel
theorem dL_hang_23 : decode cL_hang 23 = .ok (.iconst 0, 1) := by decide +kernel
theorem dL_hang_24 : decode cL_hang 24 = .ok (.iaload, 1) := by decide +kernel
theorem dL_hang_25 : decode cL_hang 25 = .ok (.bipush 7, 2) := by decide +kernel
theorem dL_hang_27 : decode cL_hang 27 = .ok (.irem, 1) := by decide +kernel
theorem dL_hang_28 : decode cL_hang 28 = .ok (.ishr, 1) := by decide +kernel
theorem dL_hang_29 : decode cL_hang 29 = .ok (.iconst 1, 1) := by decide +kernel
theorem dL_hang_30 : decode cL_hang 30 = .ok (.iand, 1) := by decide +kernel
theorem dL_hang_31 : decode cL_hang 31 = .ok (.iload_n 3, 1) := by decide +kernel
theorem dL_hang_32 : decode cL_hang 32 = .ok (.ishl, 1) := by decide +kernel
theorem dL_hang_33 : decode cL_hang 33 = .ok (.ior, 1) := by decide +kernel
theorem dL_hang_34 : decode cL_hang 34 = .ok (.istore_n 2, 1) := by decide +kernel
theorem dL_hang_35 : decode cL_hang 35 = .ok (.iinc 3 1, 3) := by decide +kernel
theorem dL_hang_38 : decode cL_hang 38 = .ok (.goto (-34), 3) := by decide +kernel
theorem dL_hang_41 : decode cL_hang 41 = .ok (.iload_n 2, 1) := by decide +kernel
theorem dL_hang_42 : decode cL_hang 42 = .ok (.ireturn, 1) := by decide +kernel
theorem dL_dayLong_0 : decode cL_dayLong 0 = .ok (.aload_n 0, 1) := by decide +kernel
theorem dL_dayLong_1 : decode cL_dayLong 1 = .ok (.iconst 2, 1) := by decide +kernel
theorem dL_dayLong_2 : decode cL_dayLong 2 = .ok (.iaload, 1) := by decide +kernel
theorem dL_dayLong_3 : decode cL_dayLong 3 = .ok (.iconst 1, 1) := by decide +kernel
theorem dL_dayLong_4 : decode cL_dayLong 4 = .ok (.if_icmp .ge 7, 3) := by decide +kernel
theorem dL_dayLong_7 : decode cL_dayLong 7 = .ok (.iconst 1, 1) := by decide +kernel
theorem dL_dayLong_8 : decode cL_dayLong 8 = .ok (.goto 6, 3) := by decide +kernel
theorem dL_dayLong_11 : decode cL_dayLong 11 = .ok (.aload_n 0, 1) := by decide +kernel
theorem dL_dayLong_12 : decode cL_dayLong 12 = .ok (.iconst 2, 1) := by decide +kernel
theorem dL_dayLong_13 : decode cL_dayLong 13 = .ok (.iaload, 1) := by decide +kernel
theorem dL_dayLong_14 : decode cL_dayLong 14 = .ok (.ireturn, 1) := by decide +kernel
theorem dL_side_0 : decode cL_side 0 = .ok (.aload_n 0, 1) := by decide +kernel
theorem dL_side_1 : decode cL_side 1 = .ok (.iconst 2, 1) := by decide +kernel
theorem dL_side_2 : decode cL_side 2 = .ok (.iaload, 1) := by decide +kernel
theorem dL_side_3 : decode cL_side 3 = .ok (.iconst 1, 1) := by decide +kernel
theorem dL_side_4 : decode cL_side 4 = .ok (.if_icmp .ge 7, 3) := by decide +kernel
theorem dL_side_7 : decode cL_side 7 = .ok (.iconst 0, 1) := by decide +kernel
theorem dL_side_8 : decode cL_side 8 = .ok (.goto 13, 3) := by decide +kernel
theorem dL_side_11 : decode cL_side 11 = .ok (.aload_n 0, 1) := by decide +kernel
theorem dL_side_12 : decode cL_side 12 = .ok (.bipush 29, 2) := by decide +kernel
theorem dL_side_14 : decode cL_side 14 = .ok (.iconst 2, 1) := by decide +kernel
theorem dL_side_15 : decode cL_side 15 = .ok (.aload_n 1, 1) := by decide +kernel
theorem dL_side_16 : decode cL_side 16 = .ok (.iconst 1, 1) := by decide +kernel
theorem dL_side_17 : decode cL_side 17 = .ok (.iaload, 1) := by decide +kernel
theorem dL_side_18 : decode cL_side 18 = .ok (.imul, 1) := by decide +kernel
theorem dL_side_19 : decode cL_side 19 = .ok (.iadd, 1) := by decide +kernel
theorem dL_side_20 : decode cL_side 20 = .ok (.iaload, 1) := by decide +kernel
theorem dL_side_21 : decode cL_side 21 = .ok (.ireturn, 1) := by decide +kernel
theorem dL_fog_0 : decode cL_fog 0 = .ok (.aload_n 0, 1) := by decide +kernel
theorem dL_fog_1 : decode cL_fog 1 = .ok (.iconst 2, 1) := by decide +kernel
theorem dL_fog_2 : decode cL_fog 2 = .ok (.iaload, 1) := by decide +kernel
theorem dL_fog_3 : decode cL_fog 3 = .ok (.iconst 1, 1) := by decide +kernel
theorem dL_fog_4 : decode cL_fog 4 = .ok (.if_icmp .ge 7, 3) := by decide +kernel
theorem dL_fog_7 : decode cL_fog 7 = .ok (.iconst 0, 1) := by decide +kernel
theorem dL_fog_8 : decode cL_fog 8 = .ok (.goto 13, 3) := by decide +kernel
theorem dL_fog_11 : decode cL_fog 11 = .ok (.aload_n 0, 1) := by decide +kernel
theorem dL_fog_12 : decode cL_fog 12 = .ok (.bipush 30, 2) := by decide +kernel
theorem dL_fog_14 : decode cL_fog 14 = .ok (.iconst 2, 1) := by decide +kernel
theorem dL_fog_15 : decode cL_fog 15 = .ok (.aload_n 1, 1) := by decide +kernel
theorem dL_fog_16 : decode cL_fog 16 = .ok (.iconst 1, 1) := by decide +kernel
theorem dL_fog_17 : decode cL_fog 17 = .ok (.iaload, 1) := by decide +kernel
theorem dL_fog_18 : decode cL_fog 18 = .ok (.imul, 1) := by decide +kernel
theorem dL_fog_19 : decode cL_fog 19 = .ok (.iadd, 1) := by decide +kernel
theorem dL_fog_20 : decode cL_fog 20 = .ok (.iaload, 1) := by decide +kernel
theorem dL_fog_21 : decode cL_fog 21 = .ok (.ireturn, 1) := by decide +kernel
theorem dL_isCoast_0 : decode cL_isCoast 0 = .ok (.iconst 0, 1) := by decide +kernel
theorem dL_isCoast_1 : decode cL_isCoast 1 = .ok (.istore_n 3, 1) := by decide +kernel
theorem dL_isCoast_2 : decode cL_isCoast 2 = .ok (.iconst 0, 1) := by decide +kernel
theorem dL_isCoast_3 : decode cL_isCoast 3 = .ok (.istore 4, 2) := by decide +kernel
theorem dL_isCoast_5 : decode cL_isCoast 5 = .ok (.iload 4, 2) := by decide +kernel
theorem dL_isCoast_7 : decode cL_isCoast 7 = .ok (.aload_n 1, 1) := by decide +kernel
theorem dL_isCoast_8 : decode cL_isCoast 8 = .ok (.iconst 3, 1) := by decide +kernel
theorem dL_isCoast_9 : decode cL_isCoast 9 = .ok (.iaload, 1) := by decide +kernel
theorem dL_isCoast_10 : decode cL_isCoast 10 = .ok (.if_icmp .ge 19, 3) := by decide +kernel
theorem dL_isCoast_13 : decode cL_isCoast 13 = .ok (.iload_n 3, 1) := by decide +kernel
theorem dL_isCoast_14 : decode cL_isCoast 14 = .ok (.aload_n 2, 1) := by decide +kernel
theorem dL_isCoast_15 : decode cL_isCoast 15 = .ok (.bipush 9, 2) := by decide +kernel
theorem dL_isCoast_17 : decode cL_isCoast 17 = .ok (.iload 4, 2) := by decide +kernel
theorem dL_isCoast_19 : decode cL_isCoast 19 = .ok (.iadd, 1) := by decide +kernel
theorem dL_isCoast_20 : decode cL_isCoast 20 = .ok (.iaload, 1) := by decide +kernel
theorem dL_isCoast_21 : decode cL_isCoast 21 = .ok (.iadd, 1) := by decide +kernel
theorem dL_isCoast_22 : decode cL_isCoast 22 = .ok (.istore_n 3, 1) := by decide +kernel
theorem dL_isCoast_23 : decode cL_isCoast 23 = .ok (.iinc 4 1, 3) := by decide +kernel
theorem dL_isCoast_26 : decode cL_isCoast 26 = .ok (.goto (-21), 3) := by decide +kernel
theorem dL_isCoast_29 : decode cL_isCoast 29 = .ok (.aload_n 0, 1) := by decide +kernel
theorem dL_isCoast_30 : decode cL_isCoast 30 = .ok (.iconst 0, 1) := by decide +kernel
theorem dL_isCoast_31 : decode cL_isCoast 31 = .ok (.invokevirtual 28, 3) := by decide +kernel
theorem dL_isCoast_34 : decode cL_isCoast 34 = .ok (.aload_n 1, 1) := by decide +kernel
theorem dL_isCoast_35 : decode cL_isCoast 35 = .ok (.iconst 0, 1) := by decide +kernel
theorem dL_isCoast_36 : decode cL_isCoast 36 = .ok (.iaload, 1) := by decide +kernel
theorem dL_isCoast_37 : decode cL_isCoast 37 = .ok (.if_icmp .ne 164, 3) := by decide +kernel
theorem dL_isCoast_40 : decode cL_isCoast 40 = .ok (.aload_n 0, 1) := by decide +kernel
theorem dL_isCoast_41 : decode cL_isCoast 41 = .ok (.iconst 1, 1) := by decide +kernel
theorem dL_isCoast_42 : decode cL_isCoast 42 = .ok (.invokevirtual 28, 3) := by decide +kernel
theorem dL_isCoast_45 : decode cL_isCoast 45 = .ok (.aload_n 1, 1) := by decide +kernel
theorem dL_isCoast_46 : decode cL_isCoast 46 = .ok (.iconst 1, 1) := by decide +kernel
theorem dL_isCoast_47 : decode cL_isCoast 47 = .ok (.iaload, 1) := by decide +kernel
theorem dL_isCoast_48 : decode cL_isCoast 48 = .ok (.if_icmp .ne 153, 3) := by decide +kernel
theorem dL_isCoast_51 : decode cL_isCoast 51 = .ok (.aload_n 0, 1) := by decide +kernel
theorem dL_isCoast_52 : decode cL_isCoast 52 = .ok (.iconst 2, 1) := by decide +kernel
theorem dL_isCoast_53 : decode cL_isCoast 53 = .ok (.invokevirtual 28, 3) := by decide +kernel
theorem dL_isCoast_56 : decode cL_isCoast 56 = .ok (.aload_n 1, 1) := by decide +kernel
theorem dL_isCoast_57 : decode cL_isCoast 57 = .ok (.invokestatic 59, 3) := by decide +kernel
theorem dL_isCoast_60 : decode cL_isCoast 60 = .ok (.if_icmp .ne 141, 3) := by decide +kernel
theorem dL_isCoast_63 : decode cL_isCoast 63 = .ok (.aload_n 0, 1) := by decide +kernel
theorem dL_isCoast_64 : decode cL_isCoast 64 = .ok (.iconst 3, 1) := by decide +kernel
theorem dL_isCoast_65 : decode cL_isCoast 65 = .ok (.invokevirtual 28, 3) := by decide +kernel
theorem dL_isCoast_68 : decode cL_isCoast 68 = .ok (.aload_n 1, 1) := by decide +kernel
theorem dL_isCoast_69 : decode cL_isCoast 69 = .ok (.iconst 3, 1) := by decide +kernel
theorem dL_isCoast_70 : decode cL_isCoast 70 = .ok (.iaload, 1) := by decide +kernel
theorem dL_isCoast_71 : decode cL_isCoast 71 = .ok (.if_icmp .ne 130, 3) := by decide +kernel
theorem dL_isCoast_74 : decode cL_isCoast 74 = .ok (.aload_n 0, 1) := by decide +kernel
theorem dL_isCoast_75 : decode cL_isCoast 75 = .ok (.iconst 4, 1) := by decide +kernel
theorem dL_isCoast_76 : decode cL_isCoast 76 = .ok (.invokevirtual 28, 3) := by decide +kernel
theorem dL_isCoast_79 : decode cL_isCoast 79 = .ok (.aload_n 1, 1) := by decide +kernel
theorem dL_isCoast_80 : decode cL_isCoast 80 = .ok (.iconst 4, 1) := by decide +kernel
theorem dL_isCoast_81 : decode cL_isCoast 81 = .ok (.iaload, 1) := by decide +kernel
theorem dL_isCoast_82 : decode cL_isCoast 82 = .ok (.if_icmp .ne 119, 3) := by decide +kernel
theorem dL_isCoast_85 : decode cL_isCoast 85 = .ok (.aload_n 0, 1) := by decide +kernel
theorem dL_isCoast_86 : decode cL_isCoast 86 = .ok (.bipush 6, 2) := by decide +kernel
theorem dL_isCoast_88 : decode cL_isCoast 88 = .ok (.invokevirtual 28, 3) := by decide +kernel
theorem dL_isCoast_91 : decode cL_isCoast 91 = .ok (.aload_n 2, 1) := by decide +kernel
theorem dL_isCoast_92 : decode cL_isCoast 92 = .ok (.iconst 0, 1) := by decide +kernel
theorem dL_isCoast_93 : decode cL_isCoast 93 = .ok (.iaload, 1) := by decide +kernel
theorem dL_isCoast_94 : decode cL_isCoast 94 = .ok (.if_icmp .ne 107, 3) := by decide +kernel
theorem dL_isCoast_97 : decode cL_isCoast 97 = .ok (.aload_n 0, 1) := by decide +kernel
theorem dL_isCoast_98 : decode cL_isCoast 98 = .ok (.bipush 7, 2) := by decide +kernel
theorem dL_isCoast_100 : decode cL_isCoast 100 = .ok (.invokevirtual 28, 3) := by decide +kernel
theorem dL_isCoast_103 : decode cL_isCoast 103 = .ok (.aload_n 2, 1) := by decide +kernel
theorem dL_isCoast_104 : decode cL_isCoast 104 = .ok (.iconst 1, 1) := by decide +kernel
theorem dL_isCoast_105 : decode cL_isCoast 105 = .ok (.iaload, 1) := by decide +kernel
theorem dL_isCoast_106 : decode cL_isCoast 106 = .ok (.if_icmp .ne 95, 3) := by decide +kernel
theorem dL_isCoast_109 : decode cL_isCoast 109 = .ok (.aload_n 0, 1) := by decide +kernel
theorem dL_isCoast_110 : decode cL_isCoast 110 = .ok (.bipush 8, 2) := by decide +kernel
theorem dL_isCoast_112 : decode cL_isCoast 112 = .ok (.invokevirtual 28, 3) := by decide +kernel
theorem dL_isCoast_115 : decode cL_isCoast 115 = .ok (.aload_n 2, 1) := by decide +kernel
theorem dL_isCoast_116 : decode cL_isCoast 116 = .ok (.iconst 2, 1) := by decide +kernel
theorem dL_isCoast_117 : decode cL_isCoast 117 = .ok (.iaload, 1) := by decide +kernel
theorem dL_isCoast_118 : decode cL_isCoast 118 = .ok (.if_icmp .ne 83, 3) := by decide +kernel
theorem dL_isCoast_121 : decode cL_isCoast 121 = .ok (.aload_n 0, 1) := by decide +kernel
theorem dL_isCoast_122 : decode cL_isCoast 122 = .ok (.bipush 9, 2) := by decide +kernel
theorem dL_isCoast_124 : decode cL_isCoast 124 = .ok (.invokevirtual 28, 3) := by decide +kernel
theorem dL_isCoast_127 : decode cL_isCoast 127 = .ok (.aload_n 1, 1) := by decide +kernel
theorem dL_isCoast_128 : decode cL_isCoast 128 = .ok (.aload_n 2, 1) := by decide +kernel
theorem dL_isCoast_129 : decode cL_isCoast 129 = .ok (.invokestatic 48, 3) := by decide +kernel
theorem dL_isCoast_132 : decode cL_isCoast 132 = .ok (.if_icmp .ne 69, 3) := by decide +kernel
theorem dL_isCoast_135 : decode cL_isCoast 135 = .ok (.aload_n 0, 1) := by decide +kernel
theorem dL_isCoast_136 : decode cL_isCoast 136 = .ok (.bipush 10, 2) := by decide +kernel
theorem dL_isCoast_138 : decode cL_isCoast 138 = .ok (.invokevirtual 28, 3) := by decide +kernel
theorem dL_isCoast_141 : decode cL_isCoast 141 = .ok (.iload_n 3, 1) := by decide +kernel
theorem dL_isCoast_142 : decode cL_isCoast 142 = .ok (.if_icmp .ne 59, 3) := by decide +kernel
theorem dL_isCoast_145 : decode cL_isCoast 145 = .ok (.aload_n 0, 1) := by decide +kernel
theorem dL_isCoast_146 : decode cL_isCoast 146 = .ok (.bipush 11, 2) := by decide +kernel
theorem dL_isCoast_148 : decode cL_isCoast 148 = .ok (.invokevirtual 28, 3) := by decide +kernel
theorem dL_isCoast_151 : decode cL_isCoast 151 = .ok (.aload_n 2, 1) := by decide +kernel
theorem dL_isCoast_152 : decode cL_isCoast 152 = .ok (.iconst 3, 1) := by decide +kernel
theorem dL_isCoast_153 : decode cL_isCoast 153 = .ok (.iaload, 1) := by decide +kernel
theorem dL_isCoast_154 : decode cL_isCoast 154 = .ok (.if_icmp .ne 47, 3) := by decide +kernel
theorem dL_isCoast_157 : decode cL_isCoast 157 = .ok (.aload_n 0, 1) := by decide +kernel
theorem dL_isCoast_158 : decode cL_isCoast 158 = .ok (.bipush 12, 2) := by decide +kernel
theorem dL_isCoast_160 : decode cL_isCoast 160 = .ok (.invokevirtual 28, 3) := by decide +kernel
theorem dL_isCoast_163 : decode cL_isCoast 163 = .ok (.aload_n 2, 1) := by decide +kernel
theorem dL_isCoast_164 : decode cL_isCoast 164 = .ok (.iconst 4, 1) := by decide +kernel
theorem dL_isCoast_165 : decode cL_isCoast 165 = .ok (.iaload, 1) := by decide +kernel
theorem dL_isCoast_166 : decode cL_isCoast 166 = .ok (.if_icmp .ne 35, 3) := by decide +kernel
theorem dL_isCoast_169 : decode cL_isCoast 169 = .ok (.aload_n 0, 1) := by decide +kernel
theorem dL_isCoast_170 : decode cL_isCoast 170 = .ok (.iconst (-1), 1) := by decide +kernel
theorem dL_isCoast_171 : decode cL_isCoast 171 = .ok (.iconst 0, 1) := by decide +kernel
theorem dL_isCoast_172 : decode cL_isCoast 172 = .ok (.invokevirtual 79, 3) := by decide +kernel
theorem dL_isCoast_175 : decode cL_isCoast 175 = .ok (.aload_n 1, 1) := by decide +kernel
theorem dL_isCoast_176 : decode cL_isCoast 176 = .ok (.aload_n 2, 1) := by decide +kernel
theorem dL_isCoast_177 : decode cL_isCoast 177 = .ok (.invokestatic 72, 3) := by decide +kernel
theorem dL_isCoast_180 : decode cL_isCoast 180 = .ok (.if_icmp .ne 21, 3) := by decide +kernel
theorem dL_isCoast_183 : decode cL_isCoast 183 = .ok (.aload_n 0, 1) := by decide +kernel
theorem dL_isCoast_184 : decode cL_isCoast 184 = .ok (.iconst (-1), 1) := by decide +kernel
theorem dL_isCoast_185 : decode cL_isCoast 185 = .ok (.iconst 1, 1) := by decide +kernel
theorem dL_isCoast_186 : decode cL_isCoast 186 = .ok (.invokevirtual 79, 3) := by decide +kernel
theorem dL_isCoast_189 : decode cL_isCoast 189 = .ok (.aload_n 1, 1) := by decide +kernel
theorem dL_isCoast_190 : decode cL_isCoast 190 = .ok (.aload_n 2, 1) := by decide +kernel
theorem dL_isCoast_191 : decode cL_isCoast 191 = .ok (.invokestatic 69, 3) := by decide +kernel
theorem dL_isCoast_194 : decode cL_isCoast 194 = .ok (.if_icmp .ne 7, 3) := by decide +kernel
theorem dL_isCoast_197 : decode cL_isCoast 197 = .ok (.iconst 1, 1) := by decide +kernel
theorem dL_isCoast_198 : decode cL_isCoast 198 = .ok (.goto 4, 3) := by decide +kernel
theorem dL_isCoast_201 : decode cL_isCoast 201 = .ok (.iconst 0, 1) := by decide +kernel
theorem dL_isCoast_202 : decode cL_isCoast 202 = .ok (.istore 4, 2) := by decide +kernel
theorem dL_isCoast_204 : decode cL_isCoast 204 = .ok (.iconst 0, 1) := by decide +kernel
theorem dL_isCoast_205 : decode cL_isCoast 205 = .ok (.istore 5, 2) := by decide +kernel
theorem dL_isCoast_207 : decode cL_isCoast 207 = .ok (.iload 5, 2) := by decide +kernel
theorem dL_isCoast_209 : decode cL_isCoast 209 = .ok (.aload_n 1, 1) := by decide +kernel
theorem dL_isCoast_210 : decode cL_isCoast 210 = .ok (.iconst 3, 1) := by decide +kernel
theorem dL_isCoast_211 : decode cL_isCoast 211 = .ok (.iaload, 1) := by decide +kernel
theorem dL_isCoast_212 : decode cL_isCoast 212 = .ok (.if_icmp .ge 106, 3) := by decide +kernel
theorem dL_isCoast_215 : decode cL_isCoast 215 = .ok (.iload 4, 2) := by decide +kernel
theorem dL_isCoast_217 : decode cL_isCoast 217 = .ok (.ifCond .eq 101, 3) := by decide +kernel
theorem dL_isCoast_220 : decode cL_isCoast 220 = .ok (.aload_n 0, 1) := by decide +kernel
theorem dL_isCoast_221 : decode cL_isCoast 221 = .ok (.iload 5, 2) := by decide +kernel
theorem dL_isCoast_223 : decode cL_isCoast 223 = .ok (.iconst 0, 1) := by decide +kernel
theorem dL_isCoast_224 : decode cL_isCoast 224 = .ok (.invokevirtual 82, 3) := by decide +kernel
theorem dL_isCoast_227 : decode cL_isCoast 227 = .ok (.aload_n 2, 1) := by decide +kernel
theorem dL_isCoast_228 : decode cL_isCoast 228 = .ok (.bipush 15, 2) := by decide +kernel
theorem dL_isCoast_230 : decode cL_isCoast 230 = .ok (.iload 5, 2) := by decide +kernel
theorem dL_isCoast_232 : decode cL_isCoast 232 = .ok (.iadd, 1) := by decide +kernel
theorem dL_isCoast_233 : decode cL_isCoast 233 = .ok (.iaload, 1) := by decide +kernel
theorem dL_isCoast_234 : decode cL_isCoast 234 = .ok (.if_icmp .ne 75, 3) := by decide +kernel
theorem dL_isCoast_237 : decode cL_isCoast 237 = .ok (.aload_n 0, 1) := by decide +kernel
theorem dL_isCoast_238 : decode cL_isCoast 238 = .ok (.iload 5, 2) := by decide +kernel
theorem dL_isCoast_240 : decode cL_isCoast 240 = .ok (.iconst 1, 1) := by decide +kernel
theorem dL_isCoast_241 : decode cL_isCoast 241 = .ok (.invokevirtual 82, 3) := by decide +kernel
theorem dL_isCoast_244 : decode cL_isCoast 244 = .ok (.aload_n 2, 1) := by decide +kernel
theorem dL_isCoast_245 : decode cL_isCoast 245 = .ok (.bipush 21, 2) := by decide +kernel
theorem dL_isCoast_247 : decode cL_isCoast 247 = .ok (.iload 5, 2) := by decide +kernel
theorem dL_isCoast_249 : decode cL_isCoast 249 = .ok (.iadd, 1) := by decide +kernel
theorem dL_isCoast_250 : decode cL_isCoast 250 = .ok (.iaload, 1) := by decide +kernel
theorem dL_isCoast_251 : decode cL_isCoast 251 = .ok (.if_icmp .ne 58, 3) := by decide +kernel
theorem dL_isCoast_254 : decode cL_isCoast 254 = .ok (.aload_n 0, 1) := by decide +kernel
theorem dL_isCoast_255 : decode cL_isCoast 255 = .ok (.iload 5, 2) := by decide +kernel
theorem dL_isCoast_257 : decode cL_isCoast 257 = .ok (.iconst 2, 1) := by decide +kernel
theorem dL_isCoast_258 : decode cL_isCoast 258 = .ok (.invokevirtual 82, 3) := by decide +kernel
theorem dL_isCoast_261 : decode cL_isCoast 261 = .ok (.aload_n 1, 1) := by decide +kernel
theorem dL_isCoast_262 : decode cL_isCoast 262 = .ok (.bipush 9, 2) := by decide +kernel
theorem dL_isCoast_264 : decode cL_isCoast 264 = .ok (.iload 5, 2) := by decide +kernel
theorem dL_isCoast_266 : decode cL_isCoast 266 = .ok (.iadd, 1) := by decide +kernel
theorem dL_isCoast_267 : decode cL_isCoast 267 = .ok (.iaload, 1) := by decide +kernel
theorem dL_isCoast_268 : decode cL_isCoast 268 = .ok (.if_icmp .ne 41, 3) := by decide +kernel
theorem dL_isCoast_271 : decode cL_isCoast 271 = .ok (.aload_n 0, 1) := by decide +kernel
theorem dL_isCoast_272 : decode cL_isCoast 272 = .ok (.iload 5, 2) := by decide +kernel
theorem dL_isCoast_274 : decode cL_isCoast 274 = .ok (.iconst 3, 1) := by decide +kernel
theorem dL_isCoast_275 : decode cL_isCoast 275 = .ok (.invokevirtual 82, 3) := by decide +kernel
theorem dL_isCoast_278 : decode cL_isCoast 278 = .ok (.aload_n 1, 1) := by decide +kernel
theorem dL_isCoast_279 : decode cL_isCoast 279 = .ok (.bipush 15, 2) := by decide +kernel
theorem dL_isCoast_281 : decode cL_isCoast 281 = .ok (.iload 5, 2) := by decide +kernel
theorem dL_isCoast_283 : decode cL_isCoast 283 = .ok (.iadd, 1) := by decide +kernel
theorem dL_isCoast_284 : decode cL_isCoast 284 = .ok (.iaload, 1) := by decide +kernel
theorem dL_isCoast_285 : decode cL_isCoast 285 = .ok (.if_icmp .ne 24, 3) := by decide +kernel
theorem dL_isCoast_288 : decode cL_isCoast 288 = .ok (.aload_n 0, 1) := by decide +kernel
theorem dL_isCoast_289 : decode cL_isCoast 289 = .ok (.iload 5, 2) := by decide +kernel
theorem dL_isCoast_291 : decode cL_isCoast 291 = .ok (.iconst 4, 1) := by decide +kernel
theorem dL_isCoast_292 : decode cL_isCoast 292 = .ok (.invokevirtual 82, 3) := by decide +kernel
theorem dL_isCoast_295 : decode cL_isCoast 295 = .ok (.aload_n 2, 1) := by decide +kernel
theorem dL_isCoast_296 : decode cL_isCoast 296 = .ok (.bipush 9, 2) := by decide +kernel
theorem dL_isCoast_298 : decode cL_isCoast 298 = .ok (.iload 5, 2) := by decide +kernel
theorem dL_isCoast_300 : decode cL_isCoast 300 = .ok (.iadd, 1) := by decide +kernel
theorem dL_isCoast_301 : decode cL_isCoast 301 = .ok (.iaload, 1) := by decide +kernel
theorem dL_isCoast_302 : decode cL_isCoast 302 = .ok (.if_icmp .ne 7, 3) := by decide +kernel
theorem dL_isCoast_305 : decode cL_isCoast 305 = .ok (.iconst 1, 1) := by decide +kernel
theorem dL_isCoast_306 : decode cL_isCoast 306 = .ok (.goto 4, 3) := by decide +kernel
theorem dL_isCoast_309 : decode cL_isCoast 309 = .ok (.iconst 0, 1) := by decide +kernel
theorem dL_isCoast_310 : decode cL_isCoast 310 = .ok (.istore 4, 2) := by decide +kernel
theorem dL_isCoast_312 : decode cL_isCoast 312 = .ok (.iinc 5 1, 3) := by decide +kernel
theorem dL_isCoast_315 : decode cL_isCoast 315 = .ok (.goto (-108), 3) := by decide +kernel
theorem dL_isCoast_318 : decode cL_isCoast 318 = .ok (.iconst 0, 1) := by decide +kernel
theorem dL_isCoast_319 : decode cL_isCoast 319 = .ok (.istore 5, 2) := by decide +kernel
theorem dL_isCoast_321 : decode cL_isCoast 321 = .ok (.iload 5, 2) := by decide +kernel
theorem dL_isCoast_323 : decode cL_isCoast 323 = .ok (.iconst 2, 1) := by decide +kernel
theorem dL_isCoast_324 : decode cL_isCoast 324 = .ok (.if_icmp .ge 144, 3) := by decide +kernel
theorem dL_isCoast_327 : decode cL_isCoast 327 = .ok (.iload 4, 2) := by decide +kernel
theorem dL_isCoast_329 : decode cL_isCoast 329 = .ok (.ifCond .eq 139, 3) := by decide +kernel
theorem dL_isCoast_332 : decode cL_isCoast 332 = .ok (.iconst 0, 1) := by decide +kernel
theorem dL_isCoast_333 : decode cL_isCoast 333 = .ok (.istore 6, 2) := by decide +kernel
theorem dL_isCoast_335 : decode cL_isCoast 335 = .ok (.iconst 0, 1) := by decide +kernel
theorem dL_isCoast_336 : decode cL_isCoast 336 = .ok (.istore 7, 2) := by decide +kernel
theorem dL_isCoast_338 : decode cL_isCoast 338 = .ok (.iload 7, 2) := by decide +kernel
theorem dL_isCoast_340 : decode cL_isCoast 340 = .ok (.aload_n 1, 1) := by decide +kernel
theorem dL_isCoast_341 : decode cL_isCoast 341 = .ok (.iconst 3, 1) := by decide +kernel
theorem dL_isCoast_342 : decode cL_isCoast 342 = .ok (.iaload, 1) := by decide +kernel
theorem dL_isCoast_343 : decode cL_isCoast 343 = .ok (.if_icmp .ge 34, 3) := by decide +kernel
theorem dL_isCoast_346 : decode cL_isCoast 346 = .ok (.iload 6, 2) := by decide +kernel
theorem dL_isCoast_348 : decode cL_isCoast 348 = .ok (.aload_n 1, 1) := by decide +kernel
theorem dL_isCoast_349 : decode cL_isCoast 349 = .ok (.bipush 15, 2) := by decide +kernel
theorem dL_isCoast_351 : decode cL_isCoast 351 = .ok (.iload 7, 2) := by decide +kernel
theorem dL_isCoast_353 : decode cL_isCoast 353 = .ok (.iadd, 1) := by decide +kernel
theorem dL_isCoast_354 : decode cL_isCoast 354 = .ok (.iaload, 1) := by decide +kernel
theorem dL_isCoast_355 : decode cL_isCoast 355 = .ok (.iload 5, 2) := by decide +kernel
theorem dL_isCoast_357 : decode cL_isCoast 357 = .ok (.if_icmp .ne 10, 3) := by decide +kernel
theorem dL_isCoast_360 : decode cL_isCoast 360 = .ok (.iconst 1, 1) := by decide +kernel
theorem dL_isCoast_361 : decode cL_isCoast 361 = .ok (.iload 7, 2) := by decide +kernel
theorem dL_isCoast_363 : decode cL_isCoast 363 = .ok (.ishl, 1) := by decide +kernel
theorem dL_isCoast_364 : decode cL_isCoast 364 = .ok (.goto 4, 3) := by decide +kernel
theorem dL_isCoast_367 : decode cL_isCoast 367 = .ok (.iconst 0, 1) := by decide +kernel
theorem dL_isCoast_368 : decode cL_isCoast 368 = .ok (.ior, 1) := by decide +kernel
theorem dL_isCoast_369 : decode cL_isCoast 369 = .ok (.istore 6, 2) := by decide +kernel
theorem dL_isCoast_371 : decode cL_isCoast 371 = .ok (.iinc 7 1, 3) := by decide +kernel
theorem dL_isCoast_374 : decode cL_isCoast 374 = .ok (.goto (-36), 3) := by decide +kernel
theorem dL_isCoast_377 : decode cL_isCoast 377 = .ok (.aload_n 0, 1) := by decide +kernel
theorem dL_isCoast_378 : decode cL_isCoast 378 = .ok (.iload 5, 2) := by decide +kernel
theorem dL_isCoast_380 : decode cL_isCoast 380 = .ok (.iconst 0, 1) := by decide +kernel
theorem dL_isCoast_381 : decode cL_isCoast 381 = .ok (.invokevirtual 85, 3) := by decide +kernel
theorem dL_isCoast_384 : decode cL_isCoast 384 = .ok (.aload_n 1, 1) := by decide +kernel
theorem dL_isCoast_385 : decode cL_isCoast 385 = .ok (.iconst 5, 1) := by decide +kernel
theorem dL_isCoast_386 : decode cL_isCoast 386 = .ok (.iload 5, 2) := by decide +kernel
theorem dL_isCoast_388 : decode cL_isCoast 388 = .ok (.iadd, 1) := by decide +kernel
theorem dL_isCoast_389 : decode cL_isCoast 389 = .ok (.iaload, 1) := by decide +kernel
theorem dL_isCoast_390 : decode cL_isCoast 390 = .ok (.if_icmp .ne 69, 3) := by decide +kernel
theorem dL_isCoast_393 : decode cL_isCoast 393 = .ok (.aload_n 0, 1) := by decide +kernel
theorem dL_isCoast_394 : decode cL_isCoast 394 = .ok (.iload 5, 2) := by decide +kernel
theorem dL_isCoast_396 : decode cL_isCoast 396 = .ok (.iconst 1, 1) := by decide +kernel
theorem dL_isCoast_397 : decode cL_isCoast 397 = .ok (.invokevirtual 85, 3) := by decide +kernel
theorem dL_isCoast_400 : decode cL_isCoast 400 = .ok (.aload_n 1, 1) := by decide +kernel
theorem dL_isCoast_401 : decode cL_isCoast 401 = .ok (.bipush 7, 2) := by decide +kernel
theorem dL_isCoast_403 : decode cL_isCoast 403 = .ok (.iload 5, 2) := by decide +kernel
theorem dL_isCoast_405 : decode cL_isCoast 405 = .ok (.iadd, 1) := by decide +kernel
theorem dL_isCoast_406 : decode cL_isCoast 406 = .ok (.iaload, 1) := by decide +kernel
theorem dL_isCoast_407 : decode cL_isCoast 407 = .ok (.if_icmp .ne 52, 3) := by decide +kernel
theorem dL_isCoast_410 : decode cL_isCoast 410 = .ok (.aload_n 0, 1) := by decide +kernel
theorem dL_isCoast_411 : decode cL_isCoast 411 = .ok (.iload 5, 2) := by decide +kernel
theorem dL_isCoast_413 : decode cL_isCoast 413 = .ok (.iconst 2, 1) := by decide +kernel
theorem dL_isCoast_414 : decode cL_isCoast 414 = .ok (.invokevirtual 85, 3) := by decide +kernel
theorem dL_isCoast_417 : decode cL_isCoast 417 = .ok (.aload_n 2, 1) := by decide +kernel
theorem dL_isCoast_418 : decode cL_isCoast 418 = .ok (.iconst 5, 1) := by decide +kernel
theorem dL_isCoast_419 : decode cL_isCoast 419 = .ok (.iload 5, 2) := by decide +kernel
theorem dL_isCoast_421 : decode cL_isCoast 421 = .ok (.iadd, 1) := by decide +kernel
theorem dL_isCoast_422 : decode cL_isCoast 422 = .ok (.iaload, 1) := by decide +kernel
theorem dL_isCoast_423 : decode cL_isCoast 423 = .ok (.if_icmp .ne 36, 3) := by decide +kernel
theorem dL_isCoast_426 : decode cL_isCoast 426 = .ok (.aload_n 0, 1) := by decide +kernel
theorem dL_isCoast_427 : decode cL_isCoast 427 = .ok (.iload 5, 2) := by decide +kernel
theorem dL_isCoast_429 : decode cL_isCoast 429 = .ok (.iconst 3, 1) := by decide +kernel
theorem dL_isCoast_430 : decode cL_isCoast 430 = .ok (.invokevirtual 85, 3) := by decide +kernel
theorem dL_isCoast_433 : decode cL_isCoast 433 = .ok (.aload_n 2, 1) := by decide +kernel
theorem dL_isCoast_434 : decode cL_isCoast 434 = .ok (.bipush 7, 2) := by decide +kernel
theorem dL_isCoast_436 : decode cL_isCoast 436 = .ok (.iload 5, 2) := by decide +kernel
theorem dL_isCoast_438 : decode cL_isCoast 438 = .ok (.iadd, 1) := by decide +kernel
theorem dL_isCoast_439 : decode cL_isCoast 439 = .ok (.iaload, 1) := by decide +kernel
theorem dL_isCoast_440 : decode cL_isCoast 440 = .ok (.if_icmp .ne 19, 3) := by decide +kernel
theorem dL_isCoast_443 : decode cL_isCoast 443 = .ok (.aload_n 0, 1) := by decide +kernel
theorem dL_isCoast_444 : decode cL_isCoast 444 = .ok (.iload 5, 2) := by decide +kernel
theorem dL_isCoast_446 : decode cL_isCoast 446 = .ok (.iconst 4, 1) := by decide +kernel
theorem dL_isCoast_447 : decode cL_isCoast 447 = .ok (.invokevirtual 85, 3) := by decide +kernel
theorem dL_isCoast_450 : decode cL_isCoast 450 = .ok (.iload 6, 2) := by decide +kernel
theorem dL_isCoast_452 : decode cL_isCoast 452 = .ok (.if_icmp .ne 7, 3) := by decide +kernel
theorem dL_isCoast_455 : decode cL_isCoast 455 = .ok (.iconst 1, 1) := by decide +kernel
theorem dL_isCoast_456 : decode cL_isCoast 456 = .ok (.goto 4, 3) := by decide +kernel
theorem dL_isCoast_459 : decode cL_isCoast 459 = .ok (.iconst 0, 1) := by decide +kernel
theorem dL_isCoast_460 : decode cL_isCoast 460 = .ok (.istore 4, 2) := by decide +kernel
theorem dL_isCoast_462 : decode cL_isCoast 462 = .ok (.iinc 5 1, 3) := by decide +kernel
theorem dL_isCoast_465 : decode cL_isCoast 465 = .ok (.goto (-144), 3) := by decide +kernel
theorem dL_isCoast_468 : decode cL_isCoast 468 = .ok (.iconst 0, 1) := by decide +kernel
theorem dL_isCoast_469 : decode cL_isCoast 469 = .ok (.istore 5, 2) := by decide +kernel
theorem dL_isCoast_471 : decode cL_isCoast 471 = .ok (.iload 5, 2) := by decide +kernel
theorem dL_isCoast_473 : decode cL_isCoast 473 = .ok (.aload_n 1, 1) := by decide +kernel
theorem dL_isCoast_474 : decode cL_isCoast 474 = .ok (.iconst 4, 1) := by decide +kernel
theorem dL_isCoast_475 : decode cL_isCoast 475 = .ok (.iaload, 1) := by decide +kernel
theorem dL_isCoast_476 : decode cL_isCoast 476 = .ok (.if_icmp .ge 55, 3) := by decide +kernel
theorem dL_isCoast_479 : decode cL_isCoast 479 = .ok (.iload 4, 2) := by decide +kernel
theorem dL_isCoast_481 : decode cL_isCoast 481 = .ok (.ifCond .eq 50, 3) := by decide +kernel
theorem dL_isCoast_484 : decode cL_isCoast 484 = .ok (.aload_n 0, 1) := by decide +kernel
theorem dL_isCoast_485 : decode cL_isCoast 485 = .ok (.iload 5, 2) := by decide +kernel
theorem dL_isCoast_487 : decode cL_isCoast 487 = .ok (.iconst 0, 1) := by decide +kernel
theorem dL_isCoast_488 : decode cL_isCoast 488 = .ok (.invokevirtual 88, 3) := by decide +kernel
theorem dL_isCoast_491 : decode cL_isCoast 491 = .ok (.aload_n 1, 1) := by decide +kernel
theorem dL_isCoast_492 : decode cL_isCoast 492 = .ok (.bipush 21, 2) := by decide +kernel
theorem dL_isCoast_494 : decode cL_isCoast 494 = .ok (.iload 5, 2) := by decide +kernel
theorem dL_isCoast_496 : decode cL_isCoast 496 = .ok (.iadd, 1) := by decide +kernel
theorem dL_isCoast_497 : decode cL_isCoast 497 = .ok (.iaload, 1) := by decide +kernel
theorem dL_isCoast_498 : decode cL_isCoast 498 = .ok (.if_icmp .ne 24, 3) := by decide +kernel
theorem dL_isCoast_501 : decode cL_isCoast 501 = .ok (.aload_n 0, 1) := by decide +kernel
theorem dL_isCoast_502 : decode cL_isCoast 502 = .ok (.iload 5, 2) := by decide +kernel
theorem dL_isCoast_504 : decode cL_isCoast 504 = .ok (.iconst 1, 1) := by decide +kernel
theorem dL_isCoast_505 : decode cL_isCoast 505 = .ok (.invokevirtual 88, 3) := by decide +kernel
theorem dL_isCoast_508 : decode cL_isCoast 508 = .ok (.aload_n 1, 1) := by decide +kernel
theorem dL_isCoast_509 : decode cL_isCoast 509 = .ok (.bipush 25, 2) := by decide +kernel
theorem dL_isCoast_511 : decode cL_isCoast 511 = .ok (.iload 5, 2) := by decide +kernel
theorem dL_isCoast_513 : decode cL_isCoast 513 = .ok (.iadd, 1) := by decide +kernel
theorem dL_isCoast_514 : decode cL_isCoast 514 = .ok (.iaload, 1) := by decide +kernel
theorem dL_isCoast_515 : decode cL_isCoast 515 = .ok (.if_icmp .ne 7, 3) := by decide +kernel
theorem dL_isCoast_518 : decode cL_isCoast 518 = .ok (.iconst 1, 1) := by decide +kernel
theorem dL_isCoast_519 : decode cL_isCoast 519 = .ok (.goto 4, 3) := by decide +kernel
theorem dL_isCoast_522 : decode cL_isCoast 522 = .ok (.iconst 0, 1) := by decide +kernel
theorem dL_isCoast_523 : decode cL_isCoast 523 = .ok (.istore 4, 2) := by decide +kernel
theorem dL_isCoast_525 : decode cL_isCoast 525 = .ok (.iinc 5 1, 3) := by decide +kernel
theorem dL_isCoast_528 : decode cL_isCoast 528 = .ok (.goto (-57), 3) := by decide +kernel
theorem dL_isCoast_531 : decode cL_isCoast 531 = .ok (.iconst 0, 1) := by decide +kernel
theorem dL_isCoast_532 : decode cL_isCoast 532 = .ok (.istore 5, 2) := by decide +kernel
theorem dL_isCoast_534 : decode cL_isCoast 534 = .ok (.iload 5, 2) := by decide +kernel
theorem dL_isCoast_536 : decode cL_isCoast 536 = .ok (.aload_n 1, 1) := by decide +kernel
theorem dL_isCoast_537 : decode cL_isCoast 537 = .ok (.iconst 2, 1) := by decide +kernel
theorem dL_isCoast_538 : decode cL_isCoast 538 = .ok (.iaload, 1) := by decide +kernel
theorem dL_isCoast_539 : decode cL_isCoast 539 = .ok (.if_icmp .ge 59, 3) := by decide +kernel
theorem dL_isCoast_542 : decode cL_isCoast 542 = .ok (.iload 4, 2) := by decide +kernel
theorem dL_isCoast_544 : decode cL_isCoast 544 = .ok (.ifCond .eq 54, 3) := by decide +kernel
theorem dL_isCoast_547 : decode cL_isCoast 547 = .ok (.aload_n 0, 1) := by decide +kernel
theorem dL_isCoast_548 : decode cL_isCoast 548 = .ok (.iload 5, 2) := by decide +kernel
theorem dL_isCoast_550 : decode cL_isCoast 550 = .ok (.iconst 0, 1) := by decide +kernel
theorem dL_isCoast_551 : decode cL_isCoast 551 = .ok (.invokevirtual 79, 3) := by decide +kernel
theorem dL_isCoast_554 : decode cL_isCoast 554 = .ok (.aload_n 1, 1) := by decide +kernel
theorem dL_isCoast_555 : decode cL_isCoast 555 = .ok (.bipush 29, 2) := by decide +kernel
theorem dL_isCoast_557 : decode cL_isCoast 557 = .ok (.iconst 2, 1) := by decide +kernel
theorem dL_isCoast_558 : decode cL_isCoast 558 = .ok (.iload 5, 2) := by decide +kernel
theorem dL_isCoast_560 : decode cL_isCoast 560 = .ok (.imul, 1) := by decide +kernel
theorem dL_isCoast_561 : decode cL_isCoast 561 = .ok (.iadd, 1) := by decide +kernel
theorem dL_isCoast_562 : decode cL_isCoast 562 = .ok (.iaload, 1) := by decide +kernel
theorem dL_isCoast_563 : decode cL_isCoast 563 = .ok (.if_icmp .ne 26, 3) := by decide +kernel
theorem dL_isCoast_566 : decode cL_isCoast 566 = .ok (.aload_n 0, 1) := by decide +kernel
theorem dL_isCoast_567 : decode cL_isCoast 567 = .ok (.iload 5, 2) := by decide +kernel
theorem dL_isCoast_569 : decode cL_isCoast 569 = .ok (.iconst 1, 1) := by decide +kernel
theorem dL_isCoast_570 : decode cL_isCoast 570 = .ok (.invokevirtual 79, 3) := by decide +kernel
theorem dL_isCoast_573 : decode cL_isCoast 573 = .ok (.aload_n 1, 1) := by decide +kernel
theorem dL_isCoast_574 : decode cL_isCoast 574 = .ok (.bipush 30, 2) := by decide +kernel
theorem dL_isCoast_576 : decode cL_isCoast 576 = .ok (.iconst 2, 1) := by decide +kernel
theorem dL_isCoast_577 : decode cL_isCoast 577 = .ok (.iload 5, 2) := by decide +kernel
theorem dL_isCoast_579 : decode cL_isCoast 579 = .ok (.imul, 1) := by decide +kernel
theorem dL_isCoast_580 : decode cL_isCoast 580 = .ok (.iadd, 1) := by decide +kernel
theorem dL_isCoast_581 : decode cL_isCoast 581 = .ok (.iaload, 1) := by decide +kernel
theorem dL_isCoast_582 : decode cL_isCoast 582 = .ok (.if_icmp .ne 7, 3) := by decide +kernel
theorem dL_isCoast_585 : decode cL_isCoast 585 = .ok (.iconst 1, 1) := by decide +kernel
theorem dL_isCoast_586 : decode cL_isCoast 586 = .ok (.goto 4, 3) := by decide +kernel
theorem dL_isCoast_589 : decode cL_isCoast 589 = .ok (.iconst 0, 1) := by decide +kernel
theorem dL_isCoast_590 : decode cL_isCoast 590 = .ok (.istore 4, 2) := by decide +kernel
theorem dL_isCoast_592 : decode cL_isCoast 592 = .ok (.iinc 5 1, 3) := by decide +kernel
theorem dL_isCoast_595 : decode cL_isCoast 595 = .ok (.goto (-61), 3) := by decide +kernel
theorem dL_isCoast_598 : decode cL_isCoast 598 = .ok (.iload 4, 2) := by decide +kernel
theorem dL_isCoast_600 : decode cL_isCoast 600 = .ok (.ireturn, 1) := by decide +kernel
theorem dL_law_0 : decode cL_law 0 = .ok (.new 9, 3) := by decide +kernel
theorem dL_law_3 : decode cL_law 3 = .ok (.dup, 1) := by decide +kernel
theorem dL_law_4 : decode cL_law 4 = .ok (.invokespecial 91, 3) := by decide +kernel
theorem dL_law_7 : decode cL_law 7 = .ok (.astore_n 1, 1) := by decide +kernel
theorem dL_law_8 : decode cL_law 8 = .ok (.bipush 53, 2) := by decide +kernel
theorem dL_law_10 : decode cL_law 10 = .ok (.newarray .int, 2) := by decide +kernel
theorem dL_law_12 : decode cL_law 12 = .ok (.astore_n 2, 1) := by decide +kernel
theorem dL_law_13 : decode cL_law 13 = .ok (.bipush 27, 2) := by decide +kernel
theorem dL_law_15 : decode cL_law 15 = .ok (.newarray .int, 2) := by decide +kernel
theorem dL_law_17 : decode cL_law 17 = .ok (.astore_n 3, 1) := by decide +kernel
theorem dL_law_18 : decode cL_law 18 = .ok (.bipush 6, 2) := by decide +kernel
theorem dL_law_20 : decode cL_law 20 = .ok (.newarray .int, 2) := by decide +kernel
theorem dL_law_22 : decode cL_law 22 = .ok (.astore 4, 2) := by decide +kernel
theorem dL_law_24 : decode cL_law 24 = .ok (.aload_n 0, 1) := by decide +kernel
theorem dL_law_25 : decode cL_law 25 = .ok (.bipush 10, 2) := by decide +kernel
theorem dL_law_27 : decode cL_law 27 = .ok (.iconst 4, 1) := by decide +kernel
theorem dL_law_28 : decode cL_law 28 = .ok (.aload_n 2, 1) := by decide +kernel
theorem dL_law_29 : decode cL_law 29 = .ok (.aload_n 3, 1) := by decide +kernel
theorem dL_law_30 : decode cL_law 30 = .ok (.invokestatic 92, 3) := by decide +kernel
theorem dL_law_33 : decode cL_law 33 = .ok (.aload_n 1, 1) := by decide +kernel
theorem dL_law_34 : decode cL_law 34 = .ok (.aload_n 0, 1) := by decide +kernel
theorem dL_law_35 : decode cL_law 35 = .ok (.bipush 35, 2) := by decide +kernel
theorem dL_law_37 : decode cL_law 37 = .ok (.invokestatic 20, 3) := by decide +kernel
theorem dL_law_40 : decode cL_law 40 = .ok (.invokevirtual 96, 3) := by decide +kernel
theorem dL_law_43 : decode cL_law 43 = .ok (.ifCond .ne 21, 3) := by decide +kernel
theorem dL_law_46 : decode cL_law 46 = .ok (.aload_n 1, 1) := by decide +kernel
theorem dL_law_47 : decode cL_law 47 = .ok (.aload_n 2, 1) := by decide +kernel
theorem dL_law_48 : decode cL_law 48 = .ok (.aload_n 3, 1) := by decide +kernel
theorem dL_law_49 : decode cL_law 49 = .ok (.invokestatic 99, 3) := by decide +kernel
theorem dL_law_52 : decode cL_law 52 = .ok (.ifCond .eq 12, 3) := by decide +kernel
theorem dL_law_55 : decode cL_law 55 = .ok (.aload_n 1, 1) := by decide +kernel
theorem dL_law_56 : decode cL_law 56 = .ok (.iconst 0, 1) := by decide +kernel
theorem dL_law_57 : decode cL_law 57 = .ok (.invokevirtual 102, 3) := by decide +kernel
theorem dL_law_60 : decode cL_law 60 = .ok (.iconst 1, 1) := by decide +kernel
theorem dL_law_61 : decode cL_law 61 = .ok (.if_icmp .eq 5, 3) := by decide +kernel
theorem dL_law_64 : decode cL_law 64 = .ok (.iconst 0, 1) := by decide +kernel
theorem dL_law_65 : decode cL_law 65 = .ok (.ireturn, 1) := by decide +kernel
theorem dL_law_66 : decode cL_law 66 = .ok (.iconst 1, 1) := by decide +kernel
theorem dL_law_67 : decode cL_law 67 = .ok (.aload_n 0, 1) := by decide +kernel
theorem dL_law_68 : decode cL_law 68 = .ok (.bipush 36, 2) := by decide +kernel
theorem dL_law_70 : decode cL_law 70 = .ok (.invokestatic 20, 3) := by decide +kernel
theorem dL_law_73 : decode cL_law 73 = .ok (.iconst 5, 1) := by decide +kernel
theorem dL_law_74 : decode cL_law 74 = .ok (.irem, 1) := by decide +kernel
theorem dL_law_75 : decode cL_law 75 = .ok (.iadd, 1) := by decide +kernel
theorem dL_law_76 : decode cL_law 76 = .ok (.istore 5, 2) := by decide +kernel
theorem dL_law_78 : decode cL_law 78 = .ok (.iconst 0, 1) := by decide +kernel
theorem dL_law_79 : decode cL_law 79 = .ok (.istore 6, 2) := by decide +kernel
theorem dL_law_81 : decode cL_law 81 = .ok (.iconst 0, 1) := by decide +kernel
theorem dL_law_82 : decode cL_law 82 = .ok (.istore 7, 2) := by decide +kernel
theorem dL_law_84 : decode cL_law 84 = .ok (.iload 7, 2) := by decide +kernel
theorem dL_law_86 : decode cL_law 86 = .ok (.iload 5, 2) := by decide +kernel
theorem dL_law_88 : decode cL_law 88 = .ok (.if_icmp .ge 84, 3) := by decide +kernel
theorem dL_law_91 : decode cL_law 91 = .ok (.iconst 0, 1) := by decide +kernel
theorem dL_law_92 : decode cL_law 92 = .ok (.istore 8, 2) := by decide +kernel
theorem dL_law_94 : decode cL_law 94 = .ok (.iconst 0, 1) := by decide +kernel
theorem dL_law_95 : decode cL_law 95 = .ok (.istore 9, 2) := by decide +kernel
theorem dL_law_97 : decode cL_law 97 = .ok (.iload 9, 2) := by decide +kernel
theorem dL_law_99 : decode cL_law 99 = .ok (.aload_n 2, 1) := by decide +kernel
theorem dL_law_100 : decode cL_law 100 = .ok (.iconst 3, 1) := by decide +kernel
theorem dL_law_101 : decode cL_law 101 = .ok (.iaload, 1) := by decide +kernel
theorem dL_law_102 : decode cL_law 102 = .ok (.if_icmp .ge 21, 3) := by decide +kernel
theorem dL_law_105 : decode cL_law 105 = .ok (.iload 8, 2) := by decide +kernel
theorem dL_law_107 : decode cL_law 107 = .ok (.aload_n 1, 1) := by decide +kernel
theorem dL_law_108 : decode cL_law 108 = .ok (.iload 9, 2) := by decide +kernel
theorem dL_law_110 : decode cL_law 110 = .ok (.iconst 1, 1) := by decide +kernel
theorem dL_law_111 : decode cL_law 111 = .ok (.invokevirtual 105, 3) := by decide +kernel
theorem dL_law_114 : decode cL_law 114 = .ok (.iadd, 1) := by decide +kernel
theorem dL_law_115 : decode cL_law 115 = .ok (.istore 8, 2) := by decide +kernel
theorem dL_law_117 : decode cL_law 117 = .ok (.iinc 9 1, 3) := by decide +kernel
theorem dL_law_120 : decode cL_law 120 = .ok (.goto (-23), 3) := by decide +kernel
theorem dL_law_123 : decode cL_law 123 = .ok (.aload_n 1, 1) := by decide +kernel
theorem dL_law_124 : decode cL_law 124 = .ok (.invokevirtual 108, 3) := by decide +kernel
theorem dL_law_127 : decode cL_law 127 = .ok (.istore 9, 2) := by decide +kernel
theorem dL_law_129 : decode cL_law 129 = .ok (.aload_n 1, 1) := by decide +kernel
theorem dL_law_130 : decode cL_law 130 = .ok (.iconst (-1), 1) := by decide +kernel
theorem dL_law_131 : decode cL_law 131 = .ok (.iconst 1, 1) := by decide +kernel
theorem dL_law_132 : decode cL_law 132 = .ok (.invokevirtual 79, 3) := by decide +kernel
theorem dL_law_135 : decode cL_law 135 = .ok (.istore 10, 2) := by decide +kernel
theorem dL_law_137 : decode cL_law 137 = .ok (.iload 8, 2) := by decide +kernel
theorem dL_law_139 : decode cL_law 139 = .ok (.iload 9, 2) := by decide +kernel
theorem dL_law_141 : decode cL_law 141 = .ok (.iadd, 1) := by decide +kernel
theorem dL_law_142 : decode cL_law 142 = .ok (.iload 10, 2) := by decide +kernel
theorem dL_law_144 : decode cL_law 144 = .ok (.if_icmp .ne 13, 3) := by decide +kernel
theorem dL_law_147 : decode cL_law 147 = .ok (.aload_n 1, 1) := by decide +kernel
theorem dL_law_148 : decode cL_law 148 = .ok (.iconst 1, 1) := by decide +kernel
theorem dL_law_149 : decode cL_law 149 = .ok (.invokevirtual 111, 3) := by decide +kernel
theorem dL_law_152 : decode cL_law 152 = .ok (.iload 8, 2) := by decide +kernel
theorem dL_law_154 : decode cL_law 154 = .ok (.if_icmp .eq 5, 3) := by decide +kernel
theorem dL_law_157 : decode cL_law 157 = .ok (.iconst 0, 1) := by decide +kernel
theorem dL_law_158 : decode cL_law 158 = .ok (.ireturn, 1) := by decide +kernel
theorem dL_law_159 : decode cL_law 159 = .ok (.iload 6, 2) := by decide +kernel
theorem dL_law_161 : decode cL_law 161 = .ok (.iload 8, 2) := by decide +kernel
theorem dL_law_163 : decode cL_law 163 = .ok (.iadd, 1) := by decide +kernel
theorem dL_law_164 : decode cL_law 164 = .ok (.istore 6, 2) := by decide +kernel
theorem dL_law_166 : decode cL_law 166 = .ok (.iinc 7 1, 3) := by decide +kernel
theorem dL_law_169 : decode cL_law 169 = .ok (.goto (-85), 3) := by decide +kernel
theorem dL_law_172 : decode cL_law 172 = .ok (.aload_n 1, 1) := by decide +kernel
theorem dL_law_173 : decode cL_law 173 = .ok (.iconst 0, 1) := by decide +kernel
theorem dL_law_174 : decode cL_law 174 = .ok (.iconst 4, 1) := by decide +kernel
theorem dL_law_175 : decode cL_law 175 = .ok (.invokevirtual 82, 3) := by decide +kernel
theorem dL_law_178 : decode cL_law 178 = .ok (.istore 7, 2) := by decide +kernel
theorem dL_law_180 : decode cL_law 180 = .ok (.iload 6, 2) := by decide +kernel
theorem dL_law_182 : decode cL_law 182 = .ok (.aload_n 1, 1) := by decide +kernel
theorem dL_law_183 : decode cL_law 183 = .ok (.bipush 10, 2) := by decide +kernel
theorem dL_law_185 : decode cL_law 185 = .ok (.invokevirtual 28, 3) := by decide +kernel
theorem dL_law_188 : decode cL_law 188 = .ok (.aload_n 1, 1) := by decide +kernel
theorem dL_law_189 : decode cL_law 189 = .ok (.bipush 11, 2) := by decide +kernel
theorem dL_law_191 : decode cL_law 191 = .ok (.invokevirtual 28, 3) := by decide +kernel
theorem dL_law_194 : decode cL_law 194 = .ok (.iadd, 1) := by decide +kernel
theorem dL_law_195 : decode cL_law 195 = .ok (.aload_n 1, 1) := by decide +kernel
theorem dL_law_196 : decode cL_law 196 = .ok (.bipush 12, 2) := by decide +kernel
theorem dL_law_198 : decode cL_law 198 = .ok (.invokevirtual 28, 3) := by decide +kernel
theorem dL_law_201 : decode cL_law 201 = .ok (.iadd, 1) := by decide +kernel
theorem dL_law_202 : decode cL_law 202 = .ok (.if_icmp .ne 34, 3) := by decide +kernel
theorem dL_law_205 : decode cL_law 205 = .ok (.aload_n 1, 1) := by decide +kernel
theorem dL_law_206 : decode cL_law 206 = .ok (.iconst 0, 1) := by decide +kernel
theorem dL_law_207 : decode cL_law 207 = .ok (.iconst 3, 1) := by decide +kernel
theorem dL_law_208 : decode cL_law 208 = .ok (.invokevirtual 113, 3) := by decide +kernel
theorem dL_law_211 : decode cL_law 211 = .ok (.iload 7, 2) := by decide +kernel
theorem dL_law_213 : decode cL_law 213 = .ok (.iconst 3, 1) := by decide +kernel
theorem dL_law_214 : decode cL_law 214 = .ok (.if_icmp .ge 7, 3) := by decide +kernel
theorem dL_law_217 : decode cL_law 217 = .ok (.iconst 0, 1) := by decide +kernel
theorem dL_law_218 : decode cL_law 218 = .ok (.goto 7, 3) := by decide +kernel
theorem dL_law_221 : decode cL_law 221 = .ok (.iload 7, 2) := by decide +kernel
theorem dL_law_223 : decode cL_law 223 = .ok (.iconst 3, 1) := by decide +kernel
theorem dL_law_224 : decode cL_law 224 = .ok (.isub, 1) := by decide +kernel
theorem dL_law_225 : decode cL_law 225 = .ok (.if_icmp .ne 11, 3) := by decide +kernel
theorem dL_law_228 : decode cL_law 228 = .ok (.aload_n 1, 1) := by decide +kernel
theorem dL_law_229 : decode cL_law 229 = .ok (.iconst 1, 1) := by decide +kernel
theorem dL_law_230 : decode cL_law 230 = .ok (.invokevirtual 116, 3) := by decide +kernel
theorem dL_law_233 : decode cL_law 233 = .ok (.ifCond .ge 5, 3) := by decide +kernel
theorem dL_law_236 : decode cL_law 236 = .ok (.iconst 0, 1) := by decide +kernel
theorem dL_law_237 : decode cL_law 237 = .ok (.ireturn, 1) := by decide +kernel
theorem dL_law_238 : decode cL_law 238 = .ok (.iconst 0, 1) := by decide +kernel
theorem dL_law_239 : decode cL_law 239 = .ok (.istore 8, 2) := by decide +kernel
theorem dL_law_241 : decode cL_law 241 = .ok (.iload 8, 2) := by decide +kernel
theorem dL_law_243 : decode cL_law 243 = .ok (.aload_n 2, 1) := by decide +kernel
theorem dL_law_244 : decode cL_law 244 = .ok (.iconst 3, 1) := by decide +kernel
theorem dL_law_245 : decode cL_law 245 = .ok (.iaload, 1) := by decide +kernel
theorem dL_law_246 : decode cL_law 246 = .ok (.if_icmp .ge 42, 3) := by decide +kernel
theorem dL_law_249 : decode cL_law 249 = .ok (.aload_n 1, 1) := by decide +kernel
theorem dL_law_250 : decode cL_law 250 = .ok (.aload_n 2, 1) := by decide +kernel
theorem dL_law_251 : decode cL_law 251 = .ok (.iload 8, 2) := by decide +kernel
theorem dL_law_253 : decode cL_law 253 = .ok (.iload 5, 2) := by decide +kernel
theorem dL_law_255 : decode cL_law 255 = .ok (.invokestatic 119, 3) := by decide +kernel
theorem dL_law_258 : decode cL_law 258 = .ok (.ifCond .eq 22, 3) := by decide +kernel
theorem dL_law_261 : decode cL_law 261 = .ok (.aload_n 1, 1) := by decide +kernel
theorem dL_law_262 : decode cL_law 262 = .ok (.aload_n 2, 1) := by decide +kernel
theorem dL_law_263 : decode cL_law 263 = .ok (.iload 8, 2) := by decide +kernel
theorem dL_law_265 : decode cL_law 265 = .ok (.aload_n 0, 1) := by decide +kernel
theorem dL_law_266 : decode cL_law 266 = .ok (.bipush 40, 2) := by decide +kernel
theorem dL_law_268 : decode cL_law 268 = .ok (.iload 8, 2) := by decide +kernel
theorem dL_law_270 : decode cL_law 270 = .ok (.iadd, 1) := by decide +kernel
theorem dL_law_271 : decode cL_law 271 = .ok (.invokestatic 20, 3) := by decide +kernel
theorem dL_law_274 : decode cL_law 274 = .ok (.invokestatic 123, 3) := by decide +kernel
theorem dL_law_277 : decode cL_law 277 = .ok (.ifCond .ne 5, 3) := by decide +kernel
theorem dL_law_280 : decode cL_law 280 = .ok (.iconst 0, 1) := by decide +kernel
theorem dL_law_281 : decode cL_law 281 = .ok (.ireturn, 1) := by decide +kernel
theorem dL_law_282 : decode cL_law 282 = .ok (.iinc 8 1, 3) := by decide +kernel
theorem dL_law_285 : decode cL_law 285 = .ok (.goto (-44), 3) := by decide +kernel
theorem dL_law_288 : decode cL_law 288 = .ok (.aload_n 1, 1) := by decide +kernel
theorem dL_law_289 : decode cL_law 289 = .ok (.aload_n 0, 1) := by decide +kernel
theorem dL_law_290 : decode cL_law 290 = .ok (.bipush 50, 2) := by decide +kernel
theorem dL_law_292 : decode cL_law 292 = .ok (.invokestatic 20, 3) := by decide +kernel
theorem dL_law_295 : decode cL_law 295 = .ok (.bipush 30, 2) := by decide +kernel
theorem dL_law_297 : decode cL_law 297 = .ok (.irem, 1) := by decide +kernel
theorem dL_law_298 : decode cL_law 298 = .ok (.iload 5, 2) := by decide +kernel
theorem dL_law_300 : decode cL_law 300 = .ok (.invokestatic 126, 3) := by decide +kernel
theorem dL_law_303 : decode cL_law 303 = .ok (.ifCond .eq 87, 3) := by decide +kernel
theorem dL_law_306 : decode cL_law 306 = .ok (.aload_n 1, 1) := by decide +kernel
theorem dL_law_307 : decode cL_law 307 = .ok (.aload_n 2, 1) := by decide +kernel
theorem dL_law_308 : decode cL_law 308 = .ok (.aload_n 0, 1) := by decide +kernel
theorem dL_law_309 : decode cL_law 309 = .ok (.bipush 51, 2) := by decide +kernel
theorem dL_law_311 : decode cL_law 311 = .ok (.invokestatic 20, 3) := by decide +kernel
theorem dL_law_314 : decode cL_law 314 = .ok (.iconst 2, 1) := by decide +kernel
theorem dL_law_315 : decode cL_law 315 = .ok (.irem, 1) := by decide +kernel
theorem dL_law_316 : decode cL_law 316 = .ok (.iload 5, 2) := by decide +kernel
theorem dL_law_318 : decode cL_law 318 = .ok (.invokestatic 130, 3) := by decide +kernel
theorem dL_law_321 : decode cL_law 321 = .ok (.ifCond .eq 69, 3) := by decide +kernel
theorem dL_law_324 : decode cL_law 324 = .ok (.aload_n 1, 1) := by decide +kernel
theorem dL_law_325 : decode cL_law 325 = .ok (.aload_n 2, 1) := by decide +kernel
theorem dL_law_326 : decode cL_law 326 = .ok (.aload_n 0, 1) := by decide +kernel
theorem dL_law_327 : decode cL_law 327 = .ok (.bipush 52, 2) := by decide +kernel
theorem dL_law_329 : decode cL_law 329 = .ok (.invokestatic 20, 3) := by decide +kernel
theorem dL_law_332 : decode cL_law 332 = .ok (.bipush 60, 2) := by decide +kernel
theorem dL_law_334 : decode cL_law 334 = .ok (.irem, 1) := by decide +kernel
theorem dL_law_335 : decode cL_law 335 = .ok (.aload_n 0, 1) := by decide +kernel
theorem dL_law_336 : decode cL_law 336 = .ok (.bipush 52, 2) := by decide +kernel
theorem dL_law_338 : decode cL_law 338 = .ok (.invokestatic 20, 3) := by decide +kernel
theorem dL_law_341 : decode cL_law 341 = .ok (.bipush 64, 2) := by decide +kernel
theorem dL_law_343 : decode cL_law 343 = .ok (.idiv, 1) := by decide +kernel
theorem dL_law_344 : decode cL_law 344 = .ok (.iconst 2, 1) := by decide +kernel
theorem dL_law_345 : decode cL_law 345 = .ok (.irem, 1) := by decide +kernel
theorem dL_law_346 : decode cL_law 346 = .ok (.invokestatic 133, 3) := by decide +kernel
theorem dL_law_349 : decode cL_law 349 = .ok (.ifCond .eq 41, 3) := by decide +kernel
theorem dL_law_352 : decode cL_law 352 = .ok (.aload_n 1, 1) := by decide +kernel
theorem dL_law_353 : decode cL_law 353 = .ok (.aload_n 2, 1) := by decide +kernel
theorem dL_law_354 : decode cL_law 354 = .ok (.aload_n 0, 1) := by decide +kernel
theorem dL_law_355 : decode cL_law 355 = .ok (.bipush 53, 2) := by decide +kernel
theorem dL_law_357 : decode cL_law 357 = .ok (.invokestatic 20, 3) := by decide +kernel
theorem dL_law_360 : decode cL_law 360 = .ok (.sipush 1000, 3) := by decide +kernel
theorem dL_law_363 : decode cL_law 363 = .ok (.irem, 1) := by decide +kernel
theorem dL_law_364 : decode cL_law 364 = .ok (.invokestatic 136, 3) := by decide +kernel
theorem dL_law_367 : decode cL_law 367 = .ok (.ifCond .eq 23, 3) := by decide +kernel
theorem dL_law_370 : decode cL_law 370 = .ok (.aload_n 1, 1) := by decide +kernel
theorem dL_law_371 : decode cL_law 371 = .ok (.aload_n 2, 1) := by decide +kernel
theorem dL_law_372 : decode cL_law 372 = .ok (.iload 5, 2) := by decide +kernel
theorem dL_law_374 : decode cL_law 374 = .ok (.invokestatic 140, 3) := by decide +kernel
theorem dL_law_377 : decode cL_law 377 = .ok (.ifCond .eq 13, 3) := by decide +kernel
theorem dL_law_380 : decode cL_law 380 = .ok (.aload_n 1, 1) := by decide +kernel
theorem dL_law_381 : decode cL_law 381 = .ok (.aload_n 2, 1) := by decide +kernel
theorem dL_law_382 : decode cL_law 382 = .ok (.iload 5, 2) := by decide +kernel
theorem dL_law_384 : decode cL_law 384 = .ok (.invokestatic 143, 3) := by decide +kernel
theorem dL_law_387 : decode cL_law 387 = .ok (.ifCond .ne 5, 3) := by decide +kernel
theorem dL_law_390 : decode cL_law 390 = .ok (.iconst 0, 1) := by decide +kernel
theorem dL_law_391 : decode cL_law 391 = .ok (.ireturn, 1) := by decide +kernel
theorem dL_law_392 : decode cL_law 392 = .ok (.aload_n 1, 1) := by decide +kernel
theorem dL_law_393 : decode cL_law 393 = .ok (.iconst 1, 1) := by decide +kernel
theorem dL_law_394 : decode cL_law 394 = .ok (.aload_n 0, 1) := by decide +kernel
theorem dL_law_395 : decode cL_law 395 = .ok (.bipush 55, 2) := by decide +kernel
theorem dL_law_397 : decode cL_law 397 = .ok (.invokestatic 20, 3) := by decide +kernel
theorem dL_law_400 : decode cL_law 400 = .ok (.bipush 20, 2) := by decide +kernel
theorem dL_law_402 : decode cL_law 402 = .ok (.irem, 1) := by decide +kernel
theorem dL_law_403 : decode cL_law 403 = .ok (.iadd, 1) := by decide +kernel
theorem dL_law_404 : decode cL_law 404 = .ok (.invokevirtual 146, 3) := by decide +kernel
theorem dL_law_407 : decode cL_law 407 = .ok (.ifCond .lt 47, 3) := by decide +kernel
theorem dL_law_410 : decode cL_law 410 = .ok (.aload_n 1, 1) := by decide +kernel
theorem dL_law_411 : decode cL_law 411 = .ok (.iconst 1, 1) := by decide +kernel
theorem dL_law_412 : decode cL_law 412 = .ok (.aload_n 0, 1) := by decide +kernel
theorem dL_law_413 : decode cL_law 413 = .ok (.bipush 55, 2) := by decide +kernel
theorem dL_law_415 : decode cL_law 415 = .ok (.invokestatic 20, 3) := by decide +kernel
theorem dL_law_418 : decode cL_law 418 = .ok (.bipush 20, 2) := by decide +kernel
theorem dL_law_420 : decode cL_law 420 = .ok (.irem, 1) := by decide +kernel
theorem dL_law_421 : decode cL_law 421 = .ok (.iadd, 1) := by decide +kernel
theorem dL_law_422 : decode cL_law 422 = .ok (.invokevirtual 116, 3) := by decide +kernel
theorem dL_law_425 : decode cL_law 425 = .ok (.aload_n 1, 1) := by decide +kernel
theorem dL_law_426 : decode cL_law 426 = .ok (.bipush 6, 2) := by decide +kernel
theorem dL_law_428 : decode cL_law 428 = .ok (.invokevirtual 28, 3) := by decide +kernel
theorem dL_law_431 : decode cL_law 431 = .ok (.if_icmp .ne 23, 3) := by decide +kernel
theorem dL_law_434 : decode cL_law 434 = .ok (.aload_n 1, 1) := by decide +kernel
theorem dL_law_435 : decode cL_law 435 = .ok (.bipush 15, 2) := by decide +kernel
theorem dL_law_437 : decode cL_law 437 = .ok (.invokevirtual 28, 3) := by decide +kernel
theorem dL_law_440 : decode cL_law 440 = .ok (.iload 5, 2) := by decide +kernel
theorem dL_law_442 : decode cL_law 442 = .ok (.if_icmp .ne 12, 3) := by decide +kernel
theorem dL_law_445 : decode cL_law 445 = .ok (.aload_n 1, 1) := by decide +kernel
theorem dL_law_446 : decode cL_law 446 = .ok (.iload 5, 2) := by decide +kernel
theorem dL_law_448 : decode cL_law 448 = .ok (.invokevirtual 116, 3) := by decide +kernel
theorem dL_law_451 : decode cL_law 451 = .ok (.ifCond .eq 5, 3) := by decide +kernel
theorem dL_law_454 : decode cL_law 454 = .ok (.iconst 0, 1) := by decide +kernel
theorem dL_law_455 : decode cL_law 455 = .ok (.ireturn, 1) := by decide +kernel
theorem dL_law_456 : decode cL_law 456 = .ok (.aload_n 1, 1) := by decide +kernel
theorem dL_law_457 : decode cL_law 457 = .ok (.aload_n 2, 1) := by decide +kernel
theorem dL_law_458 : decode cL_law 458 = .ok (.aload_n 3, 1) := by decide +kernel
theorem dL_law_459 : decode cL_law 459 = .ok (.invokestatic 149, 3) := by decide +kernel
theorem dL_law_462 : decode cL_law 462 = .ok (.ifCond .eq 43, 3) := by decide +kernel
theorem dL_law_465 : decode cL_law 465 = .ok (.aload_n 1, 1) := by decide +kernel
theorem dL_law_466 : decode cL_law 466 = .ok (.bipush 9, 2) := by decide +kernel
theorem dL_law_468 : decode cL_law 468 = .ok (.invokevirtual 146, 3) := by decide +kernel
theorem dL_law_471 : decode cL_law 471 = .ok (.ifCond .lt 34, 3) := by decide +kernel
theorem dL_law_474 : decode cL_law 474 = .ok (.aload_n 1, 1) := by decide +kernel
theorem dL_law_475 : decode cL_law 475 = .ok (.iconst 0, 1) := by decide +kernel
theorem dL_law_476 : decode cL_law 476 = .ok (.invokevirtual 152, 3) := by decide +kernel
theorem dL_law_479 : decode cL_law 479 = .ok (.iconst 1, 1) := by decide +kernel
theorem dL_law_480 : decode cL_law 480 = .ok (.if_icmp .ne 25, 3) := by decide +kernel
theorem dL_law_483 : decode cL_law 483 = .ok (.aload_n 1, 1) := by decide +kernel
theorem dL_law_484 : decode cL_law 484 = .ok (.aload_n 2, 1) := by decide +kernel
theorem dL_law_485 : decode cL_law 485 = .ok (.aload_n 3, 1) := by decide +kernel
theorem dL_law_486 : decode cL_law 486 = .ok (.invokestatic 149, 3) := by decide +kernel
theorem dL_law_489 : decode cL_law 489 = .ok (.ifCond .eq 16, 3) := by decide +kernel
theorem dL_law_492 : decode cL_law 492 = .ok (.aload_n 1, 1) := by decide +kernel
theorem dL_law_493 : decode cL_law 493 = .ok (.bipush 15, 2) := by decide +kernel
theorem dL_law_495 : decode cL_law 495 = .ok (.invokevirtual 28, 3) := by decide +kernel
theorem dL_law_498 : decode cL_law 498 = .ok (.ifCond .ne 7, 3) := by decide +kernel
theorem dL_law_501 : decode cL_law 501 = .ok (.iconst 1, 1) := by decide +kernel
theorem dL_law_502 : decode cL_law 502 = .ok (.goto 4, 3) := by decide +kernel
theorem dL_law_505 : decode cL_law 505 = .ok (.iconst 0, 1) := by decide +kernel
theorem dL_law_506 : decode cL_law 506 = .ok (.istore 8, 2) := by decide +kernel
theorem dL_law_508 : decode cL_law 508 = .ok (.iload 8, 2) := by decide +kernel
theorem dL_law_510 : decode cL_law 510 = .ok (.ifCond .eq 12, 3) := by decide +kernel
theorem dL_law_513 : decode cL_law 513 = .ok (.aload_n 1, 1) := by decide +kernel
theorem dL_law_514 : decode cL_law 514 = .ok (.bipush 9, 2) := by decide +kernel
theorem dL_law_516 : decode cL_law 516 = .ok (.invokevirtual 146, 3) := by decide +kernel
theorem dL_law_519 : decode cL_law 519 = .ok (.goto 4, 3) := by decide +kernel
theorem dL_law_522 : decode cL_law 522 = .ok (.iconst (-1), 1) := by decide +kernel
theorem dL_law_523 : decode cL_law 523 = .ok (.istore 9, 2) := by decide +kernel
theorem dL_law_525 : decode cL_law 525 = .ok (.aload_n 1, 1) := by decide +kernel
theorem dL_law_526 : decode cL_law 526 = .ok (.bipush 10, 2) := by decide +kernel
theorem dL_law_528 : decode cL_law 528 = .ok (.invokevirtual 28, 3) := by decide +kernel
theorem dL_law_531 : decode cL_law 531 = .ok (.istore 10, 2) := by decide +kernel
theorem dL_law_533 : decode cL_law 533 = .ok (.iload 8, 2) := by decide +kernel
theorem dL_law_535 : decode cL_law 535 = .ok (.ifCond .eq 61, 3) := by decide +kernel
theorem dL_law_538 : decode cL_law 538 = .ok (.aload_n 1, 1) := by decide +kernel
theorem dL_law_539 : decode cL_law 539 = .ok (.iconst 0, 1) := by decide +kernel
theorem dL_law_540 : decode cL_law 540 = .ok (.invokevirtual 152, 3) := by decide +kernel
theorem dL_law_543 : decode cL_law 543 = .ok (.iconst 1, 1) := by decide +kernel
theorem dL_law_544 : decode cL_law 544 = .ok (.if_icmp .ne 52, 3) := by decide +kernel
theorem dL_law_547 : decode cL_law 547 = .ok (.aload_n 1, 1) := by decide +kernel
theorem dL_law_548 : decode cL_law 548 = .ok (.bipush 9, 2) := by decide +kernel
theorem dL_law_550 : decode cL_law 550 = .ok (.invokevirtual 146, 3) := by decide +kernel
theorem dL_law_553 : decode cL_law 553 = .ok (.iload 9, 2) := by decide +kernel
theorem dL_law_555 : decode cL_law 555 = .ok (.if_icmp .ne 41, 3) := by decide +kernel
theorem dL_law_558 : decode cL_law 558 = .ok (.aload_n 1, 1) := by decide +kernel
theorem dL_law_559 : decode cL_law 559 = .ok (.bipush 10, 2) := by decide +kernel
theorem dL_law_561 : decode cL_law 561 = .ok (.invokevirtual 28, 3) := by decide +kernel
theorem dL_law_564 : decode cL_law 564 = .ok (.iload 10, 2) := by decide +kernel
theorem dL_law_566 : decode cL_law 566 = .ok (.if_icmp .ne 30, 3) := by decide +kernel
theorem dL_law_569 : decode cL_law 569 = .ok (.aload_n 1, 1) := by decide +kernel
theorem dL_law_570 : decode cL_law 570 = .ok (.iconst 0, 1) := by decide +kernel
theorem dL_law_571 : decode cL_law 571 = .ok (.invokevirtual 152, 3) := by decide +kernel
theorem dL_law_574 : decode cL_law 574 = .ok (.iconst 1, 1) := by decide +kernel
theorem dL_law_575 : decode cL_law 575 = .ok (.if_icmp .ne 21, 3) := by decide +kernel
theorem dL_law_578 : decode cL_law 578 = .ok (.aload_n 1, 1) := by decide +kernel
theorem dL_law_579 : decode cL_law 579 = .ok (.iconst 1, 1) := by decide +kernel
theorem dL_law_580 : decode cL_law 580 = .ok (.invokevirtual 96, 3) := by decide +kernel
theorem dL_law_583 : decode cL_law 583 = .ok (.aload_n 0, 1) := by decide +kernel
theorem dL_law_584 : decode cL_law 584 = .ok (.bipush 35, 2) := by decide +kernel
theorem dL_law_586 : decode cL_law 586 = .ok (.invokestatic 20, 3) := by decide +kernel
theorem dL_law_589 : decode cL_law 589 = .ok (.if_icmp .ne 7, 3) := by decide +kernel
theorem dL_law_592 : decode cL_law 592 = .ok (.iconst 1, 1) := by decide +kernel
theorem dL_law_593 : decode cL_law 593 = .ok (.goto 4, 3) := by decide +kernel
theorem dL_law_596 : decode cL_law 596 = .ok (.iconst 0, 1) := by decide +kernel
theorem dL_law_597 : decode cL_law 597 = .ok (.ireturn, 1) := by decide +kernel
theorem dL_best_0 : decode cL_best 0 = .ok (.aload_n 0, 1) := by decide +kernel
theorem dL_best_1 : decode cL_best 1 = .ok (.iload_n 2, 1) := by decide +kernel
theorem dL_best_2 : decode cL_best 2 = .ok (.aload_n 0, 1) := by decide +kernel
theorem dL_best_3 : decode cL_best 3 = .ok (.iconst 2, 1) := by decide +kernel
theorem dL_best_4 : decode cL_best 4 = .ok (.invokevirtual 28, 3) := by decide +kernel
theorem dL_best_7 : decode cL_best 7 = .ok (.invokevirtual 105, 3) := by decide +kernel
theorem dL_best_10 : decode cL_best 10 = .ok (.istore 4, 2) := by decide +kernel
theorem dL_best_12 : decode cL_best 12 = .ok (.aload_n 0, 1) := by decide +kernel
theorem dL_best_13 : decode cL_best 13 = .ok (.iload_n 2, 1) := by decide +kernel
theorem dL_best_14 : decode cL_best 14 = .ok (.iconst 0, 1) := by decide +kernel
theorem dL_best_15 : decode cL_best 15 = .ok (.invokevirtual 155, 3) := by decide +kernel
theorem dL_best_18 : decode cL_best 18 = .ok (.istore 5, 2) := by decide +kernel
theorem dL_best_20 : decode cL_best 20 = .ok (.aload_n 0, 1) := by decide +kernel
theorem dL_best_21 : decode cL_best 21 = .ok (.iload_n 2, 1) := by decide +kernel
theorem dL_best_22 : decode cL_best 22 = .ok (.iconst 1, 1) := by decide +kernel
theorem dL_best_23 : decode cL_best 23 = .ok (.invokevirtual 155, 3) := by decide +kernel
theorem dL_best_26 : decode cL_best 26 = .ok (.istore 6, 2) := by decide +kernel
theorem dL_best_28 : decode cL_best 28 = .ok (.aload_n 0, 1) := by decide +kernel
theorem dL_best_29 : decode cL_best 29 = .ok (.iload_n 2, 1) := by decide +kernel
theorem dL_best_30 : decode cL_best 30 = .ok (.iconst 0, 1) := by decide +kernel
theorem dL_best_31 : decode cL_best 31 = .ok (.invokevirtual 158, 3) := by decide +kernel
theorem dL_best_34 : decode cL_best 34 = .ok (.istore 7, 2) := by decide +kernel
theorem dL_best_36 : decode cL_best 36 = .ok (.aload_n 0, 1) := by decide +kernel
theorem dL_best_37 : decode cL_best 37 = .ok (.iload_n 2, 1) := by decide +kernel
theorem dL_best_38 : decode cL_best 38 = .ok (.iconst 1, 1) := by decide +kernel
theorem dL_best_39 : decode cL_best 39 = .ok (.invokevirtual 158, 3) := by decide +kernel
theorem dL_best_42 : decode cL_best 42 = .ok (.istore 8, 2) := by decide +kernel
theorem dL_best_44 : decode cL_best 44 = .ok (.aload_n 0, 1) := by decide +kernel
theorem dL_best_45 : decode cL_best 45 = .ok (.iload_n 2, 1) := by decide +kernel
theorem dL_best_46 : decode cL_best 46 = .ok (.iconst 0, 1) := by decide +kernel
theorem dL_best_47 : decode cL_best 47 = .ok (.invokevirtual 82, 3) := by decide +kernel
theorem dL_best_50 : decode cL_best 50 = .ok (.istore 9, 2) := by decide +kernel
theorem dL_best_52 : decode cL_best 52 = .ok (.iload 6, 2) := by decide +kernel
theorem dL_best_54 : decode cL_best 54 = .ok (.iload 4, 2) := by decide +kernel
theorem dL_best_56 : decode cL_best 56 = .ok (.if_icmp .lt 22, 3) := by decide +kernel
theorem dL_best_59 : decode cL_best 59 = .ok (.iload 8, 2) := by decide +kernel
theorem dL_best_61 : decode cL_best 61 = .ok (.iload 4, 2) := by decide +kernel
theorem dL_best_63 : decode cL_best 63 = .ok (.if_icmp .lt 15, 3) := by decide +kernel
theorem dL_best_66 : decode cL_best 66 = .ok (.iload 5, 2) := by decide +kernel
theorem dL_best_68 : decode cL_best 68 = .ok (.ifCond .lt 10, 3) := by decide +kernel
theorem dL_best_71 : decode cL_best 71 = .ok (.iload 5, 2) := by decide +kernel
theorem dL_best_73 : decode cL_best 73 = .ok (.bipush 9, 2) := by decide +kernel
theorem dL_best_75 : decode cL_best 75 = .ok (.if_icmp .le 5, 3) := by decide +kernel
theorem dL_best_78 : decode cL_best 78 = .ok (.iconst 0, 1) := by decide +kernel
theorem dL_best_79 : decode cL_best 79 = .ok (.ireturn, 1) := by decide +kernel
theorem dL_best_80 : decode cL_best 80 = .ok (.aload_n 0, 1) := by decide +kernel
theorem dL_best_81 : decode cL_best 81 = .ok (.iload_n 2, 1) := by decide +kernel
theorem dL_best_82 : decode cL_best 82 = .ok (.iload 5, 2) := by decide +kernel
theorem dL_best_84 : decode cL_best 84 = .ok (.invokevirtual 161, 3) := by decide +kernel
theorem dL_best_87 : decode cL_best 87 = .ok (.ifCond .lt 41, 3) := by decide +kernel
theorem dL_best_90 : decode cL_best 90 = .ok (.aload_n 0, 1) := by decide +kernel
theorem dL_best_91 : decode cL_best 91 = .ok (.iload_n 2, 1) := by decide +kernel
theorem dL_best_92 : decode cL_best 92 = .ok (.aload_n 0, 1) := by decide +kernel
theorem dL_best_93 : decode cL_best 93 = .ok (.iconst 2, 1) := by decide +kernel
theorem dL_best_94 : decode cL_best 94 = .ok (.invokevirtual 28, 3) := by decide +kernel
theorem dL_best_97 : decode cL_best 97 = .ok (.invokevirtual 105, 3) := by decide +kernel
theorem dL_best_100 : decode cL_best 100 = .ok (.iload 6, 2) := by decide +kernel
theorem dL_best_102 : decode cL_best 102 = .ok (.if_icmp .ne 26, 3) := by decide +kernel
theorem dL_best_105 : decode cL_best 105 = .ok (.aload_n 0, 1) := by decide +kernel
theorem dL_best_106 : decode cL_best 106 = .ok (.iload_n 2, 1) := by decide +kernel
theorem dL_best_107 : decode cL_best 107 = .ok (.iconst 0, 1) := by decide +kernel
theorem dL_best_108 : decode cL_best 108 = .ok (.invokevirtual 155, 3) := by decide +kernel
theorem dL_best_111 : decode cL_best 111 = .ok (.iload 5, 2) := by decide +kernel
theorem dL_best_113 : decode cL_best 113 = .ok (.if_icmp .ne 15, 3) := by decide +kernel
theorem dL_best_116 : decode cL_best 116 = .ok (.aload_n 0, 1) := by decide +kernel
theorem dL_best_117 : decode cL_best 117 = .ok (.iconst 1, 1) := by decide +kernel
theorem dL_best_118 : decode cL_best 118 = .ok (.invokevirtual 116, 3) := by decide +kernel
theorem dL_best_121 : decode cL_best 121 = .ok (.ifCond .lt 7, 3) := by decide +kernel
theorem dL_best_124 : decode cL_best 124 = .ok (.iconst 1, 1) := by decide +kernel
theorem dL_best_125 : decode cL_best 125 = .ok (.goto 4, 3) := by decide +kernel
theorem dL_best_128 : decode cL_best 128 = .ok (.iconst 0, 1) := by decide +kernel
theorem dL_best_129 : decode cL_best 129 = .ok (.istore 10, 2) := by decide +kernel
theorem dL_best_131 : decode cL_best 131 = .ok (.iload 7, 2) := by decide +kernel
theorem dL_best_133 : decode cL_best 133 = .ok (.iload 9, 2) := by decide +kernel
theorem dL_best_135 : decode cL_best 135 = .ok (.if_icmp .eq 61, 3) := by decide +kernel
theorem dL_best_138 : decode cL_best 138 = .ok (.iload 10, 2) := by decide +kernel
theorem dL_best_140 : decode cL_best 140 = .ok (.ifCond .eq 53, 3) := by decide +kernel
theorem dL_best_143 : decode cL_best 143 = .ok (.aload_n 0, 1) := by decide +kernel
theorem dL_best_144 : decode cL_best 144 = .ok (.iload_n 2, 1) := by decide +kernel
theorem dL_best_145 : decode cL_best 145 = .ok (.iload 7, 2) := by decide +kernel
theorem dL_best_147 : decode cL_best 147 = .ok (.invokevirtual 164, 3) := by decide +kernel
theorem dL_best_150 : decode cL_best 150 = .ok (.iload 9, 2) := by decide +kernel
theorem dL_best_152 : decode cL_best 152 = .ok (.if_icmp .ne 41, 3) := by decide +kernel
theorem dL_best_155 : decode cL_best 155 = .ok (.aload_n 0, 1) := by decide +kernel
theorem dL_best_156 : decode cL_best 156 = .ok (.iload_n 2, 1) := by decide +kernel
theorem dL_best_157 : decode cL_best 157 = .ok (.aload_n 0, 1) := by decide +kernel
theorem dL_best_158 : decode cL_best 158 = .ok (.iconst 2, 1) := by decide +kernel
theorem dL_best_159 : decode cL_best 159 = .ok (.invokevirtual 28, 3) := by decide +kernel
theorem dL_best_162 : decode cL_best 162 = .ok (.invokevirtual 105, 3) := by decide +kernel
theorem dL_best_165 : decode cL_best 165 = .ok (.iload 8, 2) := by decide +kernel
theorem dL_best_167 : decode cL_best 167 = .ok (.if_icmp .ne 26, 3) := by decide +kernel
theorem dL_best_170 : decode cL_best 170 = .ok (.aload_n 0, 1) := by decide +kernel
theorem dL_best_171 : decode cL_best 171 = .ok (.iload_n 2, 1) := by decide +kernel
theorem dL_best_172 : decode cL_best 172 = .ok (.iconst 0, 1) := by decide +kernel
theorem dL_best_173 : decode cL_best 173 = .ok (.invokevirtual 158, 3) := by decide +kernel
theorem dL_best_176 : decode cL_best 176 = .ok (.iload 7, 2) := by decide +kernel
theorem dL_best_178 : decode cL_best 178 = .ok (.if_icmp .ne 15, 3) := by decide +kernel
theorem dL_best_181 : decode cL_best 181 = .ok (.aload_n 0, 1) := by decide +kernel
theorem dL_best_182 : decode cL_best 182 = .ok (.iconst 1, 1) := by decide +kernel
theorem dL_best_183 : decode cL_best 183 = .ok (.invokevirtual 116, 3) := by decide +kernel
theorem dL_best_186 : decode cL_best 186 = .ok (.ifCond .lt 7, 3) := by decide +kernel
theorem dL_best_189 : decode cL_best 189 = .ok (.iconst 1, 1) := by decide +kernel
theorem dL_best_190 : decode cL_best 190 = .ok (.goto 4, 3) := by decide +kernel
theorem dL_best_193 : decode cL_best 193 = .ok (.iconst 0, 1) := by decide +kernel
theorem dL_best_194 : decode cL_best 194 = .ok (.istore 10, 2) := by decide +kernel
theorem dL_best_196 : decode cL_best 196 = .ok (.iload 10, 2) := by decide +kernel
theorem dL_best_198 : decode cL_best 198 = .ok (.ifCond .eq 32, 3) := by decide +kernel
theorem dL_best_201 : decode cL_best 201 = .ok (.aload_n 0, 1) := by decide +kernel
theorem dL_best_202 : decode cL_best 202 = .ok (.iload_n 2, 1) := by decide +kernel
theorem dL_best_203 : decode cL_best 203 = .ok (.aload_n 0, 1) := by decide +kernel
theorem dL_best_204 : decode cL_best 204 = .ok (.iconst 2, 1) := by decide +kernel
theorem dL_best_205 : decode cL_best 205 = .ok (.invokevirtual 28, 3) := by decide +kernel
theorem dL_best_208 : decode cL_best 208 = .ok (.invokevirtual 105, 3) := by decide +kernel
theorem dL_best_211 : decode cL_best 211 = .ok (.iload 4, 2) := by decide +kernel
theorem dL_best_213 : decode cL_best 213 = .ok (.if_icmp .ne 17, 3) := by decide +kernel
theorem dL_best_216 : decode cL_best 216 = .ok (.aload_n 0, 1) := by decide +kernel
theorem dL_best_217 : decode cL_best 217 = .ok (.bipush 15, 2) := by decide +kernel
theorem dL_best_219 : decode cL_best 219 = .ok (.invokevirtual 28, 3) := by decide +kernel
theorem dL_best_222 : decode cL_best 222 = .ok (.iload_n 3, 1) := by decide +kernel
theorem dL_best_223 : decode cL_best 223 = .ok (.if_icmp .ne 7, 3) := by decide +kernel
theorem dL_best_226 : decode cL_best 226 = .ok (.iconst 1, 1) := by decide +kernel
theorem dL_best_227 : decode cL_best 227 = .ok (.goto 4, 3) := by decide +kernel
theorem dL_best_230 : decode cL_best 230 = .ok (.iconst 0, 1) := by decide +kernel
theorem dL_best_231 : decode cL_best 231 = .ok (.ireturn, 1) := by decide +kernel
theorem dL_thick_0 : decode cL_thick 0 = .ok (.iload_n 3, 1) := by decide +kernel
theorem dL_thick_1 : decode cL_thick 1 = .ok (.bipush 41, 2) := by decide +kernel
theorem dL_thick_3 : decode cL_thick 3 = .ok (.irem, 1) := by decide +kernel
theorem dL_thick_4 : decode cL_thick 4 = .ok (.istore 4, 2) := by decide +kernel
theorem dL_thick_6 : decode cL_thick 6 = .ok (.iload_n 3, 1) := by decide +kernel
theorem dL_thick_7 : decode cL_thick 7 = .ok (.bipush 64, 2) := by decide +kernel
theorem dL_thick_9 : decode cL_thick 9 = .ok (.idiv, 1) := by decide +kernel
theorem dL_thick_10 : decode cL_thick 10 = .ok (.iconst 2, 1) := by decide +kernel
theorem dL_thick_11 : decode cL_thick 11 = .ok (.irem, 1) := by decide +kernel
theorem dL_thick_12 : decode cL_thick 12 = .ok (.istore 5, 2) := by decide +kernel
theorem dL_thick_14 : decode cL_thick 14 = .ok (.iconst 0, 1) := by decide +kernel
theorem dL_thick_15 : decode cL_thick 15 = .ok (.istore 6, 2) := by decide +kernel
theorem dL_thick_17 : decode cL_thick 17 = .ok (.iconst 0, 1) := by decide +kernel
theorem dL_thick_18 : decode cL_thick 18 = .ok (.istore 7, 2) := by decide +kernel
theorem dL_thick_20 : decode cL_thick 20 = .ok (.iload 7, 2) := by decide +kernel
theorem dL_thick_22 : decode cL_thick 22 = .ok (.iload 4, 2) := by decide +kernel
theorem dL_thick_24 : decode cL_thick 24 = .ok (.if_icmp .ge 33, 3) := by decide +kernel
theorem dL_thick_27 : decode cL_thick 27 = .ok (.iload 6, 2) := by decide +kernel
theorem dL_thick_29 : decode cL_thick 29 = .ok (.aload_n 0, 1) := by decide +kernel
theorem dL_thick_30 : decode cL_thick 30 = .ok (.iload 4, 2) := by decide +kernel
theorem dL_thick_32 : decode cL_thick 32 = .ok (.iload 5, 2) := by decide +kernel
theorem dL_thick_34 : decode cL_thick 34 = .ok (.iload 7, 2) := by decide +kernel
theorem dL_thick_36 : decode cL_thick 36 = .ok (.invokevirtual 167, 3) := by decide +kernel
theorem dL_thick_39 : decode cL_thick 39 = .ok (.iload_n 2, 1) := by decide +kernel
theorem dL_thick_40 : decode cL_thick 40 = .ok (.if_icmp .ne 7, 3) := by decide +kernel
theorem dL_thick_43 : decode cL_thick 43 = .ok (.iconst 1, 1) := by decide +kernel
theorem dL_thick_44 : decode cL_thick 44 = .ok (.goto 4, 3) := by decide +kernel
theorem dL_thick_47 : decode cL_thick 47 = .ok (.iconst 0, 1) := by decide +kernel
theorem dL_thick_48 : decode cL_thick 48 = .ok (.iadd, 1) := by decide +kernel
theorem dL_thick_49 : decode cL_thick 49 = .ok (.istore 6, 2) := by decide +kernel
theorem dL_thick_51 : decode cL_thick 51 = .ok (.iinc 7 1, 3) := by decide +kernel
theorem dL_thick_54 : decode cL_thick 54 = .ok (.goto (-34), 3) := by decide +kernel
theorem dL_thick_57 : decode cL_thick 57 = .ok (.aload_n 0, 1) := by decide +kernel
theorem dL_thick_58 : decode cL_thick 58 = .ok (.iload_n 2, 1) := by decide +kernel
theorem dL_thick_59 : decode cL_thick 59 = .ok (.iload 5, 2) := by decide +kernel
theorem dL_thick_61 : decode cL_thick 61 = .ok (.iload 6, 2) := by decide +kernel
theorem dL_thick_63 : decode cL_thick 63 = .ok (.invokevirtual 170, 3) := by decide +kernel
theorem dL_thick_66 : decode cL_thick 66 = .ok (.istore 7, 2) := by decide +kernel
theorem dL_thick_68 : decode cL_thick 68 = .ok (.iload 7, 2) := by decide +kernel
theorem dL_thick_70 : decode cL_thick 70 = .ok (.ifCond .lt 23, 3) := by decide +kernel
theorem dL_thick_73 : decode cL_thick 73 = .ok (.iload 7, 2) := by decide +kernel
theorem dL_thick_75 : decode cL_thick 75 = .ok (.iload 4, 2) := by decide +kernel
theorem dL_thick_77 : decode cL_thick 77 = .ok (.if_icmp .gt 16, 3) := by decide +kernel
theorem dL_thick_80 : decode cL_thick 80 = .ok (.aload_n 0, 1) := by decide +kernel
theorem dL_thick_81 : decode cL_thick 81 = .ok (.iload_n 2, 1) := by decide +kernel
theorem dL_thick_82 : decode cL_thick 82 = .ok (.iload 5, 2) := by decide +kernel
theorem dL_thick_84 : decode cL_thick 84 = .ok (.iload 6, 2) := by decide +kernel
theorem dL_thick_86 : decode cL_thick 86 = .ok (.invokevirtual 173, 3) := by decide +kernel
theorem dL_thick_89 : decode cL_thick 89 = .ok (.iconst 1, 1) := by decide +kernel
theorem dL_thick_90 : decode cL_thick 90 = .ok (.if_icmp .eq 5, 3) := by decide +kernel
theorem dL_thick_93 : decode cL_thick 93 = .ok (.iconst 0, 1) := by decide +kernel
theorem dL_thick_94 : decode cL_thick 94 = .ok (.ireturn, 1) := by decide +kernel
theorem dL_thick_95 : decode cL_thick 95 = .ok (.aload_n 0, 1) := by decide +kernel
theorem dL_thick_96 : decode cL_thick 96 = .ok (.iconst 0, 1) := by decide +kernel
theorem dL_thick_97 : decode cL_thick 97 = .ok (.invokevirtual 176, 3) := by decide +kernel
theorem dL_thick_100 : decode cL_thick 100 = .ok (.istore 8, 2) := by decide +kernel
theorem dL_thick_102 : decode cL_thick 102 = .ok (.aload_n 0, 1) := by decide +kernel
theorem dL_thick_103 : decode cL_thick 103 = .ok (.iload 5, 2) := by decide +kernel
theorem dL_thick_105 : decode cL_thick 105 = .ok (.invokevirtual 178, 3) := by decide +kernel
theorem dL_thick_108 : decode cL_thick 108 = .ok (.istore 9, 2) := by decide +kernel
theorem dL_thick_110 : decode cL_thick 110 = .ok (.iload 8, 2) := by decide +kernel
theorem dL_thick_112 : decode cL_thick 112 = .ok (.ifCond .le 78, 3) := by decide +kernel
theorem dL_thick_115 : decode cL_thick 115 = .ok (.iload 8, 2) := by decide +kernel
theorem dL_thick_117 : decode cL_thick 117 = .ok (.bipush 42, 2) := by decide +kernel
theorem dL_thick_119 : decode cL_thick 119 = .ok (.if_icmp .ge 71, 3) := by decide +kernel
theorem dL_thick_122 : decode cL_thick 122 = .ok (.aload_n 0, 1) := by decide +kernel
theorem dL_thick_123 : decode cL_thick 123 = .ok (.iconst 1, 1) := by decide +kernel
theorem dL_thick_124 : decode cL_thick 124 = .ok (.invokevirtual 176, 3) := by decide +kernel
theorem dL_thick_127 : decode cL_thick 127 = .ok (.iload 4, 2) := by decide +kernel
theorem dL_thick_129 : decode cL_thick 129 = .ok (.if_icmp .gt 61, 3) := by decide +kernel
theorem dL_thick_132 : decode cL_thick 132 = .ok (.aload_n 0, 1) := by decide +kernel
theorem dL_thick_133 : decode cL_thick 133 = .ok (.iconst 2, 1) := by decide +kernel
theorem dL_thick_134 : decode cL_thick 134 = .ok (.invokevirtual 176, 3) := by decide +kernel
theorem dL_thick_137 : decode cL_thick 137 = .ok (.iload 4, 2) := by decide +kernel
theorem dL_thick_139 : decode cL_thick 139 = .ok (.if_icmp .lt 51, 3) := by decide +kernel
theorem dL_thick_142 : decode cL_thick 142 = .ok (.aload_n 0, 1) := by decide +kernel
theorem dL_thick_143 : decode cL_thick 143 = .ok (.iconst 2, 1) := by decide +kernel
theorem dL_thick_144 : decode cL_thick 144 = .ok (.invokevirtual 176, 3) := by decide +kernel
theorem dL_thick_147 : decode cL_thick 147 = .ok (.aload_n 0, 1) := by decide +kernel
theorem dL_thick_148 : decode cL_thick 148 = .ok (.iconst 1, 1) := by decide +kernel
theorem dL_thick_149 : decode cL_thick 149 = .ok (.invokevirtual 176, 3) := by decide +kernel
theorem dL_thick_152 : decode cL_thick 152 = .ok (.isub, 1) := by decide +kernel
theorem dL_thick_153 : decode cL_thick 153 = .ok (.iload 8, 2) := by decide +kernel
theorem dL_thick_155 : decode cL_thick 155 = .ok (.iconst 1, 1) := by decide +kernel
theorem dL_thick_156 : decode cL_thick 156 = .ok (.isub, 1) := by decide +kernel
theorem dL_thick_157 : decode cL_thick 157 = .ok (.if_icmp .lt 33, 3) := by decide +kernel
theorem dL_thick_160 : decode cL_thick 160 = .ok (.iload 9, 2) := by decide +kernel
theorem dL_thick_162 : decode cL_thick 162 = .ok (.iconst (-1), 1) := by decide +kernel
theorem dL_thick_163 : decode cL_thick 163 = .ok (.if_icmp .lt 27, 3) := by decide +kernel
theorem dL_thick_166 : decode cL_thick 166 = .ok (.iload 9, 2) := by decide +kernel
theorem dL_thick_168 : decode cL_thick 168 = .ok (.aload_n 1, 1) := by decide +kernel
theorem dL_thick_169 : decode cL_thick 169 = .ok (.iconst 3, 1) := by decide +kernel
theorem dL_thick_170 : decode cL_thick 170 = .ok (.iaload, 1) := by decide +kernel
theorem dL_thick_171 : decode cL_thick 171 = .ok (.if_icmp .ge 19, 3) := by decide +kernel
theorem dL_thick_174 : decode cL_thick 174 = .ok (.iload 8, 2) := by decide +kernel
theorem dL_thick_176 : decode cL_thick 176 = .ok (.iconst 1, 1) := by decide +kernel
theorem dL_thick_177 : decode cL_thick 177 = .ok (.if_icmp .gt 9, 3) := by decide +kernel
theorem dL_thick_180 : decode cL_thick 180 = .ok (.iload 9, 2) := by decide +kernel
theorem dL_thick_182 : decode cL_thick 182 = .ok (.iconst (-1), 1) := by decide +kernel
theorem dL_thick_183 : decode cL_thick 183 = .ok (.if_icmp .ne 7, 3) := by decide +kernel
theorem dL_thick_186 : decode cL_thick 186 = .ok (.iconst 1, 1) := by decide +kernel
theorem dL_thick_187 : decode cL_thick 187 = .ok (.goto 4, 3) := by decide +kernel
theorem dL_thick_190 : decode cL_thick 190 = .ok (.iconst 0, 1) := by decide +kernel
theorem dL_thick_191 : decode cL_thick 191 = .ok (.istore 10, 2) := by decide +kernel
theorem dL_thick_193 : decode cL_thick 193 = .ok (.iload 10, 2) := by decide +kernel
theorem dL_thick_195 : decode cL_thick 195 = .ok (.ifCond .eq 48, 3) := by decide +kernel
theorem dL_thick_198 : decode cL_thick 198 = .ok (.aload_n 0, 1) := by decide +kernel
theorem dL_thick_199 : decode cL_thick 199 = .ok (.iload_n 2, 1) := by decide +kernel
theorem dL_thick_200 : decode cL_thick 200 = .ok (.iload 5, 2) := by decide +kernel
theorem dL_thick_202 : decode cL_thick 202 = .ok (.iload 6, 2) := by decide +kernel
theorem dL_thick_204 : decode cL_thick 204 = .ok (.invokevirtual 173, 3) := by decide +kernel
theorem dL_thick_207 : decode cL_thick 207 = .ok (.iconst 2, 1) := by decide +kernel
theorem dL_thick_208 : decode cL_thick 208 = .ok (.if_icmp .ne 35, 3) := by decide +kernel
theorem dL_thick_211 : decode cL_thick 211 = .ok (.aload_n 0, 1) := by decide +kernel
theorem dL_thick_212 : decode cL_thick 212 = .ok (.iconst 0, 1) := by decide +kernel
theorem dL_thick_213 : decode cL_thick 213 = .ok (.invokevirtual 176, 3) := by decide +kernel
theorem dL_thick_216 : decode cL_thick 216 = .ok (.iload 8, 2) := by decide +kernel
theorem dL_thick_218 : decode cL_thick 218 = .ok (.if_icmp .ne 25, 3) := by decide +kernel
theorem dL_thick_221 : decode cL_thick 221 = .ok (.aload_n 0, 1) := by decide +kernel
theorem dL_thick_222 : decode cL_thick 222 = .ok (.invokevirtual 181, 3) := by decide +kernel
theorem dL_thick_225 : decode cL_thick 225 = .ok (.iconst 2, 1) := by decide +kernel
theorem dL_thick_226 : decode cL_thick 226 = .ok (.if_icmp .ne 17, 3) := by decide +kernel
theorem dL_thick_229 : decode cL_thick 229 = .ok (.aload_n 0, 1) := by decide +kernel
theorem dL_thick_230 : decode cL_thick 230 = .ok (.iconst 0, 1) := by decide +kernel
theorem dL_thick_231 : decode cL_thick 231 = .ok (.invokevirtual 176, 3) := by decide +kernel
theorem dL_thick_234 : decode cL_thick 234 = .ok (.bipush 41, 2) := by decide +kernel
theorem dL_thick_236 : decode cL_thick 236 = .ok (.if_icmp .ne 7, 3) := by decide +kernel
theorem dL_thick_239 : decode cL_thick 239 = .ok (.iconst 1, 1) := by decide +kernel
theorem dL_thick_240 : decode cL_thick 240 = .ok (.goto 4, 3) := by decide +kernel
theorem dL_thick_243 : decode cL_thick 243 = .ok (.iconst 0, 1) := by decide +kernel
theorem dL_thick_244 : decode cL_thick 244 = .ok (.ireturn, 1) := by decide +kernel
theorem dL_took_0 : decode cL_took 0 = .ok (.iconst 0, 1) := by decide +kernel
theorem dL_took_1 : decode cL_took 1 = .ok (.istore_n 2, 1) := by decide +kernel
theorem dL_took_2 : decode cL_took 2 = .ok (.iconst 0, 1) := by decide +kernel
theorem dL_took_3 : decode cL_took 3 = .ok (.istore_n 3, 1) := by decide +kernel
theorem dL_took_4 : decode cL_took 4 = .ok (.iload_n 3, 1) := by decide +kernel
theorem dL_took_5 : decode cL_took 5 = .ok (.aload_n 0, 1) := by decide +kernel
theorem dL_took_6 : decode cL_took 6 = .ok (.iconst 3, 1) := by decide +kernel
theorem dL_took_7 : decode cL_took 7 = .ok (.invokevirtual 28, 3) := by decide +kernel
theorem dL_took_10 : decode cL_took 10 = .ok (.if_icmp .ge 18, 3) := by decide +kernel
theorem dL_took_13 : decode cL_took 13 = .ok (.iload_n 2, 1) := by decide +kernel
theorem dL_took_14 : decode cL_took 14 = .ok (.aload_n 0, 1) := by decide +kernel
theorem dL_took_15 : decode cL_took 15 = .ok (.iload_n 3, 1) := by decide +kernel
theorem dL_took_16 : decode cL_took 16 = .ok (.iload_n 1, 1) := by decide +kernel
theorem dL_took_17 : decode cL_took 17 = .ok (.invokevirtual 105, 3) := by decide +kernel
theorem dL_took_20 : decode cL_took 20 = .ok (.iadd, 1) := by decide +kernel
theorem dL_took_21 : decode cL_took 21 = .ok (.istore_n 2, 1) := by decide +kernel
theorem dL_took_22 : decode cL_took 22 = .ok (.iinc 3 1, 3) := by decide +kernel
theorem dL_took_25 : decode cL_took 25 = .ok (.goto (-21), 3) := by decide +kernel
theorem dL_took_28 : decode cL_took 28 = .ok (.iload_n 2, 1) := by decide +kernel
theorem dL_took_29 : decode cL_took 29 = .ok (.ireturn, 1) := by decide +kernel
theorem dL_lamps_0 : decode cL_lamps 0 = .ok (.aload_n 0, 1) := by decide +kernel
theorem dL_lamps_1 : decode cL_lamps 1 = .ok (.iload_n 1, 1) := by decide +kernel
theorem dL_lamps_2 : decode cL_lamps 2 = .ok (.invokevirtual 184, 3) := by decide +kernel
theorem dL_lamps_5 : decode cL_lamps 5 = .ok (.istore_n 3, 1) := by decide +kernel
theorem dL_lamps_6 : decode cL_lamps 6 = .ok (.aload_n 0, 1) := by decide +kernel
theorem dL_lamps_7 : decode cL_lamps 7 = .ok (.iload_n 1, 1) := by decide +kernel
theorem dL_lamps_8 : decode cL_lamps 8 = .ok (.invokestatic 187, 3) := by decide +kernel
theorem dL_lamps_11 : decode cL_lamps 11 = .ok (.istore 4, 2) := by decide +kernel
theorem dL_lamps_13 : decode cL_lamps 13 = .ok (.aload_n 0, 1) := by decide +kernel
theorem dL_lamps_14 : decode cL_lamps 14 = .ok (.iconst 1, 1) := by decide +kernel
theorem dL_lamps_15 : decode cL_lamps 15 = .ok (.invokevirtual 191, 3) := by decide +kernel
theorem dL_lamps_18 : decode cL_lamps 18 = .ok (.ifCond .ne 55, 3) := by decide +kernel
theorem dL_lamps_21 : decode cL_lamps 21 = .ok (.iload 4, 2) := by decide +kernel
theorem dL_lamps_23 : decode cL_lamps 23 = .ok (.aload_n 0, 1) := by decide +kernel
theorem dL_lamps_24 : decode cL_lamps 24 = .ok (.iload_n 1, 1) := by decide +kernel
theorem dL_lamps_25 : decode cL_lamps 25 = .ok (.invokestatic 187, 3) := by decide +kernel
theorem dL_lamps_28 : decode cL_lamps 28 = .ok (.isub, 1) := by decide +kernel
theorem dL_lamps_29 : decode cL_lamps 29 = .ok (.iload_n 3, 1) := by decide +kernel
theorem dL_lamps_30 : decode cL_lamps 30 = .ok (.if_icmp .ne 43, 3) := by decide +kernel
theorem dL_lamps_33 : decode cL_lamps 33 = .ok (.aload_n 0, 1) := by decide +kernel
theorem dL_lamps_34 : decode cL_lamps 34 = .ok (.iload_n 1, 1) := by decide +kernel
theorem dL_lamps_35 : decode cL_lamps 35 = .ok (.invokevirtual 184, 3) := by decide +kernel
theorem dL_lamps_38 : decode cL_lamps 38 = .ok (.iload_n 3, 1) := by decide +kernel
theorem dL_lamps_39 : decode cL_lamps 39 = .ok (.if_icmp .ne 34, 3) := by decide +kernel
theorem dL_lamps_42 : decode cL_lamps 42 = .ok (.aload_n 0, 1) := by decide +kernel
theorem dL_lamps_43 : decode cL_lamps 43 = .ok (.iconst 1, 1) := by decide +kernel
theorem dL_lamps_44 : decode cL_lamps 44 = .ok (.invokevirtual 116, 3) := by decide +kernel
theorem dL_lamps_47 : decode cL_lamps 47 = .ok (.ifCond .lt 26, 3) := by decide +kernel
theorem dL_lamps_50 : decode cL_lamps 50 = .ok (.aload_n 0, 1) := by decide +kernel
theorem dL_lamps_51 : decode cL_lamps 51 = .ok (.bipush 8, 2) := by decide +kernel
theorem dL_lamps_53 : decode cL_lamps 53 = .ok (.invokevirtual 28, 3) := by decide +kernel
theorem dL_lamps_56 : decode cL_lamps 56 = .ok (.ifCond .ne 17, 3) := by decide +kernel
theorem dL_lamps_59 : decode cL_lamps 59 = .ok (.aload_n 0, 1) := by decide +kernel
theorem dL_lamps_60 : decode cL_lamps 60 = .ok (.bipush 15, 2) := by decide +kernel
theorem dL_lamps_62 : decode cL_lamps 62 = .ok (.invokevirtual 28, 3) := by decide +kernel
theorem dL_lamps_65 : decode cL_lamps 65 = .ok (.iload_n 2, 1) := by decide +kernel
theorem dL_lamps_66 : decode cL_lamps 66 = .ok (.if_icmp .ne 7, 3) := by decide +kernel
theorem dL_lamps_69 : decode cL_lamps 69 = .ok (.iconst 1, 1) := by decide +kernel
theorem dL_lamps_70 : decode cL_lamps 70 = .ok (.goto 4, 3) := by decide +kernel
theorem dL_lamps_73 : decode cL_lamps 73 = .ok (.iconst 0, 1) := by decide +kernel
theorem dL_lamps_74 : decode cL_lamps 74 = .ok (.ireturn, 1) := by decide +kernel
theorem dL_thirst_0 : decode cL_thirst 0 = .ok (.aload_n 0, 1) := by decide +kernel
theorem dL_thirst_1 : decode cL_thirst 1 = .ok (.iload_n 2, 1) := by decide +kernel
theorem dL_thirst_2 : decode cL_thirst 2 = .ok (.invokevirtual 194, 3) := by decide +kernel
theorem dL_thirst_5 : decode cL_thirst 5 = .ok (.istore 4, 2) := by decide +kernel
theorem dL_thirst_7 : decode cL_thirst 7 = .ok (.aload_n 0, 1) := by decide +kernel
theorem dL_thirst_8 : decode cL_thirst 8 = .ok (.iload_n 2, 1) := by decide +kernel
theorem dL_thirst_9 : decode cL_thirst 9 = .ok (.iconst 3, 1) := by decide +kernel
theorem dL_thirst_10 : decode cL_thirst 10 = .ok (.invokevirtual 85, 3) := by decide +kernel
theorem dL_thirst_13 : decode cL_thirst 13 = .ok (.istore 5, 2) := by decide +kernel
theorem dL_thirst_15 : decode cL_thirst 15 = .ok (.aload_n 1, 1) := by decide +kernel
theorem dL_thirst_16 : decode cL_thirst 16 = .ok (.bipush 7, 2) := by decide +kernel
theorem dL_thirst_18 : decode cL_thirst 18 = .ok (.iload_n 2, 1) := by decide +kernel
theorem dL_thirst_19 : decode cL_thirst 19 = .ok (.iadd, 1) := by decide +kernel
theorem dL_thirst_20 : decode cL_thirst 20 = .ok (.iaload, 1) := by decide +kernel
theorem dL_thirst_21 : decode cL_thirst 21 = .ok (.ifCond .ne 26, 3) := by decide +kernel
theorem dL_thirst_24 : decode cL_thirst 24 = .ok (.iload 4, 2) := by decide +kernel
theorem dL_thirst_26 : decode cL_thirst 26 = .ok (.iconst (-1), 1) := by decide +kernel
theorem dL_thirst_27 : decode cL_thirst 27 = .ok (.if_icmp .ne 18, 3) := by decide +kernel
theorem dL_thirst_30 : decode cL_thirst 30 = .ok (.aload_n 0, 1) := by decide +kernel
theorem dL_thirst_31 : decode cL_thirst 31 = .ok (.iload_n 2, 1) := by decide +kernel
theorem dL_thirst_32 : decode cL_thirst 32 = .ok (.invokevirtual 197, 3) := by decide +kernel
theorem dL_thirst_35 : decode cL_thirst 35 = .ok (.sipush 999, 3) := by decide +kernel
theorem dL_thirst_38 : decode cL_thirst 38 = .ok (.if_icmp .ne 7, 3) := by decide +kernel
theorem dL_thirst_41 : decode cL_thirst 41 = .ok (.iconst 1, 1) := by decide +kernel
theorem dL_thirst_42 : decode cL_thirst 42 = .ok (.goto 4, 3) := by decide +kernel
theorem dL_thirst_45 : decode cL_thirst 45 = .ok (.iconst 0, 1) := by decide +kernel
theorem dL_thirst_46 : decode cL_thirst 46 = .ok (.ireturn, 1) := by decide +kernel
theorem dL_thirst_47 : decode cL_thirst 47 = .ok (.iload 4, 2) := by decide +kernel
theorem dL_thirst_49 : decode cL_thirst 49 = .ok (.iconst (-1), 1) := by decide +kernel
theorem dL_thirst_50 : decode cL_thirst 50 = .ok (.if_icmp .eq 18, 3) := by decide +kernel
theorem dL_thirst_53 : decode cL_thirst 53 = .ok (.iload 4, 2) := by decide +kernel
theorem dL_thirst_55 : decode cL_thirst 55 = .ok (.iconst 1, 1) := by decide +kernel
theorem dL_thirst_56 : decode cL_thirst 56 = .ok (.if_icmp .lt 10, 3) := by decide +kernel
theorem dL_thirst_59 : decode cL_thirst 59 = .ok (.iload 4, 2) := by decide +kernel
theorem dL_thirst_61 : decode cL_thirst 61 = .ok (.bipush 60, 2) := by decide +kernel
theorem dL_thirst_63 : decode cL_thirst 63 = .ok (.if_icmp .le 5, 3) := by decide +kernel
theorem dL_thirst_66 : decode cL_thirst 66 = .ok (.iconst 0, 1) := by decide +kernel
theorem dL_thirst_67 : decode cL_thirst 67 = .ok (.ireturn, 1) := by decide +kernel
theorem dL_thirst_68 : decode cL_thirst 68 = .ok (.aload_n 0, 1) := by decide +kernel
theorem dL_thirst_69 : decode cL_thirst 69 = .ok (.iload_n 2, 1) := by decide +kernel
theorem dL_thirst_70 : decode cL_thirst 70 = .ok (.invokevirtual 197, 3) := by decide +kernel
