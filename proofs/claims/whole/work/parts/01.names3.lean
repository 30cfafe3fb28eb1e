theorem dX6_tryHours_4 : decode cX6_tryHours 4 = .ok (.iload_n 3, 1) := by decide +kernel
theorem dX6_tryHours_5 : decode cX6_tryHours 5 = .ok (.bipush 6, 2) := by decide +kernel
theorem dX6_tryHours_7 : decode cX6_tryHours 7 = .ok (.if_icmp .ge 16, 3) := by decide +kernel
theorem dX6_tryHours_10 : decode cX6_tryHours 10 = .ok (.aload_n 0, 1) := by decide +kernel
theorem dX6_tryHours_11 : decode cX6_tryHours 11 = .ok (.getfield 36, 3) := by decide +kernel
theorem dX6_tryHours_14 : decode cX6_tryHours 14 = .ok (.iload_n 3, 1) := by decide +kernel
theorem dX6_tryHours_15 : decode cX6_tryHours 15 = .ok (.iconst 0, 1) := by decide +kernel
theorem dX6_tryHours_16 : decode cX6_tryHours 16 = .ok (.iastore, 1) := by decide +kernel
theorem dX6_tryHours_17 : decode cX6_tryHours 17 = .ok (.iinc 3 1, 3) := by decide +kernel
theorem dX6_tryHours_20 : decode cX6_tryHours 20 = .ok (.goto (-16), 3) := by decide +kernel
theorem dX6_tryHours_23 : decode cX6_tryHours 23 = .ok (.iconst 0, 1) := by decide +kernel
theorem dX6_tryHours_24 : decode cX6_tryHours 24 = .ok (.istore_n 3, 1) := by decide +kernel
theorem dX6_tryHours_25 : decode cX6_tryHours 25 = .ok (.iload_n 3, 1) := by decide +kernel
theorem dX6_tryHours_26 : decode cX6_tryHours 26 = .ok (.iload_n 1, 1) := by decide +kernel
theorem dX6_tryHours_27 : decode cX6_tryHours 27 = .ok (.if_icmp .ge 92, 3) := by decide +kernel
theorem dX6_tryHours_30 : decode cX6_tryHours 30 = .ok (.iload_n 2, 1) := by decide +kernel
theorem dX6_tryHours_31 : decode cX6_tryHours 31 = .ok (.aload_n 0, 1) := by decide +kernel
theorem dX6_tryHours_32 : decode cX6_tryHours 32 = .ok (.getfield 33, 3) := by decide +kernel
theorem dX6_tryHours_35 : decode cX6_tryHours 35 = .ok (.aload_n 0, 1) := by decide +kernel
theorem dX6_tryHours_36 : decode cX6_tryHours 36 = .ok (.getfield 19, 3) := by decide +kernel
theorem dX6_tryHours_39 : decode cX6_tryHours 39 = .ok (.aload_n 0, 1) := by decide +kernel
theorem dX6_tryHours_40 : decode cX6_tryHours 40 = .ok (.getfield 43, 3) := by decide +kernel
theorem dX6_tryHours_43 : decode cX6_tryHours 43 = .ok (.aload_n 0, 1) := by decide +kernel
theorem dX6_tryHours_44 : decode cX6_tryHours 44 = .ok (.getfield 19, 3) := by decide +kernel
theorem dX6_tryHours_47 : decode cX6_tryHours 47 = .ok (.aload_n 0, 1) := by decide +kernel
theorem dX6_tryHours_48 : decode cX6_tryHours 48 = .ok (.getfield 33, 3) := by decide +kernel
theorem dX6_tryHours_51 : decode cX6_tryHours 51 = .ok (.getfield 127, 3) := by decide +kernel
theorem dX6_tryHours_54 : decode cX6_tryHours 54 = .ok (.invokevirtual 178, 3) := by decide +kernel
theorem dX6_tryHours_57 : decode cX6_tryHours 57 = .ok (.aload_n 0, 1) := by decide +kernel
theorem dX6_tryHours_58 : decode cX6_tryHours 58 = .ok (.getfield 19, 3) := by decide +kernel
theorem dX6_tryHours_61 : decode cX6_tryHours 61 = .ok (.aload_n 0, 1) := by decide +kernel
theorem dX6_tryHours_62 : decode cX6_tryHours 62 = .ok (.getfield 33, 3) := by decide +kernel
theorem dX6_tryHours_65 : decode cX6_tryHours 65 = .ok (.getfield 127, 3) := by decide +kernel
theorem dX6_tryHours_68 : decode cX6_tryHours 68 = .ok (.invokevirtual 181, 3) := by decide +kernel
theorem dX6_tryHours_71 : decode cX6_tryHours 71 = .ok (.iconst 0, 1) := by decide +kernel
theorem dX6_tryHours_72 : decode cX6_tryHours 72 = .ok (.invokevirtual 215, 3) := by decide +kernel
theorem dX6_tryHours_75 : decode cX6_tryHours 75 = .ok (.iadd, 1) := by decide +kernel
theorem dX6_tryHours_76 : decode cX6_tryHours 76 = .ok (.istore_n 2, 1) := by decide +kernel
theorem dX6_tryHours_77 : decode cX6_tryHours 77 = .ok (.iconst 0, 1) := by decide +kernel
theorem dX6_tryHours_78 : decode cX6_tryHours 78 = .ok (.istore 4, 2) := by decide +kernel
theorem dX6_tryHours_80 : decode cX6_tryHours 80 = .ok (.iload 4, 2) := by decide +kernel
theorem dX6_tryHours_82 : decode cX6_tryHours 82 = .ok (.bipush 6, 2) := by decide +kernel
theorem dX6_tryHours_84 : decode cX6_tryHours 84 = .ok (.if_icmp .ge 29, 3) := by decide +kernel
theorem dX6_tryHours_87 : decode cX6_tryHours 87 = .ok (.aload_n 0, 1) := by decide +kernel
theorem dX6_tryHours_88 : decode cX6_tryHours 88 = .ok (.getfield 36, 3) := by decide +kernel
theorem dX6_tryHours_91 : decode cX6_tryHours 91 = .ok (.iload 4, 2) := by decide +kernel
theorem dX6_tryHours_93 : decode cX6_tryHours 93 = .ok (.dup2, 1) := by decide +kernel
theorem dX6_tryHours_94 : decode cX6_tryHours 94 = .ok (.iaload, 1) := by decide +kernel
theorem dX6_tryHours_95 : decode cX6_tryHours 95 = .ok (.aload_n 0, 1) := by decide +kernel
theorem dX6_tryHours_96 : decode cX6_tryHours 96 = .ok (.getfield 43, 3) := by decide +kernel
theorem dX6_tryHours_99 : decode cX6_tryHours 99 = .ok (.getfield 256, 3) := by decide +kernel
theorem dX6_tryHours_102 : decode cX6_tryHours 102 = .ok (.iload 4, 2) := by decide +kernel
theorem dX6_tryHours_104 : decode cX6_tryHours 104 = .ok (.iaload, 1) := by decide +kernel
theorem dX6_tryHours_105 : decode cX6_tryHours 105 = .ok (.iadd, 1) := by decide +kernel
theorem dX6_tryHours_106 : decode cX6_tryHours 106 = .ok (.iastore, 1) := by decide +kernel
theorem dX6_tryHours_107 : decode cX6_tryHours 107 = .ok (.iinc 4 1, 3) := by decide +kernel
theorem dX6_tryHours_110 : decode cX6_tryHours 110 = .ok (.goto (-30), 3) := by decide +kernel
theorem dX6_tryHours_113 : decode cX6_tryHours 113 = .ok (.iinc 3 1, 3) := by decide +kernel
theorem dX6_tryHours_116 : decode cX6_tryHours 116 = .ok (.goto (-91), 3) := by decide +kernel
theorem dX6_tryHours_119 : decode cX6_tryHours 119 = .ok (.iload_n 2, 1) := by decide +kernel
theorem dX6_tryHours_120 : decode cX6_tryHours 120 = .ok (.ireturn, 1) := by decide +kernel
theorem dX6_lesserHaul_0 : decode cX6_lesserHaul 0 = .ok (.aload_n 0, 1) := by decide +kernel
theorem dX6_lesserHaul_1 : decode cX6_lesserHaul 1 = .ok (.getfield 33, 3) := by decide +kernel
theorem dX6_lesserHaul_4 : decode cX6_lesserHaul 4 = .ok (.aload_n 0, 1) := by decide +kernel
theorem dX6_lesserHaul_5 : decode cX6_lesserHaul 5 = .ok (.getfield 29, 3) := by decide +kernel
theorem dX6_lesserHaul_8 : decode cX6_lesserHaul 8 = .ok (.invokevirtual 247, 3) := by decide +kernel
theorem dX6_lesserHaul_11 : decode cX6_lesserHaul 11 = .ok (.aload_n 0, 1) := by decide +kernel
theorem dX6_lesserHaul_12 : decode cX6_lesserHaul 12 = .ok (.getfield 33, 3) := by decide +kernel
theorem dX6_lesserHaul_15 : decode cX6_lesserHaul 15 = .ok (.getfield 151, 3) := by decide +kernel
theorem dX6_lesserHaul_18 : decode cX6_lesserHaul 18 = .ok (.iload_n 1, 1) := by decide +kernel
theorem dX6_lesserHaul_19 : decode cX6_lesserHaul 19 = .ok (.iload_n 2, 1) := by decide +kernel
theorem dX6_lesserHaul_20 : decode cX6_lesserHaul 20 = .ok (.invokestatic 227, 3) := by decide +kernel
theorem dX6_lesserHaul_23 : decode cX6_lesserHaul 23 = .ok (.aload_n 0, 1) := by decide +kernel
theorem dX6_lesserHaul_24 : decode cX6_lesserHaul 24 = .ok (.getfield 33, 3) := by decide +kernel
theorem dX6_lesserHaul_27 : decode cX6_lesserHaul 27 = .ok (.getfield 151, 3) := by decide +kernel
theorem dX6_lesserHaul_30 : decode cX6_lesserHaul 30 = .ok (.iload_n 3, 1) := by decide +kernel
theorem dX6_lesserHaul_31 : decode cX6_lesserHaul 31 = .ok (.iload 4, 2) := by decide +kernel
theorem dX6_lesserHaul_33 : decode cX6_lesserHaul 33 = .ok (.invokestatic 227, 3) := by decide +kernel
theorem dX6_lesserHaul_36 : decode cX6_lesserHaul 36 = .ok (.aload_n 0, 1) := by decide +kernel
theorem dX6_lesserHaul_37 : decode cX6_lesserHaul 37 = .ok (.bipush 7, 2) := by decide +kernel
theorem dX6_lesserHaul_39 : decode cX6_lesserHaul 39 = .ok (.aload_n 0, 1) := by decide +kernel
theorem dX6_lesserHaul_40 : decode cX6_lesserHaul 40 = .ok (.getfield 19, 3) := by decide +kernel
theorem dX6_lesserHaul_43 : decode cX6_lesserHaul 43 = .ok (.invokevirtual 117, 3) := by decide +kernel
theorem dX6_lesserHaul_46 : decode cX6_lesserHaul 46 = .ok (.imul, 1) := by decide +kernel
theorem dX6_lesserHaul_47 : decode cX6_lesserHaul 47 = .ok (.invokevirtual 250, 3) := by decide +kernel
theorem dX6_lesserHaul_50 : decode cX6_lesserHaul 50 = .ok (.istore 5, 2) := by decide +kernel
theorem dX6_lesserHaul_52 : decode cX6_lesserHaul 52 = .ok (.iconst 0, 1) := by decide +kernel
theorem dX6_lesserHaul_53 : decode cX6_lesserHaul 53 = .ok (.istore 6, 2) := by decide +kernel
theorem dX6_lesserHaul_55 : decode cX6_lesserHaul 55 = .ok (.iconst 0, 1) := by decide +kernel
theorem dX6_lesserHaul_56 : decode cX6_lesserHaul 56 = .ok (.istore 7, 2) := by decide +kernel
theorem dX6_lesserHaul_58 : decode cX6_lesserHaul 58 = .ok (.iload 7, 2) := by decide +kernel
theorem dX6_lesserHaul_60 : decode cX6_lesserHaul 60 = .ok (.bipush 6, 2) := by decide +kernel
theorem dX6_lesserHaul_62 : decode cX6_lesserHaul 62 = .ok (.if_icmp .ge 35, 3) := by decide +kernel
theorem dX6_lesserHaul_65 : decode cX6_lesserHaul 65 = .ok (.aload_n 0, 1) := by decide +kernel
theorem dX6_lesserHaul_66 : decode cX6_lesserHaul 66 = .ok (.getfield 19, 3) := by decide +kernel
theorem dX6_lesserHaul_69 : decode cX6_lesserHaul 69 = .ok (.getfield 164, 3) := by decide +kernel
theorem dX6_lesserHaul_72 : decode cX6_lesserHaul 72 = .ok (.iload 7, 2) := by decide +kernel
theorem dX6_lesserHaul_74 : decode cX6_lesserHaul 74 = .ok (.iaload, 1) := by decide +kernel
theorem dX6_lesserHaul_75 : decode cX6_lesserHaul 75 = .ok (.iconst 1, 1) := by decide +kernel
theorem dX6_lesserHaul_76 : decode cX6_lesserHaul 76 = .ok (.if_icmp .ne 15, 3) := by decide +kernel
theorem dX6_lesserHaul_79 : decode cX6_lesserHaul 79 = .ok (.iload 6, 2) := by decide +kernel
theorem dX6_lesserHaul_81 : decode cX6_lesserHaul 81 = .ok (.aload_n 0, 1) := by decide +kernel
theorem dX6_lesserHaul_82 : decode cX6_lesserHaul 82 = .ok (.getfield 36, 3) := by decide +kernel
theorem dX6_lesserHaul_85 : decode cX6_lesserHaul 85 = .ok (.iload 7, 2) := by decide +kernel
theorem dX6_lesserHaul_87 : decode cX6_lesserHaul 87 = .ok (.iaload, 1) := by decide +kernel
theorem dX6_lesserHaul_88 : decode cX6_lesserHaul 88 = .ok (.iadd, 1) := by decide +kernel
theorem dX6_lesserHaul_89 : decode cX6_lesserHaul 89 = .ok (.istore 6, 2) := by decide +kernel
theorem dX6_lesserHaul_91 : decode cX6_lesserHaul 91 = .ok (.iinc 7 1, 3) := by decide +kernel
theorem dX6_lesserHaul_94 : decode cX6_lesserHaul 94 = .ok (.goto (-36), 3) := by decide +kernel
theorem dX6_lesserHaul_97 : decode cX6_lesserHaul 97 = .ok (.iload 5, 2) := by decide +kernel
theorem dX6_lesserHaul_99 : decode cX6_lesserHaul 99 = .ok (.iload 6, 2) := by decide +kernel
theorem dX6_lesserHaul_101 : decode cX6_lesserHaul 101 = .ok (.isub, 1) := by decide +kernel
theorem dX6_lesserHaul_102 : decode cX6_lesserHaul 102 = .ok (.iload 6, 2) := by decide +kernel
theorem dX6_lesserHaul_104 : decode cX6_lesserHaul 104 = .ok (.invokestatic 269, 3) := by decide +kernel
theorem dX6_lesserHaul_107 : decode cX6_lesserHaul 107 = .ok (.ireturn, 1) := by decide +kernel
theorem dX6_blowNext_0 : decode cX6_blowNext 0 = .ok (.aload_n 0, 1) := by decide +kernel
theorem dX6_blowNext_1 : decode cX6_blowNext 1 = .ok (.getfield 29, 3) := by decide +kernel
theorem dX6_blowNext_4 : decode cX6_blowNext 4 = .ok (.aload_n 0, 1) := by decide +kernel
theorem dX6_blowNext_5 : decode cX6_blowNext 5 = .ok (.getfield 19, 3) := by decide +kernel
theorem dX6_blowNext_8 : decode cX6_blowNext 8 = .ok (.aload_n 0, 1) := by decide +kernel
theorem dX6_blowNext_9 : decode cX6_blowNext 9 = .ok (.getfield 19, 3) := by decide +kernel
theorem dX6_blowNext_12 : decode cX6_blowNext 12 = .ok (.aload_n 0, 1) := by decide +kernel
theorem dX6_blowNext_13 : decode cX6_blowNext 13 = .ok (.getfield 29, 3) := by decide +kernel
theorem dX6_blowNext_16 : decode cX6_blowNext 16 = .ok (.getfield 127, 3) := by decide +kernel
theorem dX6_blowNext_19 : decode cX6_blowNext 19 = .ok (.invokevirtual 181, 3) := by decide +kernel
theorem dX6_blowNext_22 : decode cX6_blowNext 22 = .ok (.invokevirtual 333, 3) := by decide +kernel
theorem dX6_blowNext_25 : decode cX6_blowNext 25 = .ok (.istore_n 2, 1) := by decide +kernel
theorem dX6_blowNext_26 : decode cX6_blowNext 26 = .ok (.aload_n 0, 1) := by decide +kernel
theorem dX6_blowNext_27 : decode cX6_blowNext 27 = .ok (.getfield 43, 3) := by decide +kernel
theorem dX6_blowNext_30 : decode cX6_blowNext 30 = .ok (.aload_n 0, 1) := by decide +kernel
theorem dX6_blowNext_31 : decode cX6_blowNext 31 = .ok (.getfield 29, 3) := by decide +kernel
theorem dX6_blowNext_34 : decode cX6_blowNext 34 = .ok (.aload_n 0, 1) := by decide +kernel
theorem dX6_blowNext_35 : decode cX6_blowNext 35 = .ok (.getfield 19, 3) := by decide +kernel
theorem dX6_blowNext_38 : decode cX6_blowNext 38 = .ok (.getfield 111, 3) := by decide +kernel
theorem dX6_blowNext_41 : decode cX6_blowNext 41 = .ok (.iload_n 1, 1) := by decide +kernel
theorem dX6_blowNext_42 : decode cX6_blowNext 42 = .ok (.aload_n 0, 1) := by decide +kernel
theorem dX6_blowNext_43 : decode cX6_blowNext 43 = .ok (.getfield 19, 3) := by decide +kernel
theorem dX6_blowNext_46 : decode cX6_blowNext 46 = .ok (.aload_n 0, 1) := by decide +kernel
theorem dX6_blowNext_47 : decode cX6_blowNext 47 = .ok (.getfield 29, 3) := by decide +kernel
theorem dX6_blowNext_50 : decode cX6_blowNext 50 = .ok (.getfield 127, 3) := by decide +kernel
theorem dX6_blowNext_53 : decode cX6_blowNext 53 = .ok (.invokevirtual 178, 3) := by decide +kernel
theorem dX6_blowNext_56 : decode cX6_blowNext 56 = .ok (.iload_n 2, 1) := by decide +kernel
theorem dX6_blowNext_57 : decode cX6_blowNext 57 = .ok (.invokevirtual 283, 3) := by decide +kernel
theorem dX6_blowNext_60 : decode cX6_blowNext 60 = .ok (.return_, 1) := by decide +kernel
theorem dX6_takenOf_0 : decode cX6_takenOf 0 = .ok (.aload_n 0, 1) := by decide +kernel
theorem dX6_takenOf_1 : decode cX6_takenOf 1 = .ok (.getfield 43, 3) := by decide +kernel
theorem dX6_takenOf_4 : decode cX6_takenOf 4 = .ok (.aload_n 0, 1) := by decide +kernel
theorem dX6_takenOf_5 : decode cX6_takenOf 5 = .ok (.getfield 29, 3) := by decide +kernel
theorem dX6_takenOf_8 : decode cX6_takenOf 8 = .ok (.aload_n 0, 1) := by decide +kernel
theorem dX6_takenOf_9 : decode cX6_takenOf 9 = .ok (.getfield 19, 3) := by decide +kernel
theorem dX6_takenOf_12 : decode cX6_takenOf 12 = .ok (.getfield 111, 3) := by decide +kernel
theorem dX6_takenOf_15 : decode cX6_takenOf 15 = .ok (.aload_n 0, 1) := by decide +kernel
theorem dX6_takenOf_16 : decode cX6_takenOf 16 = .ok (.getfield 29, 3) := by decide +kernel
theorem dX6_takenOf_19 : decode cX6_takenOf 19 = .ok (.aload_n 0, 1) := by decide +kernel
theorem dX6_takenOf_20 : decode cX6_takenOf 20 = .ok (.getfield 19, 3) := by decide +kernel
theorem dX6_takenOf_23 : decode cX6_takenOf 23 = .ok (.invokevirtual 134, 3) := by decide +kernel
theorem dX6_takenOf_26 : decode cX6_takenOf 26 = .ok (.iload_n 2, 1) := by decide +kernel
theorem dX6_takenOf_27 : decode cX6_takenOf 27 = .ok (.iload_n 3, 1) := by decide +kernel
theorem dX6_takenOf_28 : decode cX6_takenOf 28 = .ok (.invokevirtual 283, 3) := by decide +kernel
theorem dX6_takenOf_31 : decode cX6_takenOf 31 = .ok (.aload_n 0, 1) := by decide +kernel
theorem dX6_takenOf_32 : decode cX6_takenOf 32 = .ok (.getfield 43, 3) := by decide +kernel
theorem dX6_takenOf_35 : decode cX6_takenOf 35 = .ok (.getfield 256, 3) := by decide +kernel
theorem dX6_takenOf_38 : decode cX6_takenOf 38 = .ok (.iload_n 1, 1) := by decide +kernel
theorem dX6_takenOf_39 : decode cX6_takenOf 39 = .ok (.invokestatic 154, 3) := by decide +kernel
theorem dX6_takenOf_42 : decode cX6_takenOf 42 = .ok (.ireturn, 1) := by decide +kernel
theorem dX6_fitting_0 : decode cX6_fitting 0 = .ok (.lconst 0, 1) := by decide +kernel
theorem dX6_fitting_1 : decode cX6_fitting 1 = .ok (.lstore_n 1, 1) := by decide +kernel
theorem dX6_fitting_2 : decode cX6_fitting 2 = .ok (.iconst 0, 1) := by decide +kernel
theorem dX6_fitting_3 : decode cX6_fitting 3 = .ok (.istore_n 3, 1) := by decide +kernel
theorem dX6_fitting_4 : decode cX6_fitting 4 = .ok (.iload_n 3, 1) := by decide +kernel
theorem dX6_fitting_5 : decode cX6_fitting 5 = .ok (.bipush 40, 2) := by decide +kernel
theorem dX6_fitting_7 : decode cX6_fitting 7 = .ok (.if_icmp .gt 23, 3) := by decide +kernel
theorem dX6_fitting_10 : decode cX6_fitting 10 = .ok (.aload_n 0, 1) := by decide +kernel
theorem dX6_fitting_11 : decode cX6_fitting 11 = .ok (.iload_n 3, 1) := by decide +kernel
theorem dX6_fitting_12 : decode cX6_fitting 12 = .ok (.invokevirtual 336, 3) := by decide +kernel
theorem dX6_fitting_15 : decode cX6_fitting 15 = .ok (.ifCond .eq 9, 3) := by decide +kernel
theorem dX6_fitting_18 : decode cX6_fitting 18 = .ok (.lload_n 1, 1) := by decide +kernel
theorem dX6_fitting_19 : decode cX6_fitting 19 = .ok (.lconst 1, 1) := by decide +kernel
theorem dX6_fitting_20 : decode cX6_fitting 20 = .ok (.iload_n 3, 1) := by decide +kernel
theorem dX6_fitting_21 : decode cX6_fitting 21 = .ok (.lshl, 1) := by decide +kernel
theorem dX6_fitting_22 : decode cX6_fitting 22 = .ok (.lor, 1) := by decide +kernel
theorem dX6_fitting_23 : decode cX6_fitting 23 = .ok (.lstore_n 1, 1) := by decide +kernel
theorem dX6_fitting_24 : decode cX6_fitting 24 = .ok (.iinc 3 1, 3) := by decide +kernel
theorem dX6_fitting_27 : decode cX6_fitting 27 = .ok (.goto (-23), 3) := by decide +kernel
theorem dX6_fitting_30 : decode cX6_fitting 30 = .ok (.lload_n 1, 1) := by decide +kernel
theorem dX6_fitting_31 : decode cX6_fitting 31 = .ok (.lreturn, 1) := by decide +kernel
theorem dX6_fitsAll_0 : decode cX6_fitsAll 0 = .ok (.iconst 0, 1) := by decide +kernel
theorem dX6_fitsAll_1 : decode cX6_fitsAll 1 = .ok (.istore_n 2, 1) := by decide +kernel
theorem dX6_fitsAll_2 : decode cX6_fitsAll 2 = .ok (.iload_n 2, 1) := by decide +kernel
theorem dX6_fitsAll_3 : decode cX6_fitsAll 3 = .ok (.aload_n 0, 1) := by decide +kernel
theorem dX6_fitsAll_4 : decode cX6_fitsAll 4 = .ok (.getfield 70, 3) := by decide +kernel
theorem dX6_fitsAll_7 : decode cX6_fitsAll 7 = .ok (.getfield 104, 3) := by decide +kernel
theorem dX6_fitsAll_10 : decode cX6_fitsAll 10 = .ok (.if_icmp .ge 60, 3) := by decide +kernel
theorem dX6_fitsAll_13 : decode cX6_fitsAll 13 = .ok (.iload_n 2, 1) := by decide +kernel
theorem dX6_fitsAll_14 : decode cX6_fitsAll 14 = .ok (.bipush 6, 2) := by decide +kernel
theorem dX6_fitsAll_16 : decode cX6_fitsAll 16 = .ok (.if_icmp .ge 54, 3) := by decide +kernel
theorem dX6_fitsAll_19 : decode cX6_fitsAll 19 = .ok (.aload_n 0, 1) := by decide +kernel
theorem dX6_fitsAll_20 : decode cX6_fitsAll 20 = .ok (.aload_n 0, 1) := by decide +kernel
theorem dX6_fitsAll_21 : decode cX6_fitsAll 21 = .ok (.getfield 70, 3) := by decide +kernel
theorem dX6_fitsAll_24 : decode cX6_fitsAll 24 = .ok (.getfield 317, 3) := by decide +kernel
theorem dX6_fitsAll_27 : decode cX6_fitsAll 27 = .ok (.iload_n 2, 1) := by decide +kernel
theorem dX6_fitsAll_28 : decode cX6_fitsAll 28 = .ok (.invokestatic 154, 3) := by decide +kernel
theorem dX6_fitsAll_31 : decode cX6_fitsAll 31 = .ok (.aload_n 0, 1) := by decide +kernel
theorem dX6_fitsAll_32 : decode cX6_fitsAll 32 = .ok (.getfield 70, 3) := by decide +kernel
theorem dX6_fitsAll_35 : decode cX6_fitsAll 35 = .ok (.getfield 339, 3) := by decide +kernel
theorem dX6_fitsAll_38 : decode cX6_fitsAll 38 = .ok (.iload_n 2, 1) := by decide +kernel
theorem dX6_fitsAll_39 : decode cX6_fitsAll 39 = .ok (.invokestatic 154, 3) := by decide +kernel
theorem dX6_fitsAll_42 : decode cX6_fitsAll 42 = .ok (.iload_n 1, 1) := by decide +kernel
theorem dX6_fitsAll_43 : decode cX6_fitsAll 43 = .ok (.invokevirtual 314, 3) := by decide +kernel
theorem dX6_fitsAll_46 : decode cX6_fitsAll 46 = .ok (.istore_n 3, 1) := by decide +kernel
theorem dX6_fitsAll_47 : decode cX6_fitsAll 47 = .ok (.iload_n 3, 1) := by decide +kernel
theorem dX6_fitsAll_48 : decode cX6_fitsAll 48 = .ok (.aload_n 0, 1) := by decide +kernel
theorem dX6_fitsAll_49 : decode cX6_fitsAll 49 = .ok (.getfield 70, 3) := by decide +kernel
theorem dX6_fitsAll_52 : decode cX6_fitsAll 52 = .ok (.getfield 319, 3) := by decide +kernel
theorem dX6_fitsAll_55 : decode cX6_fitsAll 55 = .ok (.iload_n 2, 1) := by decide +kernel
theorem dX6_fitsAll_56 : decode cX6_fitsAll 56 = .ok (.invokestatic 154, 3) := by decide +kernel
theorem dX6_fitsAll_59 : decode cX6_fitsAll 59 = .ok (.if_icmp .eq 5, 3) := by decide +kernel
theorem dX6_fitsAll_62 : decode cX6_fitsAll 62 = .ok (.iconst 0, 1) := by decide +kernel
theorem dX6_fitsAll_63 : decode cX6_fitsAll 63 = .ok (.ireturn, 1) := by decide +kernel
theorem dX6_fitsAll_64 : decode cX6_fitsAll 64 = .ok (.iinc 2 1, 3) := by decide +kernel
theorem dX6_fitsAll_67 : decode cX6_fitsAll 67 = .ok (.goto (-65), 3) := by decide +kernel
theorem dX6_fitsAll_70 : decode cX6_fitsAll 70 = .ok (.iconst 1, 1) := by decide +kernel
theorem dX6_fitsAll_71 : decode cX6_fitsAll 71 = .ok (.ireturn, 1) := by decide +kernel
theorem dX6_greatestPart_0 : decode cX6_greatestPart 0 = .ok (.iconst 0, 1) := by decide +kernel
theorem dX6_greatestPart_1 : decode cX6_greatestPart 1 = .ok (.istore 5, 2) := by decide +kernel
theorem dX6_greatestPart_3 : decode cX6_greatestPart 3 = .ok (.iload 5, 2) := by decide +kernel
theorem dX6_greatestPart_5 : decode cX6_greatestPart 5 = .ok (.bipush 40, 2) := by decide +kernel
theorem dX6_greatestPart_7 : decode cX6_greatestPart 7 = .ok (.if_icmp .gt 17, 3) := by decide +kernel
theorem dX6_greatestPart_10 : decode cX6_greatestPart 10 = .ok (.aload_n 0, 1) := by decide +kernel
theorem dX6_greatestPart_11 : decode cX6_greatestPart 11 = .ok (.getfield 77, 3) := by decide +kernel
theorem dX6_greatestPart_14 : decode cX6_greatestPart 14 = .ok (.iload 5, 2) := by decide +kernel
theorem dX6_greatestPart_16 : decode cX6_greatestPart 16 = .ok (.iconst 0, 1) := by decide +kernel
theorem dX6_greatestPart_17 : decode cX6_greatestPart 17 = .ok (.iastore, 1) := by decide +kernel
theorem dX6_greatestPart_18 : decode cX6_greatestPart 18 = .ok (.iinc 5 1, 3) := by decide +kernel
theorem dX6_greatestPart_21 : decode cX6_greatestPart 21 = .ok (.goto (-18), 3) := by decide +kernel
theorem dX6_greatestPart_24 : decode cX6_greatestPart 24 = .ok (.iconst 0, 1) := by decide +kernel
theorem dX6_greatestPart_25 : decode cX6_greatestPart 25 = .ok (.istore 5, 2) := by decide +kernel
theorem dX6_greatestPart_27 : decode cX6_greatestPart 27 = .ok (.iconst 0, 1) := by decide +kernel
theorem dX6_greatestPart_28 : decode cX6_greatestPart 28 = .ok (.istore 6, 2) := by decide +kernel
theorem dX6_greatestPart_30 : decode cX6_greatestPart 30 = .ok (.iload 6, 2) := by decide +kernel
theorem dX6_greatestPart_32 : decode cX6_greatestPart 32 = .ok (.bipush 40, 2) := by decide +kernel
theorem dX6_greatestPart_34 : decode cX6_greatestPart 34 = .ok (.if_icmp .gt 67, 3) := by decide +kernel
theorem dX6_greatestPart_37 : decode cX6_greatestPart 37 = .ok (.lload_n 1, 1) := by decide +kernel
theorem dX6_greatestPart_38 : decode cX6_greatestPart 38 = .ok (.iload 6, 2) := by decide +kernel
theorem dX6_greatestPart_40 : decode cX6_greatestPart 40 = .ok (.lshr, 1) := by decide +kernel
theorem dX6_greatestPart_41 : decode cX6_greatestPart 41 = .ok (.lconst 1, 1) := by decide +kernel
theorem dX6_greatestPart_42 : decode cX6_greatestPart 42 = .ok (.land, 1) := by decide +kernel
theorem dX6_greatestPart_43 : decode cX6_greatestPart 43 = .ok (.lconst 0, 1) := by decide +kernel
theorem dX6_greatestPart_44 : decode cX6_greatestPart 44 = .ok (.lcmp, 1) := by decide +kernel
theorem dX6_greatestPart_45 : decode cX6_greatestPart 45 = .ok (.ifCond .ne 6, 3) := by decide +kernel
theorem dX6_greatestPart_48 : decode cX6_greatestPart 48 = .ok (.goto 47, 3) := by decide +kernel
theorem dX6_greatestPart_51 : decode cX6_greatestPart 51 = .ok (.aload_n 0, 1) := by decide +kernel
theorem dX6_greatestPart_52 : decode cX6_greatestPart 52 = .ok (.iload_n 3, 1) := by decide +kernel
theorem dX6_greatestPart_53 : decode cX6_greatestPart 53 = .ok (.iload 4, 2) := by decide +kernel
theorem dX6_greatestPart_55 : decode cX6_greatestPart 55 = .ok (.iload 6, 2) := by decide +kernel
theorem dX6_greatestPart_57 : decode cX6_greatestPart 57 = .ok (.invokevirtual 314, 3) := by decide +kernel
theorem dX6_greatestPart_60 : decode cX6_greatestPart 60 = .ok (.istore 7, 2) := by decide +kernel
theorem dX6_greatestPart_62 : decode cX6_greatestPart 62 = .ok (.aload_n 0, 1) := by decide +kernel
theorem dX6_greatestPart_63 : decode cX6_greatestPart 63 = .ok (.getfield 77, 3) := by decide +kernel
theorem dX6_greatestPart_66 : decode cX6_greatestPart 66 = .ok (.iload 7, 2) := by decide +kernel
theorem dX6_greatestPart_68 : decode cX6_greatestPart 68 = .ok (.invokestatic 154, 3) := by decide +kernel
theorem dX6_greatestPart_71 : decode cX6_greatestPart 71 = .ok (.iconst 1, 1) := by decide +kernel
theorem dX6_greatestPart_72 : decode cX6_greatestPart 72 = .ok (.iadd, 1) := by decide +kernel
theorem dX6_greatestPart_73 : decode cX6_greatestPart 73 = .ok (.istore 8, 2) := by decide +kernel
theorem dX6_greatestPart_75 : decode cX6_greatestPart 75 = .ok (.aload_n 0, 1) := by decide +kernel
theorem dX6_greatestPart_76 : decode cX6_greatestPart 76 = .ok (.getfield 77, 3) := by decide +kernel
theorem dX6_greatestPart_79 : decode cX6_greatestPart 79 = .ok (.iload 7, 2) := by decide +kernel
theorem dX6_greatestPart_81 : decode cX6_greatestPart 81 = .ok (.iload 8, 2) := by decide +kernel
theorem dX6_greatestPart_83 : decode cX6_greatestPart 83 = .ok (.invokestatic 227, 3) := by decide +kernel
theorem dX6_greatestPart_86 : decode cX6_greatestPart 86 = .ok (.iload 5, 2) := by decide +kernel
theorem dX6_greatestPart_88 : decode cX6_greatestPart 88 = .ok (.iload 8, 2) := by decide +kernel
theorem dX6_greatestPart_90 : decode cX6_greatestPart 90 = .ok (.invokestatic 342, 3) := by decide +kernel
theorem dX6_greatestPart_93 : decode cX6_greatestPart 93 = .ok (.istore 5, 2) := by decide +kernel
theorem dX6_greatestPart_95 : decode cX6_greatestPart 95 = .ok (.iinc 6 1, 3) := by decide +kernel
theorem dX6_greatestPart_98 : decode cX6_greatestPart 98 = .ok (.goto (-68), 3) := by decide +kernel
theorem dX6_greatestPart_101 : decode cX6_greatestPart 101 = .ok (.iload 5, 2) := by decide +kernel
theorem dX6_greatestPart_103 : decode cX6_greatestPart 103 = .ok (.ireturn, 1) := by decide +kernel
theorem dX7_init_0 : decode cX7_init 0 = .ok (.aload_n 0, 1) := by decide +kernel
theorem dX7_init_1 : decode cX7_init 1 = .ok (.invokespecial 1, 3) := by decide +kernel
theorem dX7_init_4 : decode cX7_init 4 = .ok (.aload_n 0, 1) := by decide +kernel
theorem dX7_init_5 : decode cX7_init 5 = .ok (.sipush 240, 3) := by decide +kernel
theorem dX7_init_8 : decode cX7_init 8 = .ok (.newarray .int, 2) := by decide +kernel
theorem dX7_init_10 : decode cX7_init 10 = .ok (.putfield 7, 3) := by decide +kernel
theorem dX7_init_13 : decode cX7_init 13 = .ok (.aload_n 0, 1) := by decide +kernel
theorem dX7_init_14 : decode cX7_init 14 = .ok (.iconst (-1), 1) := by decide +kernel
theorem dX7_init_15 : decode cX7_init 15 = .ok (.putfield 13, 3) := by decide +kernel
theorem dX7_init_18 : decode cX7_init 18 = .ok (.aload_n 0, 1) := by decide +kernel
theorem dX7_init_19 : decode cX7_init 19 = .ok (.iconst 2, 1) := by decide +kernel
theorem dX7_init_20 : decode cX7_init 20 = .ok (.newarray .int, 2) := by decide +kernel
theorem dX7_init_22 : decode cX7_init 22 = .ok (.putfield 17, 3) := by decide +kernel
theorem dX7_init_25 : decode cX7_init 25 = .ok (.aload_n 0, 1) := by decide +kernel
theorem dX7_init_26 : decode cX7_init 26 = .ok (.iconst 2, 1) := by decide +kernel
theorem dX7_init_27 : decode cX7_init 27 = .ok (.newarray .int, 2) := by decide +kernel
theorem dX7_init_29 : decode cX7_init 29 = .ok (.putfield 20, 3) := by decide +kernel
theorem dX7_init_32 : decode cX7_init 32 = .ok (.aload_n 0, 1) := by decide +kernel
theorem dX7_init_33 : decode cX7_init 33 = .ok (.iconst 2, 1) := by decide +kernel
theorem dX7_init_34 : decode cX7_init 34 = .ok (.newarray .int, 2) := by decide +kernel
theorem dX7_init_36 : decode cX7_init 36 = .ok (.putfield 23, 3) := by decide +kernel
theorem dX7_init_39 : decode cX7_init 39 = .ok (.aload_n 0, 1) := by decide +kernel
theorem dX7_init_40 : decode cX7_init 40 = .ok (.bipush 24, 2) := by decide +kernel
theorem dX7_init_42 : decode cX7_init 42 = .ok (.newarray .int, 2) := by decide +kernel
theorem dX7_init_44 : decode cX7_init 44 = .ok (.putfield 26, 3) := by decide +kernel
theorem dX7_init_47 : decode cX7_init 47 = .ok (.aload_n 0, 1) := by decide +kernel
theorem dX7_init_48 : decode cX7_init 48 = .ok (.bipush 24, 2) := by decide +kernel
theorem dX7_init_50 : decode cX7_init 50 = .ok (.newarray .int, 2) := by decide +kernel
theorem dX7_init_52 : decode cX7_init 52 = .ok (.putfield 29, 3) := by decide +kernel
theorem dX7_init_55 : decode cX7_init 55 = .ok (.aload_n 0, 1) := by decide +kernel
theorem dX7_init_56 : decode cX7_init 56 = .ok (.bipush 8, 2) := by decide +kernel
theorem dX7_init_58 : decode cX7_init 58 = .ok (.newarray .int, 2) := by decide +kernel
theorem dX7_init_60 : decode cX7_init 60 = .ok (.putfield 32, 3) := by decide +kernel
theorem dX7_init_63 : decode cX7_init 63 = .ok (.aload_n 0, 1) := by decide +kernel
theorem dX7_init_64 : decode cX7_init 64 = .ok (.bipush 24, 2) := by decide +kernel
theorem dX7_init_66 : decode cX7_init 66 = .ok (.newarray .int, 2) := by decide +kernel
theorem dX7_init_68 : decode cX7_init 68 = .ok (.putfield 35, 3) := by decide +kernel
theorem dX7_init_71 : decode cX7_init 71 = .ok (.aload_n 0, 1) := by decide +kernel
theorem dX7_init_72 : decode cX7_init 72 = .ok (.bipush 6, 2) := by decide +kernel
theorem dX7_init_74 : decode cX7_init 74 = .ok (.newarray .int, 2) := by decide +kernel
theorem dX7_init_76 : decode cX7_init 76 = .ok (.putfield 38, 3) := by decide +kernel
theorem dX7_init_79 : decode cX7_init 79 = .ok (.aload_n 0, 1) := by decide +kernel
theorem dX7_init_80 : decode cX7_init 80 = .ok (.bipush 6, 2) := by decide +kernel
theorem dX7_init_82 : decode cX7_init 82 = .ok (.newarray .int, 2) := by decide +kernel
theorem dX7_init_84 : decode cX7_init 84 = .ok (.putfield 41, 3) := by decide +kernel
theorem dX7_init_87 : decode cX7_init 87 = .ok (.aload_n 0, 1) := by decide +kernel
theorem dX7_init_88 : decode cX7_init 88 = .ok (.bipush 8, 2) := by decide +kernel
theorem dX7_init_90 : decode cX7_init 90 = .ok (.newarray .int, 2) := by decide +kernel
theorem dX7_init_92 : decode cX7_init 92 = .ok (.putfield 44, 3) := by decide +kernel
theorem dX7_init_95 : decode cX7_init 95 = .ok (.aload_n 0, 1) := by decide +kernel
theorem dX7_init_96 : decode cX7_init 96 = .ok (.iconst 2, 1) := by decide +kernel
theorem dX7_init_97 : decode cX7_init 97 = .ok (.newarray .int, 2) := by decide +kernel
theorem dX7_init_99 : decode cX7_init 99 = .ok (.putfield 47, 3) := by decide +kernel
theorem dX7_init_102 : decode cX7_init 102 = .ok (.aload_n 0, 1) := by decide +kernel
theorem dX7_init_103 : decode cX7_init 103 = .ok (.iconst 2, 1) := by decide +kernel
theorem dX7_init_104 : decode cX7_init 104 = .ok (.newarray .int, 2) := by decide +kernel
theorem dX7_init_106 : decode cX7_init 106 = .ok (.putfield 50, 3) := by decide +kernel
theorem dX7_init_109 : decode cX7_init 109 = .ok (.aload_n 0, 1) := by decide +kernel
theorem dX7_init_110 : decode cX7_init 110 = .ok (.bipush 27, 2) := by decide +kernel
theorem dX7_init_112 : decode cX7_init 112 = .ok (.newarray .int, 2) := by decide +kernel
theorem dX7_init_114 : decode cX7_init 114 = .ok (.putfield 53, 3) := by decide +kernel
theorem dX7_init_117 : decode cX7_init 117 = .ok (.aload_n 0, 1) := by decide +kernel
theorem dX7_init_118 : decode cX7_init 118 = .ok (.bipush 27, 2) := by decide +kernel
theorem dX7_init_120 : decode cX7_init 120 = .ok (.newarray .int, 2) := by decide +kernel
theorem dX7_init_122 : decode cX7_init 122 = .ok (.putfield 56, 3) := by decide +kernel
theorem dX7_init_125 : decode cX7_init 125 = .ok (.aload_n 0, 1) := by decide +kernel
theorem dX7_init_126 : decode cX7_init 126 = .ok (.bipush 6, 2) := by decide +kernel
theorem dX7_init_128 : decode cX7_init 128 = .ok (.newarray .int, 2) := by decide +kernel
theorem dX7_init_130 : decode cX7_init 130 = .ok (.putfield 59, 3) := by decide +kernel
theorem dX7_init_133 : decode cX7_init 133 = .ok (.aload_n 0, 1) := by decide +kernel
theorem dX7_init_134 : decode cX7_init 134 = .ok (.sipush 810, 3) := by decide +kernel
theorem dX7_init_137 : decode cX7_init 137 = .ok (.newarray .int, 2) := by decide +kernel
theorem dX7_init_139 : decode cX7_init 139 = .ok (.putfield 62, 3) := by decide +kernel
theorem dX7_init_142 : decode cX7_init 142 = .ok (.aload_n 0, 1) := by decide +kernel
theorem dX7_init_143 : decode cX7_init 143 = .ok (.bipush 6, 2) := by decide +kernel
theorem dX7_init_145 : decode cX7_init 145 = .ok (.newarray .int, 2) := by decide +kernel
theorem dX7_init_147 : decode cX7_init 147 = .ok (.putfield 65, 3) := by decide +kernel
theorem dX7_init_150 : decode cX7_init 150 = .ok (.aload_n 0, 1) := by decide +kernel
theorem dX7_init_151 : decode cX7_init 151 = .ok (.bipush 18, 2) := by decide +kernel
theorem dX7_init_153 : decode cX7_init 153 = .ok (.newarray .int, 2) := by decide +kernel
theorem dX7_init_155 : decode cX7_init 155 = .ok (.putfield 68, 3) := by decide +kernel
theorem dX7_init_158 : decode cX7_init 158 = .ok (.aload_n 0, 1) := by decide +kernel
theorem dX7_init_159 : decode cX7_init 159 = .ok (.bipush 40, 2) := by decide +kernel
theorem dX7_init_161 : decode cX7_init 161 = .ok (.newarray .int, 2) := by decide +kernel
theorem dX7_init_163 : decode cX7_init 163 = .ok (.putfield 71, 3) := by decide +kernel
theorem dX7_init_166 : decode cX7_init 166 = .ok (.aload_n 0, 1) := by decide +kernel
theorem dX7_init_167 : decode cX7_init 167 = .ok (.iconst 2, 1) := by decide +kernel
theorem dX7_init_168 : decode cX7_init 168 = .ok (.newarray .boolean, 2) := by decide +kernel
theorem dX7_init_170 : decode cX7_init 170 = .ok (.putfield 74, 3) := by decide +kernel
theorem dX7_init_173 : decode cX7_init 173 = .ok (.aload_n 0, 1) := by decide +kernel
theorem dX7_init_174 : decode cX7_init 174 = .ok (.bipush 54, 2) := by decide +kernel
theorem dX7_init_176 : decode cX7_init 176 = .ok (.newarray .int, 2) := by decide +kernel
theorem dX7_init_178 : decode cX7_init 178 = .ok (.putfield 78, 3) := by decide +kernel
theorem dX7_init_181 : decode cX7_init 181 = .ok (.aload_n 0, 1) := by decide +kernel
theorem dX7_init_182 : decode cX7_init 182 = .ok (.iconst 2, 1) := by decide +kernel
theorem dX7_init_183 : decode cX7_init 183 = .ok (.newarray .long, 2) := by decide +kernel
theorem dX7_init_185 : decode cX7_init 185 = .ok (.putfield 81, 3) := by decide +kernel
theorem dX7_init_188 : decode cX7_init 188 = .ok (.aload_n 0, 1) := by decide +kernel
theorem dX7_init_189 : decode cX7_init 189 = .ok (.getfield 47, 3) := by decide +kernel
theorem dX7_init_192 : decode cX7_init 192 = .ok (.iconst 0, 1) := by decide +kernel
theorem dX7_init_193 : decode cX7_init 193 = .ok (.bipush 127, 2) := by decide +kernel
theorem dX7_init_195 : decode cX7_init 195 = .ok (.iastore, 1) := by decide +kernel
theorem dX7_init_196 : decode cX7_init 196 = .ok (.aload_n 0, 1) := by decide +kernel
theorem dX7_init_197 : decode cX7_init 197 = .ok (.getfield 47, 3) := by decide +kernel
theorem dX7_init_200 : decode cX7_init 200 = .ok (.iconst 1, 1) := by decide +kernel
theorem dX7_init_201 : decode cX7_init 201 = .ok (.bipush 127, 2) := by decide +kernel
theorem dX7_init_203 : decode cX7_init 203 = .ok (.iastore, 1) := by decide +kernel
theorem dX7_init_204 : decode cX7_init 204 = .ok (.return_, 1) := by decide +kernel
theorem dX7_in_0 : decode cX7_in 0 = .ok (.iload_n 0, 1) := by decide +kernel
theorem dX7_in_1 : decode cX7_in 1 = .ok (.iload_n 1, 1) := by decide +kernel
theorem dX7_in_2 : decode cX7_in 2 = .ok (.if_icmp .lt 12, 3) := by decide +kernel
theorem dX7_in_5 : decode cX7_in 5 = .ok (.iload_n 0, 1) := by decide +kernel
theorem dX7_in_6 : decode cX7_in 6 = .ok (.iload_n 2, 1) := by decide +kernel
theorem dX7_in_7 : decode cX7_in 7 = .ok (.if_icmp .gt 7, 3) := by decide +kernel
theorem dX7_in_10 : decode cX7_in 10 = .ok (.iconst 1, 1) := by decide +kernel
theorem dX7_in_11 : decode cX7_in 11 = .ok (.goto 4, 3) := by decide +kernel
theorem dX7_in_14 : decode cX7_in 14 = .ok (.iconst 0, 1) := by decide +kernel
theorem dX7_in_15 : decode cX7_in 15 = .ok (.ireturn, 1) := by decide +kernel
theorem dX7_has_0 : decode cX7_has 0 = .ok (.iload_n 0, 1) := by decide +kernel
theorem dX7_has_1 : decode cX7_has 1 = .ok (.iload_n 1, 1) := by decide +kernel
theorem dX7_has_2 : decode cX7_has 2 = .ok (.ishr, 1) := by decide +kernel
theorem dX7_has_3 : decode cX7_has 3 = .ok (.iconst 1, 1) := by decide +kernel
theorem dX7_has_4 : decode cX7_has 4 = .ok (.iand, 1) := by decide +kernel
theorem dX7_has_5 : decode cX7_has 5 = .ok (.iconst 1, 1) := by decide +kernel
theorem dX7_has_6 : decode cX7_has 6 = .ok (.if_icmp .ne 7, 3) := by decide +kernel
theorem dX7_has_9 : decode cX7_has 9 = .ok (.iconst 1, 1) := by decide +kernel
theorem dX7_has_10 : decode cX7_has 10 = .ok (.goto 4, 3) := by decide +kernel
theorem dX7_has_13 : decode cX7_has 13 = .ok (.iconst 0, 1) := by decide +kernel
theorem dX7_has_14 : decode cX7_has 14 = .ok (.ireturn, 1) := by decide +kernel
theorem dX7_feed_0 : decode cX7_feed 0 = .ok (.iload_n 1, 1) := by decide +kernel
theorem dX7_feed_1 : decode cX7_feed 1 = .ok (.iconst 0, 1) := by decide +kernel
theorem dX7_feed_2 : decode cX7_feed 2 = .ok (.sipush 255, 3) := by decide +kernel
theorem dX7_feed_5 : decode cX7_feed 5 = .ok (.invokestatic 85, 3) := by decide +kernel
theorem dX7_feed_8 : decode cX7_feed 8 = .ok (.ifCond .ne 6, 3) := by decide +kernel
theorem dX7_feed_11 : decode cX7_feed 11 = .ok (.ldc 89, 2) := by decide +kernel
theorem dX7_feed_13 : decode cX7_feed 13 = .ok (.ireturn, 1) := by decide +kernel
theorem dX7_feed_14 : decode cX7_feed 14 = .ok (.aload_n 0, 1) := by decide +kernel
theorem dX7_feed_15 : decode cX7_feed 15 = .ok (.getfield 90, 3) := by decide +kernel
theorem dX7_feed_18 : decode cX7_feed 18 = .ok (.sipush 240, 3) := by decide +kernel
theorem dX7_feed_21 : decode cX7_feed 21 = .ok (.if_icmp .ne 6, 3) := by decide +kernel
theorem dX7_feed_24 : decode cX7_feed 24 = .ok (.ldc 93, 2) := by decide +kernel
theorem dX7_feed_26 : decode cX7_feed 26 = .ok (.ireturn, 1) := by decide +kernel
theorem dX7_feed_27 : decode cX7_feed 27 = .ok (.aload_n 0, 1) := by decide +kernel
theorem dX7_feed_28 : decode cX7_feed 28 = .ok (.getfield 7, 3) := by decide +kernel
theorem dX7_feed_31 : decode cX7_feed 31 = .ok (.aload_n 0, 1) := by decide +kernel
theorem dX7_feed_32 : decode cX7_feed 32 = .ok (.getfield 90, 3) := by decide +kernel
theorem dX7_feed_35 : decode cX7_feed 35 = .ok (.iload_n 1, 1) := by decide +kernel
theorem dX7_feed_36 : decode cX7_feed 36 = .ok (.iastore, 1) := by decide +kernel
theorem dX7_feed_37 : decode cX7_feed 37 = .ok (.aload_n 0, 1) := by decide +kernel
theorem dX7_feed_38 : decode cX7_feed 38 = .ok (.dup, 1) := by decide +kernel
theorem dX7_feed_39 : decode cX7_feed 39 = .ok (.getfield 90, 3) := by decide +kernel
theorem dX7_feed_42 : decode cX7_feed 42 = .ok (.iconst 1, 1) := by decide +kernel
theorem dX7_feed_43 : decode cX7_feed 43 = .ok (.iadd, 1) := by decide +kernel
theorem dX7_feed_44 : decode cX7_feed 44 = .ok (.putfield 90, 3) := by decide +kernel
theorem dX7_feed_47 : decode cX7_feed 47 = .ok (.aload_n 0, 1) := by decide +kernel
theorem dX7_feed_48 : decode cX7_feed 48 = .ok (.getfield 90, 3) := by decide +kernel
theorem dX7_feed_51 : decode cX7_feed 51 = .ok (.ireturn, 1) := by decide +kernel
theorem dX7_fault_0 : decode cX7_fault 0 = .ok (.aload_n 0, 1) := by decide +kernel
theorem dX7_fault_1 : decode cX7_fault 1 = .ok (.getfield 13, 3) := by decide +kernel
theorem dX7_fault_4 : decode cX7_fault 4 = .ok (.ireturn, 1) := by decide +kernel
theorem dX7_letterAt_0 : decode cX7_letterAt 0 = .ok (.iload_n 1, 1) := by decide +kernel
theorem dX7_letterAt_1 : decode cX7_letterAt 1 = .ok (.aload_n 0, 1) := by decide +kernel
theorem dX7_letterAt_2 : decode cX7_letterAt 2 = .ok (.getfield 90, 3) := by decide +kernel
theorem dX7_letterAt_5 : decode cX7_letterAt 5 = .ok (.if_icmp .ge 12, 3) := by decide +kernel
theorem dX7_letterAt_8 : decode cX7_letterAt 8 = .ok (.aload_n 0, 1) := by decide +kernel
theorem dX7_letterAt_9 : decode cX7_letterAt 9 = .ok (.getfield 7, 3) := by decide +kernel
theorem dX7_letterAt_12 : decode cX7_letterAt 12 = .ok (.iload_n 1, 1) := by decide +kernel
theorem dX7_letterAt_13 : decode cX7_letterAt 13 = .ok (.iaload, 1) := by decide +kernel
theorem dX7_letterAt_14 : decode cX7_letterAt 14 = .ok (.goto 4, 3) := by decide +kernel
theorem dX7_letterAt_17 : decode cX7_letterAt 17 = .ok (.iconst (-1), 1) := by decide +kernel
theorem dX7_letterAt_18 : decode cX7_letterAt 18 = .ok (.ireturn, 1) := by decide +kernel
theorem dX7_blanks_0 : decode cX7_blanks 0 = .ok (.aload_n 0, 1) := by decide +kernel
theorem dX7_blanks_1 : decode cX7_blanks 1 = .ok (.aload_n 0, 1) := by decide +kernel
theorem dX7_blanks_2 : decode cX7_blanks 2 = .ok (.getfield 94, 3) := by decide +kernel
theorem dX7_blanks_5 : decode cX7_blanks 5 = .ok (.invokevirtual 97, 3) := by decide +kernel
theorem dX7_blanks_8 : decode cX7_blanks 8 = .ok (.bipush 32, 2) := by decide +kernel
theorem dX7_blanks_10 : decode cX7_blanks 10 = .ok (.if_icmp .ne 16, 3) := by decide +kernel
theorem dX7_blanks_13 : decode cX7_blanks 13 = .ok (.aload_n 0, 1) := by decide +kernel
theorem dX7_blanks_14 : decode cX7_blanks 14 = .ok (.dup, 1) := by decide +kernel
theorem dX7_blanks_15 : decode cX7_blanks 15 = .ok (.getfield 94, 3) := by decide +kernel
theorem dX7_blanks_18 : decode cX7_blanks 18 = .ok (.iconst 1, 1) := by decide +kernel
theorem dX7_blanks_19 : decode cX7_blanks 19 = .ok (.iadd, 1) := by decide +kernel
theorem dX7_blanks_20 : decode cX7_blanks 20 = .ok (.putfield 94, 3) := by decide +kernel
theorem dX7_blanks_23 : decode cX7_blanks 23 = .ok (.goto (-23), 3) := by decide +kernel
theorem dX7_blanks_26 : decode cX7_blanks 26 = .ok (.return_, 1) := by decide +kernel
theorem dX7_fails_0 : decode cX7_fails 0 = .ok (.aload_n 0, 1) := by decide +kernel
theorem dX7_fails_1 : decode cX7_fails 1 = .ok (.iload_n 1, 1) := by decide +kernel
theorem dX7_fails_2 : decode cX7_fails 2 = .ok (.putfield 101, 3) := by decide +kernel
theorem dX7_fails_5 : decode cX7_fails 5 = .ok (.iconst 0, 1) := by decide +kernel
theorem dX7_fails_6 : decode cX7_fails 6 = .ok (.ireturn, 1) := by decide +kernel
theorem dX7_number_0 : decode cX7_number 0 = .ok (.aload_n 0, 1) := by decide +kernel
theorem dX7_number_1 : decode cX7_number 1 = .ok (.invokevirtual 104, 3) := by decide +kernel
theorem dX7_number_4 : decode cX7_number 4 = .ok (.aload_n 0, 1) := by decide +kernel
theorem dX7_number_5 : decode cX7_number 5 = .ok (.getfield 94, 3) := by decide +kernel
theorem dX7_number_8 : decode cX7_number 8 = .ok (.istore_n 3, 1) := by decide +kernel
theorem dX7_number_9 : decode cX7_number 9 = .ok (.iconst 0, 1) := by decide +kernel
theorem dX7_number_10 : decode cX7_number 10 = .ok (.istore 4, 2) := by decide +kernel
theorem dX7_number_12 : decode cX7_number 12 = .ok (.aload_n 0, 1) := by decide +kernel
theorem dX7_number_13 : decode cX7_number 13 = .ok (.iload_n 3, 1) := by decide +kernel
theorem dX7_number_14 : decode cX7_number 14 = .ok (.invokevirtual 97, 3) := by decide +kernel
theorem dX7_number_17 : decode cX7_number 17 = .ok (.bipush 48, 2) := by decide +kernel
theorem dX7_number_19 : decode cX7_number 19 = .ok (.bipush 57, 2) := by decide +kernel
theorem dX7_number_21 : decode cX7_number 21 = .ok (.invokestatic 85, 3) := by decide +kernel
theorem dX7_number_24 : decode cX7_number 24 = .ok (.ifCond .eq 40, 3) := by decide +kernel
theorem dX7_number_27 : decode cX7_number 27 = .ok (.iload_n 3, 1) := by decide +kernel
theorem dX7_number_28 : decode cX7_number 28 = .ok (.aload_n 0, 1) := by decide +kernel
theorem dX7_number_29 : decode cX7_number 29 = .ok (.getfield 94, 3) := by decide +kernel
theorem dX7_number_32 : decode cX7_number 32 = .ok (.isub, 1) := by decide +kernel
theorem dX7_number_33 : decode cX7_number 33 = .ok (.iconst 3, 1) := by decide +kernel
theorem dX7_number_34 : decode cX7_number 34 = .ok (.if_icmp .ge 20, 3) := by decide +kernel
theorem dX7_number_37 : decode cX7_number 37 = .ok (.bipush 10, 2) := by decide +kernel
theorem dX7_number_39 : decode cX7_number 39 = .ok (.iload 4, 2) := by decide +kernel
theorem dX7_number_41 : decode cX7_number 41 = .ok (.imul, 1) := by decide +kernel
theorem dX7_number_42 : decode cX7_number 42 = .ok (.aload_n 0, 1) := by decide +kernel
theorem dX7_number_43 : decode cX7_number 43 = .ok (.iload_n 3, 1) := by decide +kernel
theorem dX7_number_44 : decode cX7_number 44 = .ok (.invokevirtual 97, 3) := by decide +kernel
theorem dX7_number_47 : decode cX7_number 47 = .ok (.iadd, 1) := by decide +kernel
theorem dX7_number_48 : decode cX7_number 48 = .ok (.bipush 48, 2) := by decide +kernel
theorem dX7_number_50 : decode cX7_number 50 = .ok (.isub, 1) := by decide +kernel
theorem dX7_number_51 : decode cX7_number 51 = .ok (.goto 5, 3) := by decide +kernel
theorem dX7_number_54 : decode cX7_number 54 = .ok (.iload 4, 2) := by decide +kernel
theorem dX7_number_56 : decode cX7_number 56 = .ok (.istore 4, 2) := by decide +kernel
theorem dX7_number_58 : decode cX7_number 58 = .ok (.iinc 3 1, 3) := by decide +kernel
theorem dX7_number_61 : decode cX7_number 61 = .ok (.goto (-49), 3) := by decide +kernel
theorem dX7_number_64 : decode cX7_number 64 = .ok (.iload_n 3, 1) := by decide +kernel
theorem dX7_number_65 : decode cX7_number 65 = .ok (.aload_n 0, 1) := by decide +kernel
theorem dX7_number_66 : decode cX7_number 66 = .ok (.getfield 94, 3) := by decide +kernel
theorem dX7_number_69 : decode cX7_number 69 = .ok (.isub, 1) := by decide +kernel
theorem dX7_number_70 : decode cX7_number 70 = .ok (.istore 5, 2) := by decide +kernel
theorem dX7_number_72 : decode cX7_number 72 = .ok (.iload 5, 2) := by decide +kernel
theorem dX7_number_74 : decode cX7_number 74 = .ok (.ifCond .eq 19, 3) := by decide +kernel
theorem dX7_number_77 : decode cX7_number 77 = .ok (.iload 5, 2) := by decide +kernel
theorem dX7_number_79 : decode cX7_number 79 = .ok (.iconst 3, 1) := by decide +kernel
theorem dX7_number_80 : decode cX7_number 80 = .ok (.if_icmp .gt 13, 3) := by decide +kernel
theorem dX7_number_83 : decode cX7_number 83 = .ok (.iload 4, 2) := by decide +kernel
theorem dX7_number_85 : decode cX7_number 85 = .ok (.iload_n 1, 1) := by decide +kernel
theorem dX7_number_86 : decode cX7_number 86 = .ok (.iload_n 2, 1) := by decide +kernel
theorem dX7_number_87 : decode cX7_number 87 = .ok (.invokestatic 85, 3) := by decide +kernel
theorem dX7_number_90 : decode cX7_number 90 = .ok (.ifCond .ne 20, 3) := by decide +kernel
theorem dX7_number_93 : decode cX7_number 93 = .ok (.aload_n 0, 1) := by decide +kernel
theorem dX7_number_94 : decode cX7_number 94 = .ok (.iload 5, 2) := by decide +kernel
theorem dX7_number_96 : decode cX7_number 96 = .ok (.ifCond .ne 7, 3) := by decide +kernel
theorem dX7_number_99 : decode cX7_number 99 = .ok (.iconst 1, 1) := by decide +kernel
theorem dX7_number_100 : decode cX7_number 100 = .ok (.goto 4, 3) := by decide +kernel
theorem dX7_number_103 : decode cX7_number 103 = .ok (.iconst 2, 1) := by decide +kernel
theorem dX7_number_104 : decode cX7_number 104 = .ok (.invokevirtual 107, 3) := by decide +kernel
theorem dX7_number_107 : decode cX7_number 107 = .ok (.pop, 1) := by decide +kernel
theorem dX7_number_108 : decode cX7_number 108 = .ok (.iconst (-1), 1) := by decide +kernel
theorem dX7_number_109 : decode cX7_number 109 = .ok (.ireturn, 1) := by decide +kernel
theorem dX7_number_110 : decode cX7_number 110 = .ok (.aload_n 0, 1) := by decide +kernel
theorem dX7_number_111 : decode cX7_number 111 = .ok (.iload_n 3, 1) := by decide +kernel
theorem dX7_number_112 : decode cX7_number 112 = .ok (.putfield 94, 3) := by decide +kernel
theorem dX7_number_115 : decode cX7_number 115 = .ok (.iload 4, 2) := by decide +kernel
theorem dX7_number_117 : decode cX7_number 117 = .ok (.ireturn, 1) := by decide +kernel
theorem dX7_ends_0 : decode cX7_ends 0 = .ok (.aload_n 0, 1) := by decide +kernel
theorem dX7_ends_1 : decode cX7_ends 1 = .ok (.invokevirtual 104, 3) := by decide +kernel
theorem dX7_ends_4 : decode cX7_ends 4 = .ok (.aload_n 0, 1) := by decide +kernel
theorem dX7_ends_5 : decode cX7_ends 5 = .ok (.aload_n 0, 1) := by decide +kernel
theorem dX7_ends_6 : decode cX7_ends 6 = .ok (.getfield 94, 3) := by decide +kernel
theorem dX7_ends_9 : decode cX7_ends 9 = .ok (.invokevirtual 97, 3) := by decide +kernel
theorem dX7_ends_12 : decode cX7_ends 12 = .ok (.bipush 59, 2) := by decide +kernel
theorem dX7_ends_14 : decode cX7_ends 14 = .ok (.if_icmp .eq 9, 3) := by decide +kernel
theorem dX7_ends_17 : decode cX7_ends 17 = .ok (.aload_n 0, 1) := by decide +kernel
theorem dX7_ends_18 : decode cX7_ends 18 = .ok (.iconst 1, 1) := by decide +kernel
theorem dX7_ends_19 : decode cX7_ends 19 = .ok (.invokevirtual 107, 3) := by decide +kernel
theorem dX7_ends_22 : decode cX7_ends 22 = .ok (.ireturn, 1) := by decide +kernel
theorem dX7_ends_23 : decode cX7_ends 23 = .ok (.aload_n 0, 1) := by decide +kernel
theorem dX7_ends_24 : decode cX7_ends 24 = .ok (.dup, 1) := by decide +kernel
theorem dX7_ends_25 : decode cX7_ends 25 = .ok (.getfield 94, 3) := by decide +kernel
theorem dX7_ends_28 : decode cX7_ends 28 = .ok (.iconst 1, 1) := by decide +kernel
theorem dX7_ends_29 : decode cX7_ends 29 = .ok (.iadd, 1) := by decide +kernel
theorem dX7_ends_30 : decode cX7_ends 30 = .ok (.putfield 94, 3) := by decide +kernel
theorem dX7_ends_33 : decode cX7_ends 33 = .ok (.iconst 1, 1) := by decide +kernel
theorem dX7_ends_34 : decode cX7_ends 34 = .ok (.ireturn, 1) := by decide +kernel
theorem dX7_reads2_0 : decode cX7_reads2 0 = .ok (.aload_n 1, 1) := by decide +kernel
theorem dX7_reads2_1 : decode cX7_reads2 1 = .ok (.iload_n 2, 1) := by decide +kernel
theorem dX7_reads2_2 : decode cX7_reads2 2 = .ok (.aload_n 0, 1) := by decide +kernel
theorem dX7_reads2_3 : decode cX7_reads2 3 = .ok (.iload_n 3, 1) := by decide +kernel
theorem dX7_reads2_4 : decode cX7_reads2 4 = .ok (.iload 4, 2) := by decide +kernel
theorem dX7_reads2_6 : decode cX7_reads2 6 = .ok (.invokevirtual 111, 3) := by decide +kernel
theorem dX7_reads2_9 : decode cX7_reads2 9 = .ok (.iastore, 1) := by decide +kernel
theorem dX7_reads2_10 : decode cX7_reads2 10 = .ok (.aload_n 1, 1) := by decide +kernel
theorem dX7_reads2_11 : decode cX7_reads2 11 = .ok (.iload_n 2, 1) := by decide +kernel
theorem dX7_reads2_12 : decode cX7_reads2 12 = .ok (.iaload, 1) := by decide +kernel
theorem dX7_reads2_13 : decode cX7_reads2 13 = .ok (.ifCond .ge 5, 3) := by decide +kernel
theorem dX7_reads2_16 : decode cX7_reads2 16 = .ok (.iconst 0, 1) := by decide +kernel
theorem dX7_reads2_17 : decode cX7_reads2 17 = .ok (.ireturn, 1) := by decide +kernel
theorem dX7_reads2_18 : decode cX7_reads2 18 = .ok (.aload_n 1, 1) := by decide +kernel
theorem dX7_reads2_19 : decode cX7_reads2 19 = .ok (.iload_n 2, 1) := by decide +kernel
theorem dX7_reads2_20 : decode cX7_reads2 20 = .ok (.iconst 1, 1) := by decide +kernel
theorem dX7_reads2_21 : decode cX7_reads2 21 = .ok (.iadd, 1) := by decide +kernel
theorem dX7_reads2_22 : decode cX7_reads2 22 = .ok (.aload_n 0, 1) := by decide +kernel
theorem dX7_reads2_23 : decode cX7_reads2 23 = .ok (.iload 5, 2) := by decide +kernel
theorem dX7_reads2_25 : decode cX7_reads2 25 = .ok (.iload 6, 2) := by decide +kernel
theorem dX7_reads2_27 : decode cX7_reads2 27 = .ok (.invokevirtual 111, 3) := by decide +kernel
theorem dX7_reads2_30 : decode cX7_reads2 30 = .ok (.iastore, 1) := by decide +kernel
theorem dX7_reads2_31 : decode cX7_reads2 31 = .ok (.aload_n 1, 1) := by decide +kernel
theorem dX7_reads2_32 : decode cX7_reads2 32 = .ok (.iload_n 2, 1) := by decide +kernel
theorem dX7_reads2_33 : decode cX7_reads2 33 = .ok (.iconst 1, 1) := by decide +kernel
theorem dX7_reads2_34 : decode cX7_reads2 34 = .ok (.iadd, 1) := by decide +kernel
theorem dX7_reads2_35 : decode cX7_reads2 35 = .ok (.iaload, 1) := by decide +kernel
theorem dX7_reads2_36 : decode cX7_reads2 36 = .ok (.ifCond .lt 7, 3) := by decide +kernel
theorem dX7_reads2_39 : decode cX7_reads2 39 = .ok (.iconst 1, 1) := by decide +kernel
theorem dX7_reads2_40 : decode cX7_reads2 40 = .ok (.goto 4, 3) := by decide +kernel
theorem dX7_reads2_43 : decode cX7_reads2 43 = .ok (.iconst 0, 1) := by decide +kernel
theorem dX7_reads2_44 : decode cX7_reads2 44 = .ok (.ireturn, 1) := by decide +kernel
theorem dX7_readsHead_0 : decode cX7_readsHead 0 = .ok (.aload_n 0, 1) := by decide +kernel
theorem dX7_readsHead_1 : decode cX7_readsHead 1 = .ok (.dup, 1) := by decide +kernel
theorem dX7_readsHead_2 : decode cX7_readsHead 2 = .ok (.getfield 94, 3) := by decide +kernel
theorem dX7_readsHead_5 : decode cX7_readsHead 5 = .ok (.iconst 1, 1) := by decide +kernel
theorem dX7_readsHead_6 : decode cX7_readsHead 6 = .ok (.iadd, 1) := by decide +kernel
theorem dX7_readsHead_7 : decode cX7_readsHead 7 = .ok (.putfield 94, 3) := by decide +kernel
theorem dX7_readsHead_10 : decode cX7_readsHead 10 = .ok (.aload_n 0, 1) := by decide +kernel
theorem dX7_readsHead_11 : decode cX7_readsHead 11 = .ok (.aload_n 0, 1) := by decide +kernel
theorem dX7_readsHead_12 : decode cX7_readsHead 12 = .ok (.getfield 17, 3) := by decide +kernel
theorem dX7_readsHead_15 : decode cX7_readsHead 15 = .ok (.iconst 0, 1) := by decide +kernel
theorem dX7_readsHead_16 : decode cX7_readsHead 16 = .ok (.iconst 1, 1) := by decide +kernel
theorem dX7_readsHead_17 : decode cX7_readsHead 17 = .ok (.bipush 12, 2) := by decide +kernel
theorem dX7_readsHead_19 : decode cX7_readsHead 19 = .ok (.iconst 0, 1) := by decide +kernel
theorem dX7_readsHead_20 : decode cX7_readsHead 20 = .ok (.bipush 20, 2) := by decide +kernel
theorem dX7_readsHead_22 : decode cX7_readsHead 22 = .ok (.invokevirtual 115, 3) := by decide +kernel
theorem dX7_readsHead_25 : decode cX7_readsHead 25 = .ok (.ifCond .eq 14, 3) := by decide +kernel
theorem dX7_readsHead_28 : decode cX7_readsHead 28 = .ok (.aload_n 0, 1) := by decide +kernel
theorem dX7_readsHead_29 : decode cX7_readsHead 29 = .ok (.invokevirtual 119, 3) := by decide +kernel
theorem dX7_readsHead_32 : decode cX7_readsHead 32 = .ok (.ifCond .eq 7, 3) := by decide +kernel
theorem dX7_readsHead_35 : decode cX7_readsHead 35 = .ok (.iconst 1, 1) := by decide +kernel
theorem dX7_readsHead_36 : decode cX7_readsHead 36 = .ok (.goto 4, 3) := by decide +kernel
theorem dX7_readsHead_39 : decode cX7_readsHead 39 = .ok (.iconst 0, 1) := by decide +kernel
theorem dX7_readsHead_40 : decode cX7_readsHead 40 = .ok (.ireturn, 1) := by decide +kernel
theorem dX7_readsHour_0 : decode cX7_readsHour 0 = .ok (.aload_n 0, 1) := by decide +kernel
theorem dX7_readsHour_1 : decode cX7_readsHour 1 = .ok (.getfield 123, 3) := by decide +kernel
theorem dX7_readsHour_4 : decode cX7_readsHour 4 = .ok (.bipush 12, 2) := by decide +kernel
theorem dX7_readsHour_6 : decode cX7_readsHour 6 = .ok (.if_icmp .ne 9, 3) := by decide +kernel
theorem dX7_readsHour_9 : decode cX7_readsHour 9 = .ok (.aload_n 0, 1) := by decide +kernel
theorem dX7_readsHour_10 : decode cX7_readsHour 10 = .ok (.iconst 3, 1) := by decide +kernel
theorem dX7_readsHour_11 : decode cX7_readsHour 11 = .ok (.invokevirtual 107, 3) := by decide +kernel
theorem dX7_readsHour_14 : decode cX7_readsHour 14 = .ok (.ireturn, 1) := by decide +kernel
theorem dX7_readsHour_15 : decode cX7_readsHour 15 = .ok (.aload_n 0, 1) := by decide +kernel
theorem dX7_readsHour_16 : decode cX7_readsHour 16 = .ok (.dup, 1) := by decide +kernel
theorem dX7_readsHour_17 : decode cX7_readsHour 17 = .ok (.getfield 94, 3) := by decide +kernel
theorem dX7_readsHour_20 : decode cX7_readsHour 20 = .ok (.iconst 1, 1) := by decide +kernel
theorem dX7_readsHour_21 : decode cX7_readsHour 21 = .ok (.iadd, 1) := by decide +kernel
theorem dX7_readsHour_22 : decode cX7_readsHour 22 = .ok (.putfield 94, 3) := by decide +kernel
theorem dX7_readsHour_25 : decode cX7_readsHour 25 = .ok (.aload_n 0, 1) := by decide +kernel
theorem dX7_readsHour_26 : decode cX7_readsHour 26 = .ok (.aload_n 0, 1) := by decide +kernel
theorem dX7_readsHour_27 : decode cX7_readsHour 27 = .ok (.getfield 26, 3) := by decide +kernel
theorem dX7_readsHour_30 : decode cX7_readsHour 30 = .ok (.iconst 2, 1) := by decide +kernel
theorem dX7_readsHour_31 : decode cX7_readsHour 31 = .ok (.aload_n 0, 1) := by decide +kernel
theorem dX7_readsHour_32 : decode cX7_readsHour 32 = .ok (.getfield 123, 3) := by decide +kernel
theorem dX7_readsHour_35 : decode cX7_readsHour 35 = .ok (.imul, 1) := by decide +kernel
theorem dX7_readsHour_36 : decode cX7_readsHour 36 = .ok (.iconst 0, 1) := by decide +kernel
theorem dX7_readsHour_37 : decode cX7_readsHour 37 = .ok (.iconst 1, 1) := by decide +kernel
theorem dX7_readsHour_38 : decode cX7_readsHour 38 = .ok (.iconst 0, 1) := by decide +kernel
theorem dX7_readsHour_39 : decode cX7_readsHour 39 = .ok (.bipush 40, 2) := by decide +kernel
theorem dX7_readsHour_41 : decode cX7_readsHour 41 = .ok (.invokevirtual 115, 3) := by decide +kernel
theorem dX7_readsHour_44 : decode cX7_readsHour 44 = .ok (.ifCond .ne 5, 3) := by decide +kernel
theorem dX7_readsHour_47 : decode cX7_readsHour 47 = .ok (.iconst 0, 1) := by decide +kernel
theorem dX7_readsHour_48 : decode cX7_readsHour 48 = .ok (.ireturn, 1) := by decide +kernel
theorem dX7_readsHour_49 : decode cX7_readsHour 49 = .ok (.aload_n 0, 1) := by decide +kernel
theorem dX7_readsHour_50 : decode cX7_readsHour 50 = .ok (.dup, 1) := by decide +kernel
theorem dX7_readsHour_51 : decode cX7_readsHour 51 = .ok (.getfield 123, 3) := by decide +kernel
theorem dX7_readsHour_54 : decode cX7_readsHour 54 = .ok (.iconst 1, 1) := by decide +kernel
theorem dX7_readsHour_55 : decode cX7_readsHour 55 = .ok (.iadd, 1) := by decide +kernel
theorem dX7_readsHour_56 : decode cX7_readsHour 56 = .ok (.putfield 123, 3) := by decide +kernel
theorem dX7_readsHour_59 : decode cX7_readsHour 59 = .ok (.aload_n 0, 1) := by decide +kernel
theorem dX7_readsHour_60 : decode cX7_readsHour 60 = .ok (.invokevirtual 119, 3) := by decide +kernel
theorem dX7_readsHour_63 : decode cX7_readsHour 63 = .ok (.ireturn, 1) := by decide +kernel
theorem dX7_isTaken_0 : decode cX7_isTaken 0 = .ok (.iconst 0, 1) := by decide +kernel
theorem dX7_isTaken_1 : decode cX7_isTaken 1 = .ok (.istore_n 2, 1) := by decide +kernel
theorem dX7_isTaken_2 : decode cX7_isTaken 2 = .ok (.iconst 0, 1) := by decide +kernel
theorem dX7_isTaken_3 : decode cX7_isTaken 3 = .ok (.istore_n 3, 1) := by decide +kernel
theorem dX7_isTaken_4 : decode cX7_isTaken 4 = .ok (.iload_n 3, 1) := by decide +kernel
theorem dX7_isTaken_5 : decode cX7_isTaken 5 = .ok (.aload_n 0, 1) := by decide +kernel
theorem dX7_isTaken_6 : decode cX7_isTaken 6 = .ok (.getfield 126, 3) := by decide +kernel
theorem dX7_isTaken_9 : decode cX7_isTaken 9 = .ok (.if_icmp .ge 31, 3) := by decide +kernel
theorem dX7_isTaken_12 : decode cX7_isTaken 12 = .ok (.iload_n 2, 1) := by decide +kernel
theorem dX7_isTaken_13 : decode cX7_isTaken 13 = .ok (.ifCond .ne 15, 3) := by decide +kernel
theorem dX7_isTaken_16 : decode cX7_isTaken 16 = .ok (.aload_n 0, 1) := by decide +kernel
theorem dX7_isTaken_17 : decode cX7_isTaken 17 = .ok (.getfield 29, 3) := by decide +kernel
theorem dX7_isTaken_20 : decode cX7_isTaken 20 = .ok (.iconst 4, 1) := by decide +kernel
theorem dX7_isTaken_21 : decode cX7_isTaken 21 = .ok (.iload_n 3, 1) := by decide +kernel
theorem dX7_isTaken_22 : decode cX7_isTaken 22 = .ok (.imul, 1) := by decide +kernel
theorem dX7_isTaken_23 : decode cX7_isTaken 23 = .ok (.iaload, 1) := by decide +kernel
theorem dX7_isTaken_24 : decode cX7_isTaken 24 = .ok (.iload_n 1, 1) := by decide +kernel
theorem dX7_isTaken_25 : decode cX7_isTaken 25 = .ok (.if_icmp .ne 7, 3) := by decide +kernel
theorem dX7_isTaken_28 : decode cX7_isTaken 28 = .ok (.iconst 1, 1) := by decide +kernel
theorem dX7_isTaken_29 : decode cX7_isTaken 29 = .ok (.goto 4, 3) := by decide +kernel
theorem dX7_isTaken_32 : decode cX7_isTaken 32 = .ok (.iconst 0, 1) := by decide +kernel
theorem dX7_isTaken_33 : decode cX7_isTaken 33 = .ok (.istore_n 2, 1) := by decide +kernel
theorem dX7_isTaken_34 : decode cX7_isTaken 34 = .ok (.iinc 3 1, 3) := by decide +kernel
theorem dX7_isTaken_37 : decode cX7_isTaken 37 = .ok (.goto (-33), 3) := by decide +kernel
theorem dX7_isTaken_40 : decode cX7_isTaken 40 = .ok (.iload_n 2, 1) := by decide +kernel
theorem dX7_isTaken_41 : decode cX7_isTaken 41 = .ok (.ireturn, 1) := by decide +kernel
theorem dX7_readsPost_0 : decode cX7_readsPost 0 = .ok (.aload_n 0, 1) := by decide +kernel
theorem dX7_readsPost_1 : decode cX7_readsPost 1 = .ok (.getfield 126, 3) := by decide +kernel
theorem dX7_readsPost_4 : decode cX7_readsPost 4 = .ok (.bipush 6, 2) := by decide +kernel
theorem dX7_readsPost_6 : decode cX7_readsPost 6 = .ok (.if_icmp .ne 9, 3) := by decide +kernel
theorem dX7_readsPost_9 : decode cX7_readsPost 9 = .ok (.aload_n 0, 1) := by decide +kernel
theorem dX7_readsPost_10 : decode cX7_readsPost 10 = .ok (.iconst 3, 1) := by decide +kernel
theorem dX7_readsPost_11 : decode cX7_readsPost 11 = .ok (.invokevirtual 107, 3) := by decide +kernel
theorem dX7_readsPost_14 : decode cX7_readsPost 14 = .ok (.ireturn, 1) := by decide +kernel
theorem dX7_readsPost_15 : decode cX7_readsPost 15 = .ok (.aload_n 0, 1) := by decide +kernel
theorem dX7_readsPost_16 : decode cX7_readsPost 16 = .ok (.dup, 1) := by decide +kernel
theorem dX7_readsPost_17 : decode cX7_readsPost 17 = .ok (.getfield 94, 3) := by decide +kernel
theorem dX7_readsPost_20 : decode cX7_readsPost 20 = .ok (.iconst 1, 1) := by decide +kernel
theorem dX7_readsPost_21 : decode cX7_readsPost 21 = .ok (.iadd, 1) := by decide +kernel
theorem dX7_readsPost_22 : decode cX7_readsPost 22 = .ok (.putfield 94, 3) := by decide +kernel
theorem dX7_readsPost_25 : decode cX7_readsPost 25 = .ok (.aload_n 0, 1) := by decide +kernel
theorem dX7_readsPost_26 : decode cX7_readsPost 26 = .ok (.invokevirtual 104, 3) := by decide +kernel
theorem dX7_readsPost_29 : decode cX7_readsPost 29 = .ok (.aload_n 0, 1) := by decide +kernel
theorem dX7_readsPost_30 : decode cX7_readsPost 30 = .ok (.getfield 94, 3) := by decide +kernel
theorem dX7_readsPost_33 : decode cX7_readsPost 33 = .ok (.istore_n 1, 1) := by decide +kernel
theorem dX7_readsPost_34 : decode cX7_readsPost 34 = .ok (.iconst 4, 1) := by decide +kernel
theorem dX7_readsPost_35 : decode cX7_readsPost 35 = .ok (.aload_n 0, 1) := by decide +kernel
theorem dX7_readsPost_36 : decode cX7_readsPost 36 = .ok (.getfield 126, 3) := by decide +kernel
theorem dX7_readsPost_39 : decode cX7_readsPost 39 = .ok (.imul, 1) := by decide +kernel
theorem dX7_readsPost_40 : decode cX7_readsPost 40 = .ok (.istore_n 2, 1) := by decide +kernel
theorem dX7_readsPost_41 : decode cX7_readsPost 41 = .ok (.aload_n 0, 1) := by decide +kernel
theorem dX7_readsPost_42 : decode cX7_readsPost 42 = .ok (.iconst 0, 1) := by decide +kernel
theorem dX7_readsPost_43 : decode cX7_readsPost 43 = .ok (.aload_n 0, 1) := by decide +kernel
theorem dX7_readsPost_44 : decode cX7_readsPost 44 = .ok (.getfield 17, 3) := by decide +kernel
theorem dX7_readsPost_47 : decode cX7_readsPost 47 = .ok (.iconst 0, 1) := by decide +kernel
theorem dX7_readsPost_48 : decode cX7_readsPost 48 = .ok (.iaload, 1) := by decide +kernel
theorem dX7_readsPost_49 : decode cX7_readsPost 49 = .ok (.iconst 1, 1) := by decide +kernel
theorem dX7_readsPost_50 : decode cX7_readsPost 50 = .ok (.isub, 1) := by decide +kernel
theorem dX7_readsPost_51 : decode cX7_readsPost 51 = .ok (.invokevirtual 111, 3) := by decide +kernel
theorem dX7_readsPost_54 : decode cX7_readsPost 54 = .ok (.istore_n 3, 1) := by decide +kernel
theorem dX7_readsPost_55 : decode cX7_readsPost 55 = .ok (.iload_n 3, 1) := by decide +kernel
theorem dX7_readsPost_56 : decode cX7_readsPost 56 = .ok (.ifCond .ge 5, 3) := by decide +kernel
theorem dX7_readsPost_59 : decode cX7_readsPost 59 = .ok (.iconst 0, 1) := by decide +kernel
theorem dX7_readsPost_60 : decode cX7_readsPost 60 = .ok (.ireturn, 1) := by decide +kernel
theorem dX7_readsPost_61 : decode cX7_readsPost 61 = .ok (.aload_n 0, 1) := by decide +kernel
theorem dX7_readsPost_62 : decode cX7_readsPost 62 = .ok (.iload_n 3, 1) := by decide +kernel
theorem dX7_readsPost_63 : decode cX7_readsPost 63 = .ok (.invokevirtual 129, 3) := by decide +kernel
theorem dX7_readsPost_66 : decode cX7_readsPost 66 = .ok (.ifCond .eq 14, 3) := by decide +kernel
theorem dX7_readsPost_69 : decode cX7_readsPost 69 = .ok (.aload_n 0, 1) := by decide +kernel
theorem dX7_readsPost_70 : decode cX7_readsPost 70 = .ok (.iload_n 1, 1) := by decide +kernel
theorem dX7_readsPost_71 : decode cX7_readsPost 71 = .ok (.putfield 94, 3) := by decide +kernel
theorem dX7_readsPost_74 : decode cX7_readsPost 74 = .ok (.aload_n 0, 1) := by decide +kernel
theorem dX7_readsPost_75 : decode cX7_readsPost 75 = .ok (.iconst 4, 1) := by decide +kernel
theorem dX7_readsPost_76 : decode cX7_readsPost 76 = .ok (.invokevirtual 107, 3) := by decide +kernel
theorem dX7_readsPost_79 : decode cX7_readsPost 79 = .ok (.ireturn, 1) := by decide +kernel
theorem dX7_readsPost_80 : decode cX7_readsPost 80 = .ok (.aload_n 0, 1) := by decide +kernel
theorem dX7_readsPost_81 : decode cX7_readsPost 81 = .ok (.getfield 29, 3) := by decide +kernel
theorem dX7_readsPost_84 : decode cX7_readsPost 84 = .ok (.iload_n 2, 1) := by decide +kernel
theorem dX7_readsPost_85 : decode cX7_readsPost 85 = .ok (.iload_n 3, 1) := by decide +kernel
theorem dX7_readsPost_86 : decode cX7_readsPost 86 = .ok (.iastore, 1) := by decide +kernel
theorem dX7_readsPost_87 : decode cX7_readsPost 87 = .ok (.aload_n 0, 1) := by decide +kernel
theorem dX7_readsPost_88 : decode cX7_readsPost 88 = .ok (.getfield 29, 3) := by decide +kernel
theorem dX7_readsPost_91 : decode cX7_readsPost 91 = .ok (.iload_n 2, 1) := by decide +kernel
theorem dX7_readsPost_92 : decode cX7_readsPost 92 = .ok (.iconst 1, 1) := by decide +kernel
theorem dX7_readsPost_93 : decode cX7_readsPost 93 = .ok (.iadd, 1) := by decide +kernel
theorem dX7_readsPost_94 : decode cX7_readsPost 94 = .ok (.aload_n 0, 1) := by decide +kernel
theorem dX7_readsPost_95 : decode cX7_readsPost 95 = .ok (.iconst 0, 1) := by decide +kernel
theorem dX7_readsPost_96 : decode cX7_readsPost 96 = .ok (.bipush 9, 2) := by decide +kernel
theorem dX7_readsPost_98 : decode cX7_readsPost 98 = .ok (.invokevirtual 111, 3) := by decide +kernel
theorem dX7_readsPost_101 : decode cX7_readsPost 101 = .ok (.iastore, 1) := by decide +kernel
theorem dX7_readsPost_102 : decode cX7_readsPost 102 = .ok (.aload_n 0, 1) := by decide +kernel
theorem dX7_readsPost_103 : decode cX7_readsPost 103 = .ok (.getfield 29, 3) := by decide +kernel
theorem dX7_readsPost_106 : decode cX7_readsPost 106 = .ok (.iload_n 2, 1) := by decide +kernel
theorem dX7_readsPost_107 : decode cX7_readsPost 107 = .ok (.iconst 1, 1) := by decide +kernel
theorem dX7_readsPost_108 : decode cX7_readsPost 108 = .ok (.iadd, 1) := by decide +kernel
theorem dX7_readsPost_109 : decode cX7_readsPost 109 = .ok (.iaload, 1) := by decide +kernel
theorem dX7_readsPost_110 : decode cX7_readsPost 110 = .ok (.ifCond .lt 22, 3) := by decide +kernel
theorem dX7_readsPost_113 : decode cX7_readsPost 113 = .ok (.aload_n 0, 1) := by decide +kernel
theorem dX7_readsPost_114 : decode cX7_readsPost 114 = .ok (.aload_n 0, 1) := by decide +kernel
theorem dX7_readsPost_115 : decode cX7_readsPost 115 = .ok (.getfield 29, 3) := by decide +kernel
theorem dX7_readsPost_118 : decode cX7_readsPost 118 = .ok (.iload_n 2, 1) := by decide +kernel
theorem dX7_readsPost_119 : decode cX7_readsPost 119 = .ok (.iconst 2, 1) := by decide +kernel
theorem dX7_readsPost_120 : decode cX7_readsPost 120 = .ok (.iadd, 1) := by decide +kernel
theorem dX7_readsPost_121 : decode cX7_readsPost 121 = .ok (.iconst 1, 1) := by decide +kernel
theorem dX7_readsPost_122 : decode cX7_readsPost 122 = .ok (.bipush 99, 2) := by decide +kernel
theorem dX7_readsPost_124 : decode cX7_readsPost 124 = .ok (.iconst 0, 1) := by decide +kernel
theorem dX7_readsPost_125 : decode cX7_readsPost 125 = .ok (.iconst 1, 1) := by decide +kernel
theorem dX7_readsPost_126 : decode cX7_readsPost 126 = .ok (.invokevirtual 115, 3) := by decide +kernel
theorem dX7_readsPost_129 : decode cX7_readsPost 129 = .ok (.ifCond .ne 5, 3) := by decide +kernel
theorem dX7_readsPost_132 : decode cX7_readsPost 132 = .ok (.iconst 0, 1) := by decide +kernel
theorem dX7_readsPost_133 : decode cX7_readsPost 133 = .ok (.ireturn, 1) := by decide +kernel
theorem dX7_readsPost_134 : decode cX7_readsPost 134 = .ok (.aload_n 0, 1) := by decide +kernel
theorem dX7_readsPost_135 : decode cX7_readsPost 135 = .ok (.dup, 1) := by decide +kernel
theorem dX7_readsPost_136 : decode cX7_readsPost 136 = .ok (.getfield 126, 3) := by decide +kernel
theorem dX7_readsPost_139 : decode cX7_readsPost 139 = .ok (.iconst 1, 1) := by decide +kernel
theorem dX7_readsPost_140 : decode cX7_readsPost 140 = .ok (.iadd, 1) := by decide +kernel
theorem dX7_readsPost_141 : decode cX7_readsPost 141 = .ok (.putfield 126, 3) := by decide +kernel
theorem dX7_readsPost_144 : decode cX7_readsPost 144 = .ok (.aload_n 0, 1) := by decide +kernel
theorem dX7_readsPost_145 : decode cX7_readsPost 145 = .ok (.invokevirtual 119, 3) := by decide +kernel
theorem dX7_readsPost_148 : decode cX7_readsPost 148 = .ok (.ireturn, 1) := by decide +kernel
theorem dX7_readsGoat_0 : decode cX7_readsGoat 0 = .ok (.aload_n 0, 1) := by decide +kernel
theorem dX7_readsGoat_1 : decode cX7_readsGoat 1 = .ok (.getfield 132, 3) := by decide +kernel
theorem dX7_readsGoat_4 : decode cX7_readsGoat 4 = .ok (.iconst 4, 1) := by decide +kernel
theorem dX7_readsGoat_5 : decode cX7_readsGoat 5 = .ok (.if_icmp .ne 9, 3) := by decide +kernel
theorem dX7_readsGoat_8 : decode cX7_readsGoat 8 = .ok (.aload_n 0, 1) := by decide +kernel
theorem dX7_readsGoat_9 : decode cX7_readsGoat 9 = .ok (.iconst 3, 1) := by decide +kernel
theorem dX7_readsGoat_10 : decode cX7_readsGoat 10 = .ok (.invokevirtual 107, 3) := by decide +kernel
theorem dX7_readsGoat_13 : decode cX7_readsGoat 13 = .ok (.ireturn, 1) := by decide +kernel
theorem dX7_readsGoat_14 : decode cX7_readsGoat 14 = .ok (.aload_n 0, 1) := by decide +kernel
theorem dX7_readsGoat_15 : decode cX7_readsGoat 15 = .ok (.dup, 1) := by decide +kernel
theorem dX7_readsGoat_16 : decode cX7_readsGoat 16 = .ok (.getfield 94, 3) := by decide +kernel
theorem dX7_readsGoat_19 : decode cX7_readsGoat 19 = .ok (.iconst 1, 1) := by decide +kernel
theorem dX7_readsGoat_20 : decode cX7_readsGoat 20 = .ok (.iadd, 1) := by decide +kernel
theorem dX7_readsGoat_21 : decode cX7_readsGoat 21 = .ok (.putfield 94, 3) := by decide +kernel
theorem dX7_readsGoat_24 : decode cX7_readsGoat 24 = .ok (.aload_n 0, 1) := by decide +kernel
theorem dX7_readsGoat_25 : decode cX7_readsGoat 25 = .ok (.aload_n 0, 1) := by decide +kernel
theorem dX7_readsGoat_26 : decode cX7_readsGoat 26 = .ok (.getfield 32, 3) := by decide +kernel
theorem dX7_readsGoat_29 : decode cX7_readsGoat 29 = .ok (.iconst 2, 1) := by decide +kernel
theorem dX7_readsGoat_30 : decode cX7_readsGoat 30 = .ok (.aload_n 0, 1) := by decide +kernel
theorem dX7_readsGoat_31 : decode cX7_readsGoat 31 = .ok (.getfield 132, 3) := by decide +kernel
theorem dX7_readsGoat_34 : decode cX7_readsGoat 34 = .ok (.imul, 1) := by decide +kernel
theorem dX7_readsGoat_35 : decode cX7_readsGoat 35 = .ok (.iconst 0, 1) := by decide +kernel
theorem dX7_readsGoat_36 : decode cX7_readsGoat 36 = .ok (.aload_n 0, 1) := by decide +kernel
theorem dX7_readsGoat_37 : decode cX7_readsGoat 37 = .ok (.getfield 17, 3) := by decide +kernel
theorem dX7_readsGoat_40 : decode cX7_readsGoat 40 = .ok (.iconst 0, 1) := by decide +kernel
theorem dX7_readsGoat_41 : decode cX7_readsGoat 41 = .ok (.iaload, 1) := by decide +kernel
theorem dX7_readsGoat_42 : decode cX7_readsGoat 42 = .ok (.iconst 1, 1) := by decide +kernel
theorem dX7_readsGoat_43 : decode cX7_readsGoat 43 = .ok (.isub, 1) := by decide +kernel
theorem dX7_readsGoat_44 : decode cX7_readsGoat 44 = .ok (.iconst 1, 1) := by decide +kernel
theorem dX7_readsGoat_45 : decode cX7_readsGoat 45 = .ok (.bipush 20, 2) := by decide +kernel
theorem dX7_readsGoat_47 : decode cX7_readsGoat 47 = .ok (.invokevirtual 115, 3) := by decide +kernel
theorem dX7_readsGoat_50 : decode cX7_readsGoat 50 = .ok (.ifCond .ne 5, 3) := by decide +kernel
theorem dX7_readsGoat_53 : decode cX7_readsGoat 53 = .ok (.iconst 0, 1) := by decide +kernel
theorem dX7_readsGoat_54 : decode cX7_readsGoat 54 = .ok (.ireturn, 1) := by decide +kernel
theorem dX7_readsGoat_55 : decode cX7_readsGoat 55 = .ok (.aload_n 0, 1) := by decide +kernel
theorem dX7_readsGoat_56 : decode cX7_readsGoat 56 = .ok (.dup, 1) := by decide +kernel
theorem dX7_readsGoat_57 : decode cX7_readsGoat 57 = .ok (.getfield 132, 3) := by decide +kernel
theorem dX7_readsGoat_60 : decode cX7_readsGoat 60 = .ok (.iconst 1, 1) := by decide +kernel
theorem dX7_readsGoat_61 : decode cX7_readsGoat 61 = .ok (.iadd, 1) := by decide +kernel
theorem dX7_readsGoat_62 : decode cX7_readsGoat 62 = .ok (.putfield 132, 3) := by decide +kernel
theorem dX7_readsGoat_65 : decode cX7_readsGoat 65 = .ok (.aload_n 0, 1) := by decide +kernel
theorem dX7_readsGoat_66 : decode cX7_readsGoat 66 = .ok (.invokevirtual 119, 3) := by decide +kernel
theorem dX7_readsGoat_69 : decode cX7_readsGoat 69 = .ok (.ireturn, 1) := by decide +kernel
theorem dX7_readsDays_0 : decode cX7_readsDays 0 = .ok (.aload_n 0, 1) := by decide +kernel
theorem dX7_readsDays_1 : decode cX7_readsDays 1 = .ok (.getfield 135, 3) := by decide +kernel
theorem dX7_readsDays_4 : decode cX7_readsDays 4 = .ok (.ifCond .eq 9, 3) := by decide +kernel
theorem dX7_readsDays_7 : decode cX7_readsDays 7 = .ok (.aload_n 0, 1) := by decide +kernel
theorem dX7_readsDays_8 : decode cX7_readsDays 8 = .ok (.iconst 3, 1) := by decide +kernel
theorem dX7_readsDays_9 : decode cX7_readsDays 9 = .ok (.invokevirtual 107, 3) := by decide +kernel
theorem dX7_readsDays_12 : decode cX7_readsDays 12 = .ok (.ireturn, 1) := by decide +kernel
theorem dX7_readsDays_13 : decode cX7_readsDays 13 = .ok (.aload_n 0, 1) := by decide +kernel
theorem dX7_readsDays_14 : decode cX7_readsDays 14 = .ok (.dup, 1) := by decide +kernel
theorem dX7_readsDays_15 : decode cX7_readsDays 15 = .ok (.getfield 94, 3) := by decide +kernel
theorem dX7_readsDays_18 : decode cX7_readsDays 18 = .ok (.iconst 1, 1) := by decide +kernel
theorem dX7_readsDays_19 : decode cX7_readsDays 19 = .ok (.iadd, 1) := by decide +kernel
theorem dX7_readsDays_20 : decode cX7_readsDays 20 = .ok (.putfield 94, 3) := by decide +kernel
theorem dX7_readsDays_23 : decode cX7_readsDays 23 = .ok (.aload_n 0, 1) := by decide +kernel
theorem dX7_readsDays_24 : decode cX7_readsDays 24 = .ok (.iconst 1, 1) := by decide +kernel
theorem dX7_readsDays_25 : decode cX7_readsDays 25 = .ok (.putfield 135, 3) := by decide +kernel
theorem dX7_readsDays_28 : decode cX7_readsDays 28 = .ok (.aload_n 0, 1) := by decide +kernel
theorem dX7_readsDays_29 : decode cX7_readsDays 29 = .ok (.aload_n 0, 1) := by decide +kernel
theorem dX7_readsDays_30 : decode cX7_readsDays 30 = .ok (.getfield 20, 3) := by decide +kernel
theorem dX7_readsDays_33 : decode cX7_readsDays 33 = .ok (.iconst 0, 1) := by decide +kernel
theorem dX7_readsDays_34 : decode cX7_readsDays 34 = .ok (.iconst 0, 1) := by decide +kernel
theorem dX7_readsDays_35 : decode cX7_readsDays 35 = .ok (.bipush 127, 2) := by decide +kernel
theorem dX7_readsDays_37 : decode cX7_readsDays 37 = .ok (.iconst 0, 1) := by decide +kernel
theorem dX7_readsDays_38 : decode cX7_readsDays 38 = .ok (.bipush 127, 2) := by decide +kernel
theorem dX7_readsDays_40 : decode cX7_readsDays 40 = .ok (.invokevirtual 115, 3) := by decide +kernel
theorem dX7_readsDays_43 : decode cX7_readsDays 43 = .ok (.ifCond .eq 14, 3) := by decide +kernel
theorem dX7_readsDays_46 : decode cX7_readsDays 46 = .ok (.aload_n 0, 1) := by decide +kernel
theorem dX7_readsDays_47 : decode cX7_readsDays 47 = .ok (.invokevirtual 119, 3) := by decide +kernel
theorem dX7_readsDays_50 : decode cX7_readsDays 50 = .ok (.ifCond .eq 7, 3) := by decide +kernel
theorem dX7_readsDays_53 : decode cX7_readsDays 53 = .ok (.iconst 1, 1) := by decide +kernel
theorem dX7_readsDays_54 : decode cX7_readsDays 54 = .ok (.goto 4, 3) := by decide +kernel
theorem dX7_readsDays_57 : decode cX7_readsDays 57 = .ok (.iconst 0, 1) := by decide +kernel
theorem dX7_readsDays_58 : decode cX7_readsDays 58 = .ok (.ireturn, 1) := by decide +kernel
theorem dX7_readsUse_0 : decode cX7_readsUse 0 = .ok (.aload_n 0, 1) := by decide +kernel
theorem dX7_readsUse_1 : decode cX7_readsUse 1 = .ok (.getfield 139, 3) := by decide +kernel
theorem dX7_readsUse_4 : decode cX7_readsUse 4 = .ok (.ifCond .eq 9, 3) := by decide +kernel
theorem dX7_readsUse_7 : decode cX7_readsUse 7 = .ok (.aload_n 0, 1) := by decide +kernel
theorem dX7_readsUse_8 : decode cX7_readsUse 8 = .ok (.iconst 3, 1) := by decide +kernel
theorem dX7_readsUse_9 : decode cX7_readsUse 9 = .ok (.invokevirtual 107, 3) := by decide +kernel
theorem dX7_readsUse_12 : decode cX7_readsUse 12 = .ok (.ireturn, 1) := by decide +kernel
theorem dX7_readsUse_13 : decode cX7_readsUse 13 = .ok (.aload_n 0, 1) := by decide +kernel
theorem dX7_readsUse_14 : decode cX7_readsUse 14 = .ok (.dup, 1) := by decide +kernel
theorem dX7_readsUse_15 : decode cX7_readsUse 15 = .ok (.getfield 94, 3) := by decide +kernel
theorem dX7_readsUse_18 : decode cX7_readsUse 18 = .ok (.iconst 1, 1) := by decide +kernel
theorem dX7_readsUse_19 : decode cX7_readsUse 19 = .ok (.iadd, 1) := by decide +kernel
theorem dX7_readsUse_20 : decode cX7_readsUse 20 = .ok (.putfield 94, 3) := by decide +kernel
theorem dX7_readsUse_23 : decode cX7_readsUse 23 = .ok (.aload_n 0, 1) := by decide +kernel
theorem dX7_readsUse_24 : decode cX7_readsUse 24 = .ok (.iconst 1, 1) := by decide +kernel
theorem dX7_readsUse_25 : decode cX7_readsUse 25 = .ok (.putfield 139, 3) := by decide +kernel
theorem dX7_readsUse_28 : decode cX7_readsUse 28 = .ok (.aload_n 0, 1) := by decide +kernel
theorem dX7_readsUse_29 : decode cX7_readsUse 29 = .ok (.aload_n 0, 1) := by decide +kernel
theorem dX7_readsUse_30 : decode cX7_readsUse 30 = .ok (.getfield 23, 3) := by decide +kernel
theorem dX7_readsUse_33 : decode cX7_readsUse 33 = .ok (.iconst 0, 1) := by decide +kernel
theorem dX7_readsUse_34 : decode cX7_readsUse 34 = .ok (.iconst 0, 1) := by decide +kernel
theorem dX7_readsUse_35 : decode cX7_readsUse 35 = .ok (.bipush 99, 2) := by decide +kernel
theorem dX7_readsUse_37 : decode cX7_readsUse 37 = .ok (.iconst 0, 1) := by decide +kernel
theorem dX7_readsUse_38 : decode cX7_readsUse 38 = .ok (.bipush 99, 2) := by decide +kernel
theorem dX7_readsUse_40 : decode cX7_readsUse 40 = .ok (.invokevirtual 115, 3) := by decide +kernel
theorem dX7_readsUse_43 : decode cX7_readsUse 43 = .ok (.ifCond .eq 14, 3) := by decide +kernel
theorem dX7_readsUse_46 : decode cX7_readsUse 46 = .ok (.aload_n 0, 1) := by decide +kernel
theorem dX7_readsUse_47 : decode cX7_readsUse 47 = .ok (.invokevirtual 119, 3) := by decide +kernel
theorem dX7_readsUse_50 : decode cX7_readsUse 50 = .ok (.ifCond .eq 7, 3) := by decide +kernel
theorem dX7_readsUse_53 : decode cX7_readsUse 53 = .ok (.iconst 1, 1) := by decide +kernel
theorem dX7_readsUse_54 : decode cX7_readsUse 54 = .ok (.goto 4, 3) := by decide +kernel
theorem dX7_readsUse_57 : decode cX7_readsUse 57 = .ok (.iconst 0, 1) := by decide +kernel
theorem dX7_readsUse_58 : decode cX7_readsUse 58 = .ok (.ireturn, 1) := by decide +kernel
theorem dX7_readsClause_0 : decode cX7_readsClause 0 = .ok (.aload_n 0, 1) := by decide +kernel
theorem dX7_readsClause_1 : decode cX7_readsClause 1 = .ok (.aload_n 0, 1) := by decide +kernel
theorem dX7_readsClause_2 : decode cX7_readsClause 2 = .ok (.getfield 94, 3) := by decide +kernel
theorem dX7_readsClause_5 : decode cX7_readsClause 5 = .ok (.invokevirtual 97, 3) := by decide +kernel
theorem dX7_readsClause_8 : decode cX7_readsClause 8 = .ok (.istore_n 2, 1) := by decide +kernel
theorem dX7_readsClause_9 : decode cX7_readsClause 9 = .ok (.iload_n 1, 1) := by decide +kernel
theorem dX7_readsClause_10 : decode cX7_readsClause 10 = .ok (.ifCond .eq 22, 3) := by decide +kernel
theorem dX7_readsClause_13 : decode cX7_readsClause 13 = .ok (.iload_n 2, 1) := by decide +kernel
theorem dX7_readsClause_14 : decode cX7_readsClause 14 = .ok (.bipush 102, 2) := by decide +kernel
theorem dX7_readsClause_16 : decode cX7_readsClause 16 = .ok (.if_icmp .ne 10, 3) := by decide +kernel
theorem dX7_readsClause_19 : decode cX7_readsClause 19 = .ok (.aload_n 0, 1) := by decide +kernel
theorem dX7_readsClause_20 : decode cX7_readsClause 20 = .ok (.invokevirtual 142, 3) := by decide +kernel
theorem dX7_readsClause_23 : decode cX7_readsClause 23 = .ok (.goto 8, 3) := by decide +kernel
theorem dX7_readsClause_26 : decode cX7_readsClause 26 = .ok (.aload_n 0, 1) := by decide +kernel
theorem dX7_readsClause_27 : decode cX7_readsClause 27 = .ok (.iconst 1, 1) := by decide +kernel
theorem dX7_readsClause_28 : decode cX7_readsClause 28 = .ok (.invokevirtual 107, 3) := by decide +kernel
theorem dX7_readsClause_31 : decode cX7_readsClause 31 = .ok (.ireturn, 1) := by decide +kernel
theorem dX7_readsClause_32 : decode cX7_readsClause 32 = .ok (.iload_n 2, 1) := by decide +kernel
theorem dX7_readsClause_33 : decode cX7_readsClause 33 = .ok (.tableswitch 118 100 117 #[103, 118, 87, 113, 93, 118, 118, 118, 118, 118, 118, 118, 98, 118, 118, 118, 118, 108], 87) := by decide +kernel
theorem dX7_readsClause_120 : decode cX7_readsClause 120 = .ok (.aload_n 0, 1) := by decide +kernel
theorem dX7_readsClause_121 : decode cX7_readsClause 121 = .ok (.iconst 3, 1) := by decide +kernel
theorem dX7_readsClause_122 : decode cX7_readsClause 122 = .ok (.invokevirtual 107, 3) := by decide +kernel
theorem dX7_readsClause_125 : decode cX7_readsClause 125 = .ok (.ireturn, 1) := by decide +kernel
theorem dX7_readsClause_126 : decode cX7_readsClause 126 = .ok (.aload_n 0, 1) := by decide +kernel
theorem dX7_readsClause_127 : decode cX7_readsClause 127 = .ok (.invokevirtual 145, 3) := by decide +kernel
theorem dX7_readsClause_130 : decode cX7_readsClause 130 = .ok (.ireturn, 1) := by decide +kernel
theorem dX7_readsClause_131 : decode cX7_readsClause 131 = .ok (.aload_n 0, 1) := by decide +kernel
theorem dX7_readsClause_132 : decode cX7_readsClause 132 = .ok (.invokevirtual 148, 3) := by decide +kernel
theorem dX7_readsClause_135 : decode cX7_readsClause 135 = .ok (.ireturn, 1) := by decide +kernel
theorem dX7_readsClause_136 : decode cX7_readsClause 136 = .ok (.aload_n 0, 1) := by decide +kernel
theorem dX7_readsClause_137 : decode cX7_readsClause 137 = .ok (.invokevirtual 151, 3) := by decide +kernel
theorem dX7_readsClause_140 : decode cX7_readsClause 140 = .ok (.ireturn, 1) := by decide +kernel
theorem dX7_readsClause_141 : decode cX7_readsClause 141 = .ok (.aload_n 0, 1) := by decide +kernel
theorem dX7_readsClause_142 : decode cX7_readsClause 142 = .ok (.invokevirtual 154, 3) := by decide +kernel
theorem dX7_readsClause_145 : decode cX7_readsClause 145 = .ok (.ireturn, 1) := by decide +kernel
theorem dX7_readsClause_146 : decode cX7_readsClause 146 = .ok (.aload_n 0, 1) := by decide +kernel
theorem dX7_readsClause_147 : decode cX7_readsClause 147 = .ok (.invokevirtual 157, 3) := by decide +kernel
theorem dX7_readsClause_150 : decode cX7_readsClause 150 = .ok (.ireturn, 1) := by decide +kernel
theorem dX7_readsClause_151 : decode cX7_readsClause 151 = .ok (.aload_n 0, 1) := by decide +kernel
theorem dX7_readsClause_152 : decode cX7_readsClause 152 = .ok (.iconst 1, 1) := by decide +kernel
theorem dX7_readsClause_153 : decode cX7_readsClause 153 = .ok (.invokevirtual 107, 3) := by decide +kernel
theorem dX7_readsClause_156 : decode cX7_readsClause 156 = .ok (.ireturn, 1) := by decide +kernel
theorem dX7_reads_0 : decode cX7_reads 0 = .ok (.iconst 1, 1) := by decide +kernel
theorem dX7_reads_1 : decode cX7_reads 1 = .ok (.istore_n 1, 1) := by decide +kernel
theorem dX7_reads_2 : decode cX7_reads 2 = .ok (.aload_n 0, 1) := by decide +kernel
theorem dX7_reads_3 : decode cX7_reads 3 = .ok (.iconst 0, 1) := by decide +kernel
theorem dX7_reads_4 : decode cX7_reads 4 = .ok (.putfield 94, 3) := by decide +kernel
theorem dX7_reads_7 : decode cX7_reads 7 = .ok (.aload_n 0, 1) := by decide +kernel
theorem dX7_reads_8 : decode cX7_reads 8 = .ok (.iconst 0, 1) := by decide +kernel
theorem dX7_reads_9 : decode cX7_reads 9 = .ok (.putfield 126, 3) := by decide +kernel
theorem dX7_reads_12 : decode cX7_reads 12 = .ok (.aload_n 0, 1) := by decide +kernel
theorem dX7_reads_13 : decode cX7_reads 13 = .ok (.iconst 0, 1) := by decide +kernel
theorem dX7_reads_14 : decode cX7_reads 14 = .ok (.putfield 123, 3) := by decide +kernel
theorem dX7_reads_17 : decode cX7_reads 17 = .ok (.aload_n 0, 1) := by decide +kernel
theorem dX7_reads_18 : decode cX7_reads 18 = .ok (.iconst 0, 1) := by decide +kernel
theorem dX7_reads_19 : decode cX7_reads 19 = .ok (.putfield 132, 3) := by decide +kernel
theorem dX7_reads_22 : decode cX7_reads 22 = .ok (.aload_n 0, 1) := by decide +kernel
theorem dX7_reads_23 : decode cX7_reads 23 = .ok (.iconst 0, 1) := by decide +kernel
theorem dX7_reads_24 : decode cX7_reads 24 = .ok (.putfield 135, 3) := by decide +kernel
theorem dX7_reads_27 : decode cX7_reads 27 = .ok (.aload_n 0, 1) := by decide +kernel
theorem dX7_reads_28 : decode cX7_reads 28 = .ok (.iconst 0, 1) := by decide +kernel
theorem dX7_reads_29 : decode cX7_reads 29 = .ok (.putfield 139, 3) := by decide +kernel
theorem dX7_reads_32 : decode cX7_reads 32 = .ok (.iconst 0, 1) := by decide +kernel
theorem dX7_reads_33 : decode cX7_reads 33 = .ok (.istore_n 2, 1) := by decide +kernel
theorem dX7_reads_34 : decode cX7_reads 34 = .ok (.iload_n 2, 1) := by decide +kernel
theorem dX7_reads_35 : decode cX7_reads 35 = .ok (.iconst 2, 1) := by decide +kernel
theorem dX7_reads_36 : decode cX7_reads 36 = .ok (.if_icmp .ge 24, 3) := by decide +kernel
theorem dX7_reads_39 : decode cX7_reads 39 = .ok (.aload_n 0, 1) := by decide +kernel
theorem dX7_reads_40 : decode cX7_reads 40 = .ok (.getfield 20, 3) := by decide +kernel
theorem dX7_reads_43 : decode cX7_reads 43 = .ok (.iload_n 2, 1) := by decide +kernel
theorem dX7_reads_44 : decode cX7_reads 44 = .ok (.bipush 127, 2) := by decide +kernel
theorem dX7_reads_46 : decode cX7_reads 46 = .ok (.iastore, 1) := by decide +kernel
theorem dX7_reads_47 : decode cX7_reads 47 = .ok (.aload_n 0, 1) := by decide +kernel
theorem dX7_reads_48 : decode cX7_reads 48 = .ok (.getfield 23, 3) := by decide +kernel
theorem dX7_reads_51 : decode cX7_reads 51 = .ok (.iload_n 2, 1) := by decide +kernel
theorem dX7_reads_52 : decode cX7_reads 52 = .ok (.iconst 0, 1) := by decide +kernel
theorem dX7_reads_53 : decode cX7_reads 53 = .ok (.iastore, 1) := by decide +kernel
theorem dX7_reads_54 : decode cX7_reads 54 = .ok (.iinc 2 1, 3) := by decide +kernel
theorem dX7_reads_57 : decode cX7_reads 57 = .ok (.goto (-23), 3) := by decide +kernel
theorem dX7_reads_60 : decode cX7_reads 60 = .ok (.aload_n 0, 1) := by decide +kernel
theorem dX7_reads_61 : decode cX7_reads 61 = .ok (.invokevirtual 104, 3) := by decide +kernel
theorem dX7_reads_64 : decode cX7_reads 64 = .ok (.aload_n 0, 1) := by decide +kernel
theorem dX7_reads_65 : decode cX7_reads 65 = .ok (.getfield 94, 3) := by decide +kernel
theorem dX7_reads_68 : decode cX7_reads 68 = .ok (.aload_n 0, 1) := by decide +kernel
theorem dX7_reads_69 : decode cX7_reads 69 = .ok (.getfield 90, 3) := by decide +kernel
theorem dX7_reads_72 : decode cX7_reads 72 = .ok (.if_icmp .ge 22, 3) := by decide +kernel
theorem dX7_reads_75 : decode cX7_reads 75 = .ok (.aload_n 0, 1) := by decide +kernel
theorem dX7_reads_76 : decode cX7_reads 76 = .ok (.iload_n 1, 1) := by decide +kernel
theorem dX7_reads_77 : decode cX7_reads 77 = .ok (.invokevirtual 160, 3) := by decide +kernel
theorem dX7_reads_80 : decode cX7_reads 80 = .ok (.ifCond .ne 5, 3) := by decide +kernel
theorem dX7_reads_83 : decode cX7_reads 83 = .ok (.iconst 0, 1) := by decide +kernel
theorem dX7_reads_84 : decode cX7_reads 84 = .ok (.ireturn, 1) := by decide +kernel
theorem dX7_reads_85 : decode cX7_reads 85 = .ok (.iconst 0, 1) := by decide +kernel
theorem dX7_reads_86 : decode cX7_reads 86 = .ok (.istore_n 1, 1) := by decide +kernel
theorem dX7_reads_87 : decode cX7_reads 87 = .ok (.aload_n 0, 1) := by decide +kernel
theorem dX7_reads_88 : decode cX7_reads 88 = .ok (.invokevirtual 104, 3) := by decide +kernel
theorem dX7_reads_91 : decode cX7_reads 91 = .ok (.goto (-27), 3) := by decide +kernel
theorem dX7_reads_94 : decode cX7_reads 94 = .ok (.aload_n 0, 1) := by decide +kernel
theorem dX7_reads_95 : decode cX7_reads 95 = .ok (.iload_n 1, 1) := by decide +kernel
theorem dX7_reads_96 : decode cX7_reads 96 = .ok (.ifCond .ne 7, 3) := by decide +kernel
theorem dX7_reads_99 : decode cX7_reads 99 = .ok (.iconst 1, 1) := by decide +kernel
theorem dX7_reads_100 : decode cX7_reads 100 = .ok (.goto 4, 3) := by decide +kernel
theorem dX7_reads_103 : decode cX7_reads 103 = .ok (.iconst 0, 1) := by decide +kernel
theorem dX7_reads_104 : decode cX7_reads 104 = .ok (.putfield 164, 3) := by decide +kernel
theorem dX7_reads_107 : decode cX7_reads 107 = .ok (.iconst 1, 1) := by decide +kernel
theorem dX7_reads_108 : decode cX7_reads 108 = .ok (.ireturn, 1) := by decide +kernel
theorem dX7_coast_0 : decode cX7_coast 0 = .ok (.aload_n 0, 1) := by decide +kernel
theorem dX7_coast_1 : decode cX7_coast 1 = .ok (.invokevirtual 167, 3) := by decide +kernel
theorem dX7_coast_4 : decode cX7_coast 4 = .ok (.istore_n 1, 1) := by decide +kernel
theorem dX7_coast_5 : decode cX7_coast 5 = .ok (.aload_n 0, 1) := by decide +kernel
theorem dX7_coast_6 : decode cX7_coast 6 = .ok (.iconst 0, 1) := by decide +kernel
theorem dX7_coast_7 : decode cX7_coast 7 = .ok (.putfield 90, 3) := by decide +kernel
theorem dX7_coast_10 : decode cX7_coast 10 = .ok (.iload_n 1, 1) := by decide +kernel
theorem dX7_coast_11 : decode cX7_coast 11 = .ok (.ifCond .ne 19, 3) := by decide +kernel
theorem dX7_coast_14 : decode cX7_coast 14 = .ok (.aload_n 0, 1) := by decide +kernel
theorem dX7_coast_15 : decode cX7_coast 15 = .ok (.aload_n 0, 1) := by decide +kernel
theorem dX7_coast_16 : decode cX7_coast 16 = .ok (.getfield 94, 3) := by decide +kernel
theorem dX7_coast_19 : decode cX7_coast 19 = .ok (.putfield 13, 3) := by decide +kernel
theorem dX7_coast_22 : decode cX7_coast 22 = .ok (.bipush (-10), 2) := by decide +kernel
theorem dX7_coast_24 : decode cX7_coast 24 = .ok (.aload_n 0, 1) := by decide +kernel
theorem dX7_coast_25 : decode cX7_coast 25 = .ok (.getfield 101, 3) := by decide +kernel
theorem dX7_coast_28 : decode cX7_coast 28 = .ok (.isub, 1) := by decide +kernel
theorem dX7_coast_29 : decode cX7_coast 29 = .ok (.ireturn, 1) := by decide +kernel
theorem dX7_coast_30 : decode cX7_coast 30 = .ok (.aload_n 0, 1) := by decide +kernel
theorem dX7_coast_31 : decode cX7_coast 31 = .ok (.iconst (-1), 1) := by decide +kernel
theorem dX7_coast_32 : decode cX7_coast 32 = .ok (.putfield 13, 3) := by decide +kernel
theorem dX7_coast_35 : decode cX7_coast 35 = .ok (.aload_n 0, 1) := by decide +kernel
theorem dX7_coast_36 : decode cX7_coast 36 = .ok (.aload_n 0, 1) := by decide +kernel
theorem dX7_coast_37 : decode cX7_coast 37 = .ok (.getfield 164, 3) := by decide +kernel
theorem dX7_coast_40 : decode cX7_coast 40 = .ok (.putfield 170, 3) := by decide +kernel
theorem dX7_coast_43 : decode cX7_coast 43 = .ok (.aload_n 0, 1) := by decide +kernel
theorem dX7_coast_44 : decode cX7_coast 44 = .ok (.aload_n 0, 1) := by decide +kernel
theorem dX7_coast_45 : decode cX7_coast 45 = .ok (.getfield 164, 3) := by decide +kernel
theorem dX7_coast_48 : decode cX7_coast 48 = .ok (.ifCond .eq 12, 3) := by decide +kernel
theorem dX7_coast_51 : decode cX7_coast 51 = .ok (.aload_n 0, 1) := by decide +kernel
theorem dX7_coast_52 : decode cX7_coast 52 = .ok (.getfield 17, 3) := by decide +kernel
theorem dX7_coast_55 : decode cX7_coast 55 = .ok (.iconst 0, 1) := by decide +kernel
theorem dX7_coast_56 : decode cX7_coast 56 = .ok (.iaload, 1) := by decide +kernel
theorem dX7_coast_57 : decode cX7_coast 57 = .ok (.goto 4, 3) := by decide +kernel
theorem dX7_coast_60 : decode cX7_coast 60 = .ok (.iconst 0, 1) := by decide +kernel
theorem dX7_coast_61 : decode cX7_coast 61 = .ok (.putfield 173, 3) := by decide +kernel
theorem dX7_coast_64 : decode cX7_coast 64 = .ok (.aload_n 0, 1) := by decide +kernel
theorem dX7_coast_65 : decode cX7_coast 65 = .ok (.aload_n 0, 1) := by decide +kernel
theorem dX7_coast_66 : decode cX7_coast 66 = .ok (.getfield 164, 3) := by decide +kernel
theorem dX7_coast_69 : decode cX7_coast 69 = .ok (.ifCond .eq 12, 3) := by decide +kernel
theorem dX7_coast_72 : decode cX7_coast 72 = .ok (.aload_n 0, 1) := by decide +kernel
theorem dX7_coast_73 : decode cX7_coast 73 = .ok (.getfield 17, 3) := by decide +kernel
theorem dX7_coast_76 : decode cX7_coast 76 = .ok (.iconst 1, 1) := by decide +kernel
theorem dX7_coast_77 : decode cX7_coast 77 = .ok (.iaload, 1) := by decide +kernel
theorem dX7_coast_78 : decode cX7_coast 78 = .ok (.goto 4, 3) := by decide +kernel
theorem dX7_coast_81 : decode cX7_coast 81 = .ok (.iconst 0, 1) := by decide +kernel
theorem dX7_coast_82 : decode cX7_coast 82 = .ok (.putfield 176, 3) := by decide +kernel
theorem dX7_coast_85 : decode cX7_coast 85 = .ok (.aload_n 0, 1) := by decide +kernel
theorem dX7_coast_86 : decode cX7_coast 86 = .ok (.aload_n 0, 1) := by decide +kernel
theorem dX7_coast_87 : decode cX7_coast 87 = .ok (.getfield 164, 3) := by decide +kernel
theorem dX7_coast_90 : decode cX7_coast 90 = .ok (.ifCond .eq 10, 3) := by decide +kernel
theorem dX7_coast_93 : decode cX7_coast 93 = .ok (.aload_n 0, 1) := by decide +kernel
theorem dX7_coast_94 : decode cX7_coast 94 = .ok (.getfield 126, 3) := by decide +kernel
theorem dX7_coast_97 : decode cX7_coast 97 = .ok (.goto 4, 3) := by decide +kernel
theorem dX7_coast_100 : decode cX7_coast 100 = .ok (.iconst 0, 1) := by decide +kernel
theorem dX7_coast_101 : decode cX7_coast 101 = .ok (.putfield 179, 3) := by decide +kernel
theorem dX7_coast_104 : decode cX7_coast 104 = .ok (.aload_n 0, 1) := by decide +kernel
theorem dX7_coast_105 : decode cX7_coast 105 = .ok (.aload_n 0, 1) := by decide +kernel
theorem dX7_coast_106 : decode cX7_coast 106 = .ok (.getfield 164, 3) := by decide +kernel
theorem dX7_coast_109 : decode cX7_coast 109 = .ok (.ifCond .eq 10, 3) := by decide +kernel
theorem dX7_coast_112 : decode cX7_coast 112 = .ok (.aload_n 0, 1) := by decide +kernel
theorem dX7_coast_113 : decode cX7_coast 113 = .ok (.getfield 123, 3) := by decide +kernel
theorem dX7_coast_116 : decode cX7_coast 116 = .ok (.goto 4, 3) := by decide +kernel
theorem dX7_coast_119 : decode cX7_coast 119 = .ok (.iconst 0, 1) := by decide +kernel
theorem dX7_coast_120 : decode cX7_coast 120 = .ok (.putfield 182, 3) := by decide +kernel
theorem dX7_coast_123 : decode cX7_coast 123 = .ok (.aload_n 0, 1) := by decide +kernel
theorem dX7_coast_124 : decode cX7_coast 124 = .ok (.aload_n 0, 1) := by decide +kernel
theorem dX7_coast_125 : decode cX7_coast 125 = .ok (.getfield 164, 3) := by decide +kernel
theorem dX7_coast_128 : decode cX7_coast 128 = .ok (.ifCond .eq 10, 3) := by decide +kernel
theorem dX7_coast_131 : decode cX7_coast 131 = .ok (.aload_n 0, 1) := by decide +kernel
theorem dX7_coast_132 : decode cX7_coast 132 = .ok (.getfield 132, 3) := by decide +kernel
theorem dX7_coast_135 : decode cX7_coast 135 = .ok (.goto 4, 3) := by decide +kernel
theorem dX7_coast_138 : decode cX7_coast 138 = .ok (.iconst 0, 1) := by decide +kernel
theorem dX7_coast_139 : decode cX7_coast 139 = .ok (.putfield 185, 3) := by decide +kernel
theorem dX7_coast_142 : decode cX7_coast 142 = .ok (.iconst 0, 1) := by decide +kernel
theorem dX7_coast_143 : decode cX7_coast 143 = .ok (.istore_n 2, 1) := by decide +kernel
theorem dX7_coast_144 : decode cX7_coast 144 = .ok (.iload_n 2, 1) := by decide +kernel
theorem dX7_coast_145 : decode cX7_coast 145 = .ok (.bipush 24, 2) := by decide +kernel
theorem dX7_coast_147 : decode cX7_coast 147 = .ok (.if_icmp .ge 21, 3) := by decide +kernel
theorem dX7_coast_150 : decode cX7_coast 150 = .ok (.aload_n 0, 1) := by decide +kernel
theorem dX7_coast_151 : decode cX7_coast 151 = .ok (.getfield 35, 3) := by decide +kernel
theorem dX7_coast_154 : decode cX7_coast 154 = .ok (.iload_n 2, 1) := by decide +kernel
theorem dX7_coast_155 : decode cX7_coast 155 = .ok (.aload_n 0, 1) := by decide +kernel
theorem dX7_coast_156 : decode cX7_coast 156 = .ok (.getfield 26, 3) := by decide +kernel
theorem dX7_coast_159 : decode cX7_coast 159 = .ok (.iload_n 2, 1) := by decide +kernel
theorem dX7_coast_160 : decode cX7_coast 160 = .ok (.iaload, 1) := by decide +kernel
theorem dX7_coast_161 : decode cX7_coast 161 = .ok (.iastore, 1) := by decide +kernel
theorem dX7_coast_162 : decode cX7_coast 162 = .ok (.iinc 2 1, 3) := by decide +kernel
theorem dX7_coast_165 : decode cX7_coast 165 = .ok (.goto (-21), 3) := by decide +kernel
theorem dX7_coast_168 : decode cX7_coast 168 = .ok (.iconst 0, 1) := by decide +kernel
theorem dX7_coast_169 : decode cX7_coast 169 = .ok (.istore_n 2, 1) := by decide +kernel
theorem dX7_coast_170 : decode cX7_coast 170 = .ok (.iload_n 2, 1) := by decide +kernel
theorem dX7_coast_171 : decode cX7_coast 171 = .ok (.bipush 8, 2) := by decide +kernel
theorem dX7_coast_173 : decode cX7_coast 173 = .ok (.if_icmp .ge 21, 3) := by decide +kernel
theorem dX7_coast_176 : decode cX7_coast 176 = .ok (.aload_n 0, 1) := by decide +kernel
theorem dX7_coast_177 : decode cX7_coast 177 = .ok (.getfield 44, 3) := by decide +kernel
theorem dX7_coast_180 : decode cX7_coast 180 = .ok (.iload_n 2, 1) := by decide +kernel
theorem dX7_coast_181 : decode cX7_coast 181 = .ok (.aload_n 0, 1) := by decide +kernel
theorem dX7_coast_182 : decode cX7_coast 182 = .ok (.getfield 32, 3) := by decide +kernel
theorem dX7_coast_185 : decode cX7_coast 185 = .ok (.iload_n 2, 1) := by decide +kernel
theorem dX7_coast_186 : decode cX7_coast 186 = .ok (.iaload, 1) := by decide +kernel
theorem dX7_coast_187 : decode cX7_coast 187 = .ok (.iastore, 1) := by decide +kernel
theorem dX7_coast_188 : decode cX7_coast 188 = .ok (.iinc 2 1, 3) := by decide +kernel
theorem dX7_coast_191 : decode cX7_coast 191 = .ok (.goto (-21), 3) := by decide +kernel
theorem dX7_coast_194 : decode cX7_coast 194 = .ok (.iconst 0, 1) := by decide +kernel
theorem dX7_coast_195 : decode cX7_coast 195 = .ok (.istore_n 2, 1) := by decide +kernel
theorem dX7_coast_196 : decode cX7_coast 196 = .ok (.iload_n 2, 1) := by decide +kernel
theorem dX7_coast_197 : decode cX7_coast 197 = .ok (.iconst 2, 1) := by decide +kernel
theorem dX7_coast_198 : decode cX7_coast 198 = .ok (.if_icmp .ge 56, 3) := by decide +kernel
theorem dX7_coast_201 : decode cX7_coast 201 = .ok (.aload_n 0, 1) := by decide +kernel
theorem dX7_coast_202 : decode cX7_coast 202 = .ok (.getfield 47, 3) := by decide +kernel
theorem dX7_coast_205 : decode cX7_coast 205 = .ok (.iload_n 2, 1) := by decide +kernel
theorem dX7_coast_206 : decode cX7_coast 206 = .ok (.aload_n 0, 1) := by decide +kernel
theorem dX7_coast_207 : decode cX7_coast 207 = .ok (.getfield 164, 3) := by decide +kernel
theorem dX7_coast_210 : decode cX7_coast 210 = .ok (.ifCond .eq 12, 3) := by decide +kernel
theorem dX7_coast_213 : decode cX7_coast 213 = .ok (.aload_n 0, 1) := by decide +kernel
theorem dX7_coast_214 : decode cX7_coast 214 = .ok (.getfield 20, 3) := by decide +kernel
theorem dX7_coast_217 : decode cX7_coast 217 = .ok (.iload_n 2, 1) := by decide +kernel
theorem dX7_coast_218 : decode cX7_coast 218 = .ok (.iaload, 1) := by decide +kernel
theorem dX7_coast_219 : decode cX7_coast 219 = .ok (.goto 5, 3) := by decide +kernel
theorem dX7_coast_222 : decode cX7_coast 222 = .ok (.bipush 127, 2) := by decide +kernel
theorem dX7_coast_224 : decode cX7_coast 224 = .ok (.iastore, 1) := by decide +kernel
theorem dX7_coast_225 : decode cX7_coast 225 = .ok (.aload_n 0, 1) := by decide +kernel
theorem dX7_coast_226 : decode cX7_coast 226 = .ok (.getfield 50, 3) := by decide +kernel
theorem dX7_coast_229 : decode cX7_coast 229 = .ok (.iload_n 2, 1) := by decide +kernel
theorem dX7_coast_230 : decode cX7_coast 230 = .ok (.aload_n 0, 1) := by decide +kernel
theorem dX7_coast_231 : decode cX7_coast 231 = .ok (.getfield 164, 3) := by decide +kernel
theorem dX7_coast_234 : decode cX7_coast 234 = .ok (.ifCond .eq 12, 3) := by decide +kernel
theorem dX7_coast_237 : decode cX7_coast 237 = .ok (.aload_n 0, 1) := by decide +kernel
theorem dX7_coast_238 : decode cX7_coast 238 = .ok (.getfield 23, 3) := by decide +kernel
theorem dX7_coast_241 : decode cX7_coast 241 = .ok (.iload_n 2, 1) := by decide +kernel
theorem dX7_coast_242 : decode cX7_coast 242 = .ok (.iaload, 1) := by decide +kernel
theorem dX7_coast_243 : decode cX7_coast 243 = .ok (.goto 4, 3) := by decide +kernel
theorem dX7_coast_246 : decode cX7_coast 246 = .ok (.iconst 0, 1) := by decide +kernel
theorem dX7_coast_247 : decode cX7_coast 247 = .ok (.iastore, 1) := by decide +kernel
theorem dX7_coast_248 : decode cX7_coast 248 = .ok (.iinc 2 1, 3) := by decide +kernel
theorem dX7_coast_251 : decode cX7_coast 251 = .ok (.goto (-55), 3) := by decide +kernel
theorem dX7_coast_254 : decode cX7_coast 254 = .ok (.iconst 0, 1) := by decide +kernel
theorem dX7_coast_255 : decode cX7_coast 255 = .ok (.istore_n 2, 1) := by decide +kernel
theorem dX7_coast_256 : decode cX7_coast 256 = .ok (.iload_n 2, 1) := by decide +kernel
theorem dX7_coast_257 : decode cX7_coast 257 = .ok (.bipush 27, 2) := by decide +kernel
theorem dX7_coast_259 : decode cX7_coast 259 = .ok (.if_icmp .ge 16, 3) := by decide +kernel
theorem dX7_coast_262 : decode cX7_coast 262 = .ok (.aload_n 0, 1) := by decide +kernel
theorem dX7_coast_263 : decode cX7_coast 263 = .ok (.getfield 53, 3) := by decide +kernel
theorem dX7_coast_266 : decode cX7_coast 266 = .ok (.iload_n 2, 1) := by decide +kernel
theorem dX7_coast_267 : decode cX7_coast 267 = .ok (.iconst 0, 1) := by decide +kernel
theorem dX7_coast_268 : decode cX7_coast 268 = .ok (.iastore, 1) := by decide +kernel
theorem dX7_coast_269 : decode cX7_coast 269 = .ok (.iinc 2 1, 3) := by decide +kernel
theorem dX7_coast_272 : decode cX7_coast 272 = .ok (.goto (-16), 3) := by decide +kernel
theorem dX7_coast_275 : decode cX7_coast 275 = .ok (.iconst 0, 1) := by decide +kernel
theorem dX7_coast_276 : decode cX7_coast 276 = .ok (.istore_n 2, 1) := by decide +kernel
theorem dX7_coast_277 : decode cX7_coast 277 = .ok (.iload_n 2, 1) := by decide +kernel
theorem dX7_coast_278 : decode cX7_coast 278 = .ok (.aload_n 0, 1) := by decide +kernel
theorem dX7_coast_279 : decode cX7_coast 279 = .ok (.getfield 179, 3) := by decide +kernel
theorem dX7_coast_282 : decode cX7_coast 282 = .ok (.if_icmp .ge 77, 3) := by decide +kernel
theorem dX7_coast_285 : decode cX7_coast 285 = .ok (.aload_n 0, 1) := by decide +kernel
theorem dX7_coast_286 : decode cX7_coast 286 = .ok (.getfield 53, 3) := by decide +kernel
theorem dX7_coast_289 : decode cX7_coast 289 = .ok (.bipush 15, 2) := by decide +kernel
theorem dX7_coast_291 : decode cX7_coast 291 = .ok (.iload_n 2, 1) := by decide +kernel
theorem dX7_coast_292 : decode cX7_coast 292 = .ok (.iadd, 1) := by decide +kernel
theorem dX7_coast_293 : decode cX7_coast 293 = .ok (.aload_n 0, 1) := by decide +kernel
theorem dX7_coast_294 : decode cX7_coast 294 = .ok (.getfield 29, 3) := by decide +kernel
theorem dX7_coast_297 : decode cX7_coast 297 = .ok (.iconst 4, 1) := by decide +kernel
theorem dX7_coast_298 : decode cX7_coast 298 = .ok (.iload_n 2, 1) := by decide +kernel
theorem dX7_coast_299 : decode cX7_coast 299 = .ok (.imul, 1) := by decide +kernel
theorem dX7_coast_300 : decode cX7_coast 300 = .ok (.iaload, 1) := by decide +kernel
theorem dX7_coast_301 : decode cX7_coast 301 = .ok (.iastore, 1) := by decide +kernel
theorem dX7_coast_302 : decode cX7_coast 302 = .ok (.aload_n 0, 1) := by decide +kernel
theorem dX7_coast_303 : decode cX7_coast 303 = .ok (.getfield 53, 3) := by decide +kernel
theorem dX7_coast_306 : decode cX7_coast 306 = .ok (.bipush 21, 2) := by decide +kernel
theorem dX7_coast_308 : decode cX7_coast 308 = .ok (.iload_n 2, 1) := by decide +kernel
theorem dX7_coast_309 : decode cX7_coast 309 = .ok (.iadd, 1) := by decide +kernel
theorem dX7_coast_310 : decode cX7_coast 310 = .ok (.aload_n 0, 1) := by decide +kernel
theorem dX7_coast_311 : decode cX7_coast 311 = .ok (.getfield 29, 3) := by decide +kernel
theorem dX7_coast_314 : decode cX7_coast 314 = .ok (.iconst 4, 1) := by decide +kernel
theorem dX7_coast_315 : decode cX7_coast 315 = .ok (.iload_n 2, 1) := by decide +kernel
theorem dX7_coast_316 : decode cX7_coast 316 = .ok (.imul, 1) := by decide +kernel
theorem dX7_coast_317 : decode cX7_coast 317 = .ok (.iconst 1, 1) := by decide +kernel
theorem dX7_coast_318 : decode cX7_coast 318 = .ok (.iadd, 1) := by decide +kernel
theorem dX7_coast_319 : decode cX7_coast 319 = .ok (.iaload, 1) := by decide +kernel
theorem dX7_coast_320 : decode cX7_coast 320 = .ok (.iastore, 1) := by decide +kernel
theorem dX7_coast_321 : decode cX7_coast 321 = .ok (.aload_n 0, 1) := by decide +kernel
theorem dX7_coast_322 : decode cX7_coast 322 = .ok (.getfield 38, 3) := by decide +kernel
theorem dX7_coast_325 : decode cX7_coast 325 = .ok (.iload_n 2, 1) := by decide +kernel
theorem dX7_coast_326 : decode cX7_coast 326 = .ok (.aload_n 0, 1) := by decide +kernel
theorem dX7_coast_327 : decode cX7_coast 327 = .ok (.getfield 29, 3) := by decide +kernel
theorem dX7_coast_330 : decode cX7_coast 330 = .ok (.iconst 4, 1) := by decide +kernel
theorem dX7_coast_331 : decode cX7_coast 331 = .ok (.iload_n 2, 1) := by decide +kernel
theorem dX7_coast_332 : decode cX7_coast 332 = .ok (.imul, 1) := by decide +kernel
theorem dX7_coast_333 : decode cX7_coast 333 = .ok (.iconst 2, 1) := by decide +kernel
theorem dX7_coast_334 : decode cX7_coast 334 = .ok (.iadd, 1) := by decide +kernel
theorem dX7_coast_335 : decode cX7_coast 335 = .ok (.iaload, 1) := by decide +kernel
theorem dX7_coast_336 : decode cX7_coast 336 = .ok (.iastore, 1) := by decide +kernel
theorem dX7_coast_337 : decode cX7_coast 337 = .ok (.aload_n 0, 1) := by decide +kernel
theorem dX7_coast_338 : decode cX7_coast 338 = .ok (.getfield 41, 3) := by decide +kernel
theorem dX7_coast_341 : decode cX7_coast 341 = .ok (.iload_n 2, 1) := by decide +kernel
theorem dX7_coast_342 : decode cX7_coast 342 = .ok (.aload_n 0, 1) := by decide +kernel
theorem dX7_coast_343 : decode cX7_coast 343 = .ok (.getfield 29, 3) := by decide +kernel
theorem dX7_coast_346 : decode cX7_coast 346 = .ok (.iconst 4, 1) := by decide +kernel
theorem dX7_coast_347 : decode cX7_coast 347 = .ok (.iload_n 2, 1) := by decide +kernel
theorem dX7_coast_348 : decode cX7_coast 348 = .ok (.imul, 1) := by decide +kernel
theorem dX7_coast_349 : decode cX7_coast 349 = .ok (.iconst 3, 1) := by decide +kernel
theorem dX7_coast_350 : decode cX7_coast 350 = .ok (.iadd, 1) := by decide +kernel
theorem dX7_coast_351 : decode cX7_coast 351 = .ok (.iaload, 1) := by decide +kernel
theorem dX7_coast_352 : decode cX7_coast 352 = .ok (.iastore, 1) := by decide +kernel
theorem dX7_coast_353 : decode cX7_coast 353 = .ok (.iinc 2 1, 3) := by decide +kernel
theorem dX7_coast_356 : decode cX7_coast 356 = .ok (.goto (-79), 3) := by decide +kernel
theorem dX7_coast_359 : decode cX7_coast 359 = .ok (.aload_n 0, 1) := by decide +kernel
theorem dX7_coast_360 : decode cX7_coast 360 = .ok (.iconst 0, 1) := by decide +kernel
theorem dX7_coast_361 : decode cX7_coast 361 = .ok (.putfield 188, 3) := by decide +kernel
theorem dX7_coast_364 : decode cX7_coast 364 = .ok (.aload_n 0, 1) := by decide +kernel
theorem dX7_coast_365 : decode cX7_coast 365 = .ok (.iconst 0, 1) := by decide +kernel
theorem dX7_coast_366 : decode cX7_coast 366 = .ok (.putfield 191, 3) := by decide +kernel
theorem dX7_coast_369 : decode cX7_coast 369 = .ok (.aload_n 0, 1) := by decide +kernel
theorem dX7_coast_370 : decode cX7_coast 370 = .ok (.iconst 0, 1) := by decide +kernel
theorem dX7_coast_371 : decode cX7_coast 371 = .ok (.putfield 194, 3) := by decide +kernel
theorem dX7_coast_374 : decode cX7_coast 374 = .ok (.aload_n 0, 1) := by decide +kernel
theorem dX7_coast_375 : decode cX7_coast 375 = .ok (.getfield 74, 3) := by decide +kernel
theorem dX7_coast_378 : decode cX7_coast 378 = .ok (.iconst 0, 1) := by decide +kernel
theorem dX7_coast_379 : decode cX7_coast 379 = .ok (.iconst 0, 1) := by decide +kernel
theorem dX7_coast_380 : decode cX7_coast 380 = .ok (.bastore, 1) := by decide +kernel
theorem dX7_coast_381 : decode cX7_coast 381 = .ok (.aload_n 0, 1) := by decide +kernel
theorem dX7_coast_382 : decode cX7_coast 382 = .ok (.getfield 74, 3) := by decide +kernel
theorem dX7_coast_385 : decode cX7_coast 385 = .ok (.iconst 1, 1) := by decide +kernel
theorem dX7_coast_386 : decode cX7_coast 386 = .ok (.iconst 0, 1) := by decide +kernel
theorem dX7_coast_387 : decode cX7_coast 387 = .ok (.bastore, 1) := by decide +kernel
theorem dX7_coast_388 : decode cX7_coast 388 = .ok (.aload_n 0, 1) := by decide +kernel
theorem dX7_coast_389 : decode cX7_coast 389 = .ok (.getfield 179, 3) := by decide +kernel
theorem dX7_coast_392 : decode cX7_coast 392 = .ok (.ireturn, 1) := by decide +kernel
theorem dX7_isPost_0 : decode cX7_isPost 0 = .ok (.iload_n 1, 1) := by decide +kernel
theorem dX7_isPost_1 : decode cX7_isPost 1 = .ok (.iconst 0, 1) := by decide +kernel
theorem dX7_isPost_2 : decode cX7_isPost 2 = .ok (.aload_n 0, 1) := by decide +kernel
theorem dX7_isPost_3 : decode cX7_isPost 3 = .ok (.getfield 179, 3) := by decide +kernel
theorem dX7_isPost_6 : decode cX7_isPost 6 = .ok (.iconst 1, 1) := by decide +kernel
theorem dX7_isPost_7 : decode cX7_isPost 7 = .ok (.isub, 1) := by decide +kernel
theorem dX7_isPost_8 : decode cX7_isPost 8 = .ok (.invokestatic 85, 3) := by decide +kernel
theorem dX7_isPost_11 : decode cX7_isPost 11 = .ok (.ireturn, 1) := by decide +kernel
theorem dX7_isCell_0 : decode cX7_isCell 0 = .ok (.iload_n 1, 1) := by decide +kernel
theorem dX7_isCell_1 : decode cX7_isCell 1 = .ok (.iconst 0, 1) := by decide +kernel
theorem dX7_isCell_2 : decode cX7_isCell 2 = .ok (.aload_n 0, 1) := by decide +kernel
theorem dX7_isCell_3 : decode cX7_isCell 3 = .ok (.getfield 173, 3) := by decide +kernel
theorem dX7_isCell_6 : decode cX7_isCell 6 = .ok (.iconst 1, 1) := by decide +kernel
theorem dX7_isCell_7 : decode cX7_isCell 7 = .ok (.isub, 1) := by decide +kernel
theorem dX7_isCell_8 : decode cX7_isCell 8 = .ok (.invokestatic 85, 3) := by decide +kernel
theorem dX7_isCell_11 : decode cX7_isCell 11 = .ok (.ireturn, 1) := by decide +kernel
theorem dX7_isVillage_0 : decode cX7_isVillage 0 = .ok (.iload_n 0, 1) := by decide +kernel
theorem dX7_isVillage_1 : decode cX7_isVillage 1 = .ok (.iconst 0, 1) := by decide +kernel
theorem dX7_isVillage_2 : decode cX7_isVillage 2 = .ok (.iconst 1, 1) := by decide +kernel
theorem dX7_isVillage_3 : decode cX7_isVillage 3 = .ok (.invokestatic 85, 3) := by decide +kernel
theorem dX7_isVillage_6 : decode cX7_isVillage 6 = .ok (.ireturn, 1) := by decide +kernel
theorem dX7_dayLong_0 : decode cX7_dayLong 0 = .ok (.aload_n 0, 1) := by decide +kernel
theorem dX7_dayLong_1 : decode cX7_dayLong 1 = .ok (.getfield 170, 3) := by decide +kernel
theorem dX7_dayLong_4 : decode cX7_dayLong 4 = .ok (.ifCond .ne 7, 3) := by decide +kernel
theorem dX7_dayLong_7 : decode cX7_dayLong 7 = .ok (.iconst 0, 1) := by decide +kernel
theorem dX7_dayLong_8 : decode cX7_dayLong 8 = .ok (.goto 18, 3) := by decide +kernel
theorem dX7_dayLong_11 : decode cX7_dayLong 11 = .ok (.aload_n 0, 1) := by decide +kernel
theorem dX7_dayLong_12 : decode cX7_dayLong 12 = .ok (.getfield 182, 3) := by decide +kernel
theorem dX7_dayLong_15 : decode cX7_dayLong 15 = .ok (.ifCond .le 10, 3) := by decide +kernel
theorem dX7_dayLong_18 : decode cX7_dayLong 18 = .ok (.aload_n 0, 1) := by decide +kernel
theorem dX7_dayLong_19 : decode cX7_dayLong 19 = .ok (.getfield 182, 3) := by decide +kernel
theorem dX7_dayLong_22 : decode cX7_dayLong 22 = .ok (.goto 4, 3) := by decide +kernel
theorem dX7_dayLong_25 : decode cX7_dayLong 25 = .ok (.iconst 1, 1) := by decide +kernel
theorem dX7_dayLong_26 : decode cX7_dayLong 26 = .ok (.ireturn, 1) := by decide +kernel
theorem dX7_sideOf_0 : decode cX7_sideOf 0 = .ok (.aload_n 0, 1) := by decide +kernel
theorem dX7_sideOf_1 : decode cX7_sideOf 1 = .ok (.getfield 182, 3) := by decide +kernel
theorem dX7_sideOf_4 : decode cX7_sideOf 4 = .ok (.ifCond .le 16, 3) := by decide +kernel
theorem dX7_sideOf_7 : decode cX7_sideOf 7 = .ok (.aload_n 0, 1) := by decide +kernel
theorem dX7_sideOf_8 : decode cX7_sideOf 8 = .ok (.getfield 35, 3) := by decide +kernel
theorem dX7_sideOf_11 : decode cX7_sideOf 11 = .ok (.iconst 2, 1) := by decide +kernel
theorem dX7_sideOf_12 : decode cX7_sideOf 12 = .ok (.aload_n 1, 1) := by decide +kernel
theorem dX7_sideOf_13 : decode cX7_sideOf 13 = .ok (.iconst 1, 1) := by decide +kernel
theorem dX7_sideOf_14 : decode cX7_sideOf 14 = .ok (.iaload, 1) := by decide +kernel
theorem dX7_sideOf_15 : decode cX7_sideOf 15 = .ok (.imul, 1) := by decide +kernel
theorem dX7_sideOf_16 : decode cX7_sideOf 16 = .ok (.iaload, 1) := by decide +kernel
theorem dX7_sideOf_17 : decode cX7_sideOf 17 = .ok (.goto 4, 3) := by decide +kernel
theorem dX7_sideOf_20 : decode cX7_sideOf 20 = .ok (.iconst 0, 1) := by decide +kernel
theorem dX7_sideOf_21 : decode cX7_sideOf 21 = .ok (.ireturn, 1) := by decide +kernel
theorem dX7_fogOf_0 : decode cX7_fogOf 0 = .ok (.aload_n 0, 1) := by decide +kernel
theorem dX7_fogOf_1 : decode cX7_fogOf 1 = .ok (.getfield 182, 3) := by decide +kernel
theorem dX7_fogOf_4 : decode cX7_fogOf 4 = .ok (.ifCond .le 18, 3) := by decide +kernel
theorem dX7_fogOf_7 : decode cX7_fogOf 7 = .ok (.aload_n 0, 1) := by decide +kernel
theorem dX7_fogOf_8 : decode cX7_fogOf 8 = .ok (.getfield 35, 3) := by decide +kernel
theorem dX7_fogOf_11 : decode cX7_fogOf 11 = .ok (.iconst 2, 1) := by decide +kernel
theorem dX7_fogOf_12 : decode cX7_fogOf 12 = .ok (.aload_n 1, 1) := by decide +kernel
theorem dX7_fogOf_13 : decode cX7_fogOf 13 = .ok (.iconst 1, 1) := by decide +kernel
theorem dX7_fogOf_14 : decode cX7_fogOf 14 = .ok (.iaload, 1) := by decide +kernel
theorem dX7_fogOf_15 : decode cX7_fogOf 15 = .ok (.imul, 1) := by decide +kernel
theorem dX7_fogOf_16 : decode cX7_fogOf 16 = .ok (.iconst 1, 1) := by decide +kernel
theorem dX7_fogOf_17 : decode cX7_fogOf 17 = .ok (.iadd, 1) := by decide +kernel
theorem dX7_fogOf_18 : decode cX7_fogOf 18 = .ok (.iaload, 1) := by decide +kernel
theorem dX7_fogOf_19 : decode cX7_fogOf 19 = .ok (.goto 4, 3) := by decide +kernel
theorem dX7_fogOf_22 : decode cX7_fogOf 22 = .ok (.iconst 0, 1) := by decide +kernel
theorem dX7_fogOf_23 : decode cX7_fogOf 23 = .ok (.ireturn, 1) := by decide +kernel
theorem dX7_isHanging_0 : decode cX7_isHanging 0 = .ok (.aload_n 0, 1) := by decide +kernel
theorem dX7_isHanging_1 : decode cX7_isHanging 1 = .ok (.getfield 47, 3) := by decide +kernel
theorem dX7_isHanging_4 : decode cX7_isHanging 4 = .ok (.aload_n 0, 1) := by decide +kernel
theorem dX7_isHanging_5 : decode cX7_isHanging 5 = .ok (.getfield 41, 3) := by decide +kernel
theorem dX7_isHanging_8 : decode cX7_isHanging 8 = .ok (.iload_n 2, 1) := by decide +kernel
theorem dX7_isHanging_9 : decode cX7_isHanging 9 = .ok (.iaload, 1) := by decide +kernel
theorem dX7_isHanging_10 : decode cX7_isHanging 10 = .ok (.iaload, 1) := by decide +kernel
theorem dX7_isHanging_11 : decode cX7_isHanging 11 = .ok (.aload_n 1, 1) := by decide +kernel
theorem dX7_isHanging_12 : decode cX7_isHanging 12 = .ok (.iconst 0, 1) := by decide +kernel
theorem dX7_isHanging_13 : decode cX7_isHanging 13 = .ok (.iaload, 1) := by decide +kernel
theorem dX7_isHanging_14 : decode cX7_isHanging 14 = .ok (.bipush 7, 2) := by decide +kernel
theorem dX7_isHanging_16 : decode cX7_isHanging 16 = .ok (.irem, 1) := by decide +kernel
theorem dX7_isHanging_17 : decode cX7_isHanging 17 = .ok (.invokestatic 197, 3) := by decide +kernel
theorem dX7_isHanging_20 : decode cX7_isHanging 20 = .ok (.ireturn, 1) := by decide +kernel
theorem dX7_hanging_0 : decode cX7_hanging 0 = .ok (.iconst 0, 1) := by decide +kernel
theorem dX7_hanging_1 : decode cX7_hanging 1 = .ok (.istore_n 2, 1) := by decide +kernel
theorem dX7_hanging_2 : decode cX7_hanging 2 = .ok (.iconst 0, 1) := by decide +kernel
theorem dX7_hanging_3 : decode cX7_hanging 3 = .ok (.istore_n 3, 1) := by decide +kernel
theorem dX7_hanging_4 : decode cX7_hanging 4 = .ok (.iload_n 3, 1) := by decide +kernel
theorem dX7_hanging_5 : decode cX7_hanging 5 = .ok (.aload_n 0, 1) := by decide +kernel
theorem dX7_hanging_6 : decode cX7_hanging 6 = .ok (.getfield 179, 3) := by decide +kernel
theorem dX7_hanging_9 : decode cX7_hanging 9 = .ok (.if_icmp .ge 28, 3) := by decide +kernel
theorem dX7_hanging_12 : decode cX7_hanging 12 = .ok (.iload_n 2, 1) := by decide +kernel
theorem dX7_hanging_13 : decode cX7_hanging 13 = .ok (.aload_n 0, 1) := by decide +kernel
theorem dX7_hanging_14 : decode cX7_hanging 14 = .ok (.aload_n 1, 1) := by decide +kernel
theorem dX7_hanging_15 : decode cX7_hanging 15 = .ok (.iload_n 3, 1) := by decide +kernel
theorem dX7_hanging_16 : decode cX7_hanging 16 = .ok (.invokevirtual 201, 3) := by decide +kernel
theorem dX7_hanging_19 : decode cX7_hanging 19 = .ok (.ifCond .eq 9, 3) := by decide +kernel
theorem dX7_hanging_22 : decode cX7_hanging 22 = .ok (.iconst 1, 1) := by decide +kernel
theorem dX7_hanging_23 : decode cX7_hanging 23 = .ok (.iload_n 3, 1) := by decide +kernel
theorem dX7_hanging_24 : decode cX7_hanging 24 = .ok (.ishl, 1) := by decide +kernel
theorem dX7_hanging_25 : decode cX7_hanging 25 = .ok (.goto 4, 3) := by decide +kernel
theorem dX7_hanging_28 : decode cX7_hanging 28 = .ok (.iconst 0, 1) := by decide +kernel
theorem dX7_hanging_29 : decode cX7_hanging 29 = .ok (.ior, 1) := by decide +kernel
theorem dX7_hanging_30 : decode cX7_hanging 30 = .ok (.istore_n 2, 1) := by decide +kernel
theorem dX7_hanging_31 : decode cX7_hanging 31 = .ok (.iinc 3 1, 3) := by decide +kernel
theorem dX7_hanging_34 : decode cX7_hanging 34 = .ok (.goto (-30), 3) := by decide +kernel
theorem dX7_hanging_37 : decode cX7_hanging 37 = .ok (.iload_n 2, 1) := by decide +kernel
theorem dX7_hanging_38 : decode cX7_hanging 38 = .ok (.ireturn, 1) := by decide +kernel
theorem dX7_postIn_0 : decode cX7_postIn 0 = .ok (.iconst (-1), 1) := by decide +kernel
theorem dX7_postIn_1 : decode cX7_postIn 1 = .ok (.istore_n 3, 1) := by decide +kernel
theorem dX7_postIn_2 : decode cX7_postIn 2 = .ok (.iconst 0, 1) := by decide +kernel
theorem dX7_postIn_3 : decode cX7_postIn 3 = .ok (.istore 4, 2) := by decide +kernel
theorem dX7_postIn_5 : decode cX7_postIn 5 = .ok (.iload 4, 2) := by decide +kernel
theorem dX7_postIn_7 : decode cX7_postIn 7 = .ok (.aload_n 0, 1) := by decide +kernel
theorem dX7_postIn_8 : decode cX7_postIn 8 = .ok (.getfield 179, 3) := by decide +kernel
theorem dX7_postIn_11 : decode cX7_postIn 11 = .ok (.if_icmp .ge 27, 3) := by decide +kernel
theorem dX7_postIn_14 : decode cX7_postIn 14 = .ok (.aload_n 1, 1) := by decide +kernel
theorem dX7_postIn_15 : decode cX7_postIn 15 = .ok (.bipush 15, 2) := by decide +kernel
theorem dX7_postIn_17 : decode cX7_postIn 17 = .ok (.iload 4, 2) := by decide +kernel
theorem dX7_postIn_19 : decode cX7_postIn 19 = .ok (.iadd, 1) := by decide +kernel
theorem dX7_postIn_20 : decode cX7_postIn 20 = .ok (.iaload, 1) := by decide +kernel
theorem dX7_postIn_21 : decode cX7_postIn 21 = .ok (.iload_n 2, 1) := by decide +kernel
theorem dX7_postIn_22 : decode cX7_postIn 22 = .ok (.if_icmp .ne 8, 3) := by decide +kernel
theorem dX7_postIn_25 : decode cX7_postIn 25 = .ok (.iload 4, 2) := by decide +kernel
theorem dX7_postIn_27 : decode cX7_postIn 27 = .ok (.goto 4, 3) := by decide +kernel
theorem dX7_postIn_30 : decode cX7_postIn 30 = .ok (.iload_n 3, 1) := by decide +kernel
theorem dX7_postIn_31 : decode cX7_postIn 31 = .ok (.istore_n 3, 1) := by decide +kernel
theorem dX7_postIn_32 : decode cX7_postIn 32 = .ok (.iinc 4 1, 3) := by decide +kernel
theorem dX7_postIn_35 : decode cX7_postIn 35 = .ok (.goto (-30), 3) := by decide +kernel
theorem dX7_postIn_38 : decode cX7_postIn 38 = .ok (.iload_n 3, 1) := by decide +kernel
theorem dX7_postIn_39 : decode cX7_postIn 39 = .ok (.ireturn, 1) := by decide +kernel
theorem dX7_jars_0 : decode cX7_jars 0 = .ok (.iconst 0, 1) := by decide +kernel
theorem dX7_jars_1 : decode cX7_jars 1 = .ok (.istore_n 2, 1) := by decide +kernel
theorem dX7_jars_2 : decode cX7_jars 2 = .ok (.iconst 0, 1) := by decide +kernel
theorem dX7_jars_3 : decode cX7_jars 3 = .ok (.istore_n 3, 1) := by decide +kernel
theorem dX7_jars_4 : decode cX7_jars 4 = .ok (.iload_n 3, 1) := by decide +kernel
theorem dX7_jars_5 : decode cX7_jars 5 = .ok (.aload_n 0, 1) := by decide +kernel
theorem dX7_jars_6 : decode cX7_jars 6 = .ok (.getfield 179, 3) := by decide +kernel
theorem dX7_jars_9 : decode cX7_jars 9 = .ok (.if_icmp .ge 18, 3) := by decide +kernel
theorem dX7_jars_12 : decode cX7_jars 12 = .ok (.iload_n 2, 1) := by decide +kernel
theorem dX7_jars_13 : decode cX7_jars 13 = .ok (.aload_n 1, 1) := by decide +kernel
theorem dX7_jars_14 : decode cX7_jars 14 = .ok (.bipush 9, 2) := by decide +kernel
theorem dX7_jars_16 : decode cX7_jars 16 = .ok (.iload_n 3, 1) := by decide +kernel
theorem dX7_jars_17 : decode cX7_jars 17 = .ok (.iadd, 1) := by decide +kernel
theorem dX7_jars_18 : decode cX7_jars 18 = .ok (.iaload, 1) := by decide +kernel
theorem dX7_jars_19 : decode cX7_jars 19 = .ok (.iadd, 1) := by decide +kernel
theorem dX7_jars_20 : decode cX7_jars 20 = .ok (.istore_n 2, 1) := by decide +kernel
theorem dX7_jars_21 : decode cX7_jars 21 = .ok (.iinc 3 1, 3) := by decide +kernel
theorem dX7_jars_24 : decode cX7_jars 24 = .ok (.goto (-20), 3) := by decide +kernel
theorem dX7_jars_27 : decode cX7_jars 27 = .ok (.iload_n 2, 1) := by decide +kernel
theorem dX7_jars_28 : decode cX7_jars 28 = .ok (.ireturn, 1) := by decide +kernel
theorem dX7_told_0 : decode cX7_told 0 = .ok (.iload_n 1, 1) := by decide +kernel
theorem dX7_told_1 : decode cX7_told 1 = .ok (.tableswitch 177 0 15 #[79, 84, 89, 94, 99, 104, 109, 116, 123, 130, 139, 148, 155, 162, 167, 172], 79) := by decide +kernel
theorem dX7_told_80 : decode cX7_told 80 = .ok (.aload_n 0, 1) := by decide +kernel
theorem dX7_told_81 : decode cX7_told 81 = .ok (.getfield 173, 3) := by decide +kernel
theorem dX7_told_84 : decode cX7_told 84 = .ok (.ireturn, 1) := by decide +kernel
theorem dX7_told_85 : decode cX7_told 85 = .ok (.aload_n 0, 1) := by decide +kernel
theorem dX7_told_86 : decode cX7_told 86 = .ok (.getfield 176, 3) := by decide +kernel
theorem dX7_told_89 : decode cX7_told 89 = .ok (.ireturn, 1) := by decide +kernel
theorem dX7_told_90 : decode cX7_told 90 = .ok (.aload_n 0, 1) := by decide +kernel
theorem dX7_told_91 : decode cX7_told 91 = .ok (.invokevirtual 205, 3) := by decide +kernel
theorem dX7_told_94 : decode cX7_told 94 = .ok (.ireturn, 1) := by decide +kernel
theorem dX7_told_95 : decode cX7_told 95 = .ok (.aload_n 0, 1) := by decide +kernel
theorem dX7_told_96 : decode cX7_told 96 = .ok (.getfield 179, 3) := by decide +kernel
theorem dX7_told_99 : decode cX7_told 99 = .ok (.ireturn, 1) := by decide +kernel
theorem dX7_told_100 : decode cX7_told 100 = .ok (.aload_n 0, 1) := by decide +kernel
theorem dX7_told_101 : decode cX7_told 101 = .ok (.getfield 185, 3) := by decide +kernel
theorem dX7_told_104 : decode cX7_told 104 = .ok (.ireturn, 1) := by decide +kernel
theorem dX7_told_105 : decode cX7_told 105 = .ok (.aload_n 0, 1) := by decide +kernel
theorem dX7_told_106 : decode cX7_told 106 = .ok (.getfield 90, 3) := by decide +kernel
theorem dX7_told_109 : decode cX7_told 109 = .ok (.ireturn, 1) := by decide +kernel
theorem dX7_told_110 : decode cX7_told 110 = .ok (.aload_n 0, 1) := by decide +kernel
theorem dX7_told_111 : decode cX7_told 111 = .ok (.getfield 53, 3) := by decide +kernel
theorem dX7_told_114 : decode cX7_told 114 = .ok (.iconst 0, 1) := by decide +kernel
theorem dX7_told_115 : decode cX7_told 115 = .ok (.iaload, 1) := by decide +kernel
theorem dX7_told_116 : decode cX7_told 116 = .ok (.ireturn, 1) := by decide +kernel
theorem dX7_told_117 : decode cX7_told 117 = .ok (.aload_n 0, 1) := by decide +kernel
theorem dX7_told_118 : decode cX7_told 118 = .ok (.getfield 53, 3) := by decide +kernel
theorem dX7_told_121 : decode cX7_told 121 = .ok (.iconst 1, 1) := by decide +kernel
theorem dX7_told_122 : decode cX7_told 122 = .ok (.iaload, 1) := by decide +kernel
theorem dX7_told_123 : decode cX7_told 123 = .ok (.ireturn, 1) := by decide +kernel
theorem dX7_told_124 : decode cX7_told 124 = .ok (.aload_n 0, 1) := by decide +kernel
theorem dX7_told_125 : decode cX7_told 125 = .ok (.getfield 53, 3) := by decide +kernel
theorem dX7_told_128 : decode cX7_told 128 = .ok (.iconst 2, 1) := by decide +kernel
theorem dX7_told_129 : decode cX7_told 129 = .ok (.iaload, 1) := by decide +kernel
theorem dX7_told_130 : decode cX7_told 130 = .ok (.ireturn, 1) := by decide +kernel
theorem dX7_told_131 : decode cX7_told 131 = .ok (.aload_n 0, 1) := by decide +kernel
theorem dX7_told_132 : decode cX7_told 132 = .ok (.aload_n 0, 1) := by decide +kernel
theorem dX7_told_133 : decode cX7_told 133 = .ok (.getfield 53, 3) := by decide +kernel
theorem dX7_told_136 : decode cX7_told 136 = .ok (.invokevirtual 209, 3) := by decide +kernel
theorem dX7_told_139 : decode cX7_told 139 = .ok (.ireturn, 1) := by decide +kernel
theorem dX7_told_140 : decode cX7_told 140 = .ok (.aload_n 0, 1) := by decide +kernel
theorem dX7_told_141 : decode cX7_told 141 = .ok (.aload_n 0, 1) := by decide +kernel
theorem dX7_told_142 : decode cX7_told 142 = .ok (.getfield 53, 3) := by decide +kernel
theorem dX7_told_145 : decode cX7_told 145 = .ok (.invokevirtual 213, 3) := by decide +kernel
theorem dX7_told_148 : decode cX7_told 148 = .ok (.ireturn, 1) := by decide +kernel
theorem dX7_told_149 : decode cX7_told 149 = .ok (.aload_n 0, 1) := by decide +kernel
theorem dX7_told_150 : decode cX7_told 150 = .ok (.getfield 53, 3) := by decide +kernel
theorem dX7_told_153 : decode cX7_told 153 = .ok (.iconst 3, 1) := by decide +kernel
theorem dX7_told_154 : decode cX7_told 154 = .ok (.iaload, 1) := by decide +kernel
theorem dX7_told_155 : decode cX7_told 155 = .ok (.ireturn, 1) := by decide +kernel
theorem dX7_told_156 : decode cX7_told 156 = .ok (.aload_n 0, 1) := by decide +kernel
theorem dX7_told_157 : decode cX7_told 157 = .ok (.getfield 53, 3) := by decide +kernel
theorem dX7_told_160 : decode cX7_told 160 = .ok (.iconst 4, 1) := by decide +kernel
theorem dX7_told_161 : decode cX7_told 161 = .ok (.iaload, 1) := by decide +kernel
theorem dX7_told_162 : decode cX7_told 162 = .ok (.ireturn, 1) := by decide +kernel
theorem dX7_told_163 : decode cX7_told 163 = .ok (.aload_n 0, 1) := by decide +kernel
theorem dX7_told_164 : decode cX7_told 164 = .ok (.getfield 188, 3) := by decide +kernel
theorem dX7_told_167 : decode cX7_told 167 = .ok (.ireturn, 1) := by decide +kernel
theorem dX7_told_168 : decode cX7_told 168 = .ok (.aload_n 0, 1) := by decide +kernel
theorem dX7_told_169 : decode cX7_told 169 = .ok (.getfield 191, 3) := by decide +kernel
theorem dX7_told_172 : decode cX7_told 172 = .ok (.ireturn, 1) := by decide +kernel
theorem dX7_told_173 : decode cX7_told 173 = .ok (.aload_n 0, 1) := by decide +kernel
theorem dX7_told_174 : decode cX7_told 174 = .ok (.getfield 194, 3) := by decide +kernel
theorem dX7_told_177 : decode cX7_told 177 = .ok (.ireturn, 1) := by decide +kernel
theorem dX7_told_178 : decode cX7_told 178 = .ok (.ldc 89, 2) := by decide +kernel
theorem dX7_told_180 : decode cX7_told 180 = .ok (.ireturn, 1) := by decide +kernel
theorem dX7_post_0 : decode cX7_post 0 = .ok (.aload_n 0, 1) := by decide +kernel
theorem dX7_post_1 : decode cX7_post 1 = .ok (.iload_n 1, 1) := by decide +kernel
theorem dX7_post_2 : decode cX7_post 2 = .ok (.invokevirtual 216, 3) := by decide +kernel
theorem dX7_post_5 : decode cX7_post 5 = .ok (.ifCond .ne 6, 3) := by decide +kernel
theorem dX7_post_8 : decode cX7_post 8 = .ok (.ldc 219, 2) := by decide +kernel
theorem dX7_post_10 : decode cX7_post 10 = .ok (.ireturn, 1) := by decide +kernel
theorem dX7_post_11 : decode cX7_post 11 = .ok (.iload_n 2, 1) := by decide +kernel
theorem dX7_post_12 : decode cX7_post 12 = .ok (.tableswitch 80 0 4 #[36, 46, 56, 63, 70], 36) := by decide +kernel
theorem dX7_post_48 : decode cX7_post 48 = .ok (.aload_n 0, 1) := by decide +kernel
theorem dX7_post_49 : decode cX7_post 49 = .ok (.getfield 53, 3) := by decide +kernel
theorem dX7_post_52 : decode cX7_post 52 = .ok (.bipush 15, 2) := by decide +kernel
theorem dX7_post_54 : decode cX7_post 54 = .ok (.iload_n 1, 1) := by decide +kernel
theorem dX7_post_55 : decode cX7_post 55 = .ok (.iadd, 1) := by decide +kernel
theorem dX7_post_56 : decode cX7_post 56 = .ok (.iaload, 1) := by decide +kernel
theorem dX7_post_57 : decode cX7_post 57 = .ok (.ireturn, 1) := by decide +kernel
theorem dX7_post_58 : decode cX7_post 58 = .ok (.aload_n 0, 1) := by decide +kernel
theorem dX7_post_59 : decode cX7_post 59 = .ok (.getfield 53, 3) := by decide +kernel
theorem dX7_post_62 : decode cX7_post 62 = .ok (.bipush 21, 2) := by decide +kernel
theorem dX7_post_64 : decode cX7_post 64 = .ok (.iload_n 1, 1) := by decide +kernel
theorem dX7_post_65 : decode cX7_post 65 = .ok (.iadd, 1) := by decide +kernel
theorem dX7_post_66 : decode cX7_post 66 = .ok (.iaload, 1) := by decide +kernel
theorem dX7_post_67 : decode cX7_post 67 = .ok (.ireturn, 1) := by decide +kernel
theorem dX7_post_68 : decode cX7_post 68 = .ok (.aload_n 0, 1) := by decide +kernel
theorem dX7_post_69 : decode cX7_post 69 = .ok (.getfield 38, 3) := by decide +kernel
theorem dX7_post_72 : decode cX7_post 72 = .ok (.iload_n 1, 1) := by decide +kernel
theorem dX7_post_73 : decode cX7_post 73 = .ok (.iaload, 1) := by decide +kernel
theorem dX7_post_74 : decode cX7_post 74 = .ok (.ireturn, 1) := by decide +kernel
theorem dX7_post_75 : decode cX7_post 75 = .ok (.aload_n 0, 1) := by decide +kernel
theorem dX7_post_76 : decode cX7_post 76 = .ok (.getfield 41, 3) := by decide +kernel
theorem dX7_post_79 : decode cX7_post 79 = .ok (.iload_n 1, 1) := by decide +kernel
theorem dX7_post_80 : decode cX7_post 80 = .ok (.iaload, 1) := by decide +kernel
theorem dX7_post_81 : decode cX7_post 81 = .ok (.ireturn, 1) := by decide +kernel
theorem dX7_post_82 : decode cX7_post 82 = .ok (.aload_n 0, 1) := by decide +kernel
theorem dX7_post_83 : decode cX7_post 83 = .ok (.getfield 53, 3) := by decide +kernel
theorem dX7_post_86 : decode cX7_post 86 = .ok (.bipush 9, 2) := by decide +kernel
theorem dX7_post_88 : decode cX7_post 88 = .ok (.iload_n 1, 1) := by decide +kernel
theorem dX7_post_89 : decode cX7_post 89 = .ok (.iadd, 1) := by decide +kernel
theorem dX7_post_90 : decode cX7_post 90 = .ok (.iaload, 1) := by decide +kernel
theorem dX7_post_91 : decode cX7_post 91 = .ok (.ireturn, 1) := by decide +kernel
theorem dX7_post_92 : decode cX7_post 92 = .ok (.ldc 89, 2) := by decide +kernel
theorem dX7_post_94 : decode cX7_post 94 = .ok (.ireturn, 1) := by decide +kernel
theorem dX7_fog_0 : decode cX7_fog 0 = .ok (.iload_n 2, 1) := by decide +kernel
theorem dX7_fog_1 : decode cX7_fog 1 = .ok (.iconst 0, 1) := by decide +kernel
theorem dX7_fog_2 : decode cX7_fog 2 = .ok (.iconst 1, 1) := by decide +kernel
theorem dX7_fog_3 : decode cX7_fog 3 = .ok (.invokestatic 85, 3) := by decide +kernel
theorem dX7_fog_6 : decode cX7_fog 6 = .ok (.ifCond .eq 22, 3) := by decide +kernel
theorem dX7_fog_9 : decode cX7_fog 9 = .ok (.iload_n 1, 1) := by decide +kernel
theorem dX7_fog_10 : decode cX7_fog 10 = .ok (.iconst (-1), 1) := by decide +kernel
theorem dX7_fog_11 : decode cX7_fog 11 = .ok (.if_icmp .eq 20, 3) := by decide +kernel
theorem dX7_fog_14 : decode cX7_fog 14 = .ok (.iload_n 1, 1) := by decide +kernel
theorem dX7_fog_15 : decode cX7_fog 15 = .ok (.iconst 0, 1) := by decide +kernel
theorem dX7_fog_16 : decode cX7_fog 16 = .ok (.aload_n 0, 1) := by decide +kernel
theorem dX7_fog_17 : decode cX7_fog 17 = .ok (.getfield 182, 3) := by decide +kernel
theorem dX7_fog_20 : decode cX7_fog 20 = .ok (.iconst 1, 1) := by decide +kernel
theorem dX7_fog_21 : decode cX7_fog 21 = .ok (.isub, 1) := by decide +kernel
theorem dX7_fog_22 : decode cX7_fog 22 = .ok (.invokestatic 85, 3) := by decide +kernel
theorem dX7_fog_25 : decode cX7_fog 25 = .ok (.ifCond .ne 6, 3) := by decide +kernel
theorem dX7_fog_28 : decode cX7_fog 28 = .ok (.ldc 89, 2) := by decide +kernel
theorem dX7_fog_30 : decode cX7_fog 30 = .ok (.ireturn, 1) := by decide +kernel
theorem dX7_fog_31 : decode cX7_fog 31 = .ok (.iload_n 1, 1) := by decide +kernel
theorem dX7_fog_32 : decode cX7_fog 32 = .ok (.iconst (-1), 1) := by decide +kernel
theorem dX7_fog_33 : decode cX7_fog 33 = .ok (.if_icmp .eq 14, 3) := by decide +kernel
theorem dX7_fog_36 : decode cX7_fog 36 = .ok (.aload_n 0, 1) := by decide +kernel
theorem dX7_fog_37 : decode cX7_fog 37 = .ok (.getfield 35, 3) := by decide +kernel
theorem dX7_fog_40 : decode cX7_fog 40 = .ok (.iconst 2, 1) := by decide +kernel
theorem dX7_fog_41 : decode cX7_fog 41 = .ok (.iload_n 1, 1) := by decide +kernel
theorem dX7_fog_42 : decode cX7_fog 42 = .ok (.imul, 1) := by decide +kernel
theorem dX7_fog_43 : decode cX7_fog 43 = .ok (.iload_n 2, 1) := by decide +kernel
theorem dX7_fog_44 : decode cX7_fog 44 = .ok (.iadd, 1) := by decide +kernel
theorem dX7_fog_45 : decode cX7_fog 45 = .ok (.iaload, 1) := by decide +kernel
theorem dX7_fog_46 : decode cX7_fog 46 = .ok (.ireturn, 1) := by decide +kernel
theorem dX7_fog_47 : decode cX7_fog 47 = .ok (.aload_n 0, 1) := by decide +kernel
theorem dX7_fog_48 : decode cX7_fog 48 = .ok (.getfield 170, 3) := by decide +kernel
theorem dX7_fog_51 : decode cX7_fog 51 = .ok (.ifCond .ne 8, 3) := by decide +kernel
theorem dX7_fog_54 : decode cX7_fog 54 = .ok (.ldc 220, 2) := by decide +kernel
theorem dX7_fog_56 : decode cX7_fog 56 = .ok (.goto 26, 3) := by decide +kernel
theorem dX7_fog_59 : decode cX7_fog 59 = .ok (.iload_n 2, 1) := by decide +kernel
theorem dX7_fog_60 : decode cX7_fog 60 = .ok (.ifCond .ne 14, 3) := by decide +kernel
theorem dX7_fog_63 : decode cX7_fog 63 = .ok (.aload_n 0, 1) := by decide +kernel
theorem dX7_fog_64 : decode cX7_fog 64 = .ok (.aload_n 0, 1) := by decide +kernel
theorem dX7_fog_65 : decode cX7_fog 65 = .ok (.getfield 53, 3) := by decide +kernel
theorem dX7_fog_68 : decode cX7_fog 68 = .ok (.invokevirtual 221, 3) := by decide +kernel
theorem dX7_fog_71 : decode cX7_fog 71 = .ok (.goto 11, 3) := by decide +kernel
theorem dX7_fog_74 : decode cX7_fog 74 = .ok (.aload_n 0, 1) := by decide +kernel
theorem dX7_fog_75 : decode cX7_fog 75 = .ok (.aload_n 0, 1) := by decide +kernel
theorem dX7_fog_76 : decode cX7_fog 76 = .ok (.getfield 53, 3) := by decide +kernel
theorem dX7_fog_79 : decode cX7_fog 79 = .ok (.invokevirtual 224, 3) := by decide +kernel
theorem dX7_fog_82 : decode cX7_fog 82 = .ok (.ireturn, 1) := by decide +kernel
theorem dX7_postsOf_0 : decode cX7_postsOf 0 = .ok (.iconst 0, 1) := by decide +kernel
theorem dX7_postsOf_1 : decode cX7_postsOf 1 = .ok (.istore_n 2, 1) := by decide +kernel
theorem dX7_postsOf_2 : decode cX7_postsOf 2 = .ok (.iconst 0, 1) := by decide +kernel
theorem dX7_postsOf_3 : decode cX7_postsOf 3 = .ok (.istore_n 3, 1) := by decide +kernel
theorem dX7_postsOf_4 : decode cX7_postsOf 4 = .ok (.iload_n 3, 1) := by decide +kernel
theorem dX7_postsOf_5 : decode cX7_postsOf 5 = .ok (.aload_n 0, 1) := by decide +kernel
theorem dX7_postsOf_6 : decode cX7_postsOf 6 = .ok (.getfield 179, 3) := by decide +kernel
theorem dX7_postsOf_9 : decode cX7_postsOf 9 = .ok (.if_icmp .ge 29, 3) := by decide +kernel
theorem dX7_postsOf_12 : decode cX7_postsOf 12 = .ok (.iload_n 2, 1) := by decide +kernel
theorem dX7_postsOf_13 : decode cX7_postsOf 13 = .ok (.aload_n 0, 1) := by decide +kernel
theorem dX7_postsOf_14 : decode cX7_postsOf 14 = .ok (.getfield 41, 3) := by decide +kernel
theorem dX7_postsOf_17 : decode cX7_postsOf 17 = .ok (.iload_n 3, 1) := by decide +kernel
theorem dX7_postsOf_18 : decode cX7_postsOf 18 = .ok (.iaload, 1) := by decide +kernel
theorem dX7_postsOf_19 : decode cX7_postsOf 19 = .ok (.iload_n 1, 1) := by decide +kernel
theorem dX7_postsOf_20 : decode cX7_postsOf 20 = .ok (.if_icmp .ne 9, 3) := by decide +kernel
theorem dX7_postsOf_23 : decode cX7_postsOf 23 = .ok (.iconst 1, 1) := by decide +kernel
theorem dX7_postsOf_24 : decode cX7_postsOf 24 = .ok (.iload_n 3, 1) := by decide +kernel
theorem dX7_postsOf_25 : decode cX7_postsOf 25 = .ok (.ishl, 1) := by decide +kernel
theorem dX7_postsOf_26 : decode cX7_postsOf 26 = .ok (.goto 4, 3) := by decide +kernel
theorem dX7_postsOf_29 : decode cX7_postsOf 29 = .ok (.iconst 0, 1) := by decide +kernel
theorem dX7_postsOf_30 : decode cX7_postsOf 30 = .ok (.ior, 1) := by decide +kernel
theorem dX7_postsOf_31 : decode cX7_postsOf 31 = .ok (.istore_n 2, 1) := by decide +kernel
theorem dX7_postsOf_32 : decode cX7_postsOf 32 = .ok (.iinc 3 1, 3) := by decide +kernel
theorem dX7_postsOf_35 : decode cX7_postsOf 35 = .ok (.goto (-31), 3) := by decide +kernel
theorem dX7_postsOf_38 : decode cX7_postsOf 38 = .ok (.iload_n 2, 1) := by decide +kernel
theorem dX7_postsOf_39 : decode cX7_postsOf 39 = .ok (.ireturn, 1) := by decide +kernel
theorem dX7_village_0 : decode cX7_village 0 = .ok (.iload_n 1, 1) := by decide +kernel
theorem dX7_village_1 : decode cX7_village 1 = .ok (.invokestatic 227, 3) := by decide +kernel
theorem dX7_village_4 : decode cX7_village 4 = .ok (.ifCond .ne 6, 3) := by decide +kernel
theorem dX7_village_7 : decode cX7_village 7 = .ok (.ldc 219, 2) := by decide +kernel
theorem dX7_village_9 : decode cX7_village 9 = .ok (.ireturn, 1) := by decide +kernel
theorem dX7_village_10 : decode cX7_village 10 = .ok (.iload_n 2, 1) := by decide +kernel
theorem dX7_village_11 : decode cX7_village 11 = .ok (.tableswitch 72 0 4 #[33, 40, 47, 56, 66], 33) := by decide +kernel
theorem dX7_village_44 : decode cX7_village 44 = .ok (.aload_n 0, 1) := by decide +kernel
theorem dX7_village_45 : decode cX7_village 45 = .ok (.getfield 47, 3) := by decide +kernel
theorem dX7_village_48 : decode cX7_village 48 = .ok (.iload_n 1, 1) := by decide +kernel
theorem dX7_village_49 : decode cX7_village 49 = .ok (.iaload, 1) := by decide +kernel
theorem dX7_village_50 : decode cX7_village 50 = .ok (.ireturn, 1) := by decide +kernel
theorem dX7_village_51 : decode cX7_village 51 = .ok (.aload_n 0, 1) := by decide +kernel
theorem dX7_village_52 : decode cX7_village 52 = .ok (.getfield 50, 3) := by decide +kernel
theorem dX7_village_55 : decode cX7_village 55 = .ok (.iload_n 1, 1) := by decide +kernel
theorem dX7_village_56 : decode cX7_village 56 = .ok (.iaload, 1) := by decide +kernel
theorem dX7_village_57 : decode cX7_village 57 = .ok (.ireturn, 1) := by decide +kernel
theorem dX7_village_58 : decode cX7_village 58 = .ok (.aload_n 0, 1) := by decide +kernel
theorem dX7_village_59 : decode cX7_village 59 = .ok (.getfield 53, 3) := by decide +kernel
theorem dX7_village_62 : decode cX7_village 62 = .ok (.iconst 5, 1) := by decide +kernel
theorem dX7_village_63 : decode cX7_village 63 = .ok (.iload_n 1, 1) := by decide +kernel
theorem dX7_village_64 : decode cX7_village 64 = .ok (.iadd, 1) := by decide +kernel
theorem dX7_village_65 : decode cX7_village 65 = .ok (.iaload, 1) := by decide +kernel
theorem dX7_village_66 : decode cX7_village 66 = .ok (.ireturn, 1) := by decide +kernel
theorem dX7_village_67 : decode cX7_village 67 = .ok (.aload_n 0, 1) := by decide +kernel
theorem dX7_village_68 : decode cX7_village 68 = .ok (.getfield 53, 3) := by decide +kernel
theorem dX7_village_71 : decode cX7_village 71 = .ok (.bipush 7, 2) := by decide +kernel
theorem dX7_village_73 : decode cX7_village 73 = .ok (.iload_n 1, 1) := by decide +kernel
theorem dX7_village_74 : decode cX7_village 74 = .ok (.iadd, 1) := by decide +kernel
theorem dX7_village_75 : decode cX7_village 75 = .ok (.iaload, 1) := by decide +kernel
theorem dX7_village_76 : decode cX7_village 76 = .ok (.ireturn, 1) := by decide +kernel
theorem dX7_village_77 : decode cX7_village 77 = .ok (.aload_n 0, 1) := by decide +kernel
theorem dX7_village_78 : decode cX7_village 78 = .ok (.iload_n 1, 1) := by decide +kernel
theorem dX7_village_79 : decode cX7_village 79 = .ok (.invokevirtual 230, 3) := by decide +kernel
theorem dX7_village_82 : decode cX7_village 82 = .ok (.ireturn, 1) := by decide +kernel
theorem dX7_village_83 : decode cX7_village 83 = .ok (.ldc 89, 2) := by decide +kernel
theorem dX7_village_85 : decode cX7_village 85 = .ok (.ireturn, 1) := by decide +kernel
theorem dX7_goat_0 : decode cX7_goat 0 = .ok (.iload_n 1, 1) := by decide +kernel
theorem dX7_goat_1 : decode cX7_goat 1 = .ok (.iconst 0, 1) := by decide +kernel
theorem dX7_goat_2 : decode cX7_goat 2 = .ok (.aload_n 0, 1) := by decide +kernel
theorem dX7_goat_3 : decode cX7_goat 3 = .ok (.getfield 185, 3) := by decide +kernel
theorem dX7_goat_6 : decode cX7_goat 6 = .ok (.iconst 1, 1) := by decide +kernel
theorem dX7_goat_7 : decode cX7_goat 7 = .ok (.isub, 1) := by decide +kernel
theorem dX7_goat_8 : decode cX7_goat 8 = .ok (.invokestatic 85, 3) := by decide +kernel
theorem dX7_goat_11 : decode cX7_goat 11 = .ok (.ifCond .ne 8, 3) := by decide +kernel
theorem dX7_goat_14 : decode cX7_goat 14 = .ok (.ldc 219, 2) := by decide +kernel
theorem dX7_goat_16 : decode cX7_goat 16 = .ok (.goto 27, 3) := by decide +kernel
theorem dX7_goat_19 : decode cX7_goat 19 = .ok (.iload_n 2, 1) := by decide +kernel
theorem dX7_goat_20 : decode cX7_goat 20 = .ok (.iconst 0, 1) := by decide +kernel
theorem dX7_goat_21 : decode cX7_goat 21 = .ok (.iconst 1, 1) := by decide +kernel
theorem dX7_goat_22 : decode cX7_goat 22 = .ok (.invokestatic 85, 3) := by decide +kernel
theorem dX7_goat_25 : decode cX7_goat 25 = .ok (.ifCond .eq 16, 3) := by decide +kernel
theorem dX7_goat_28 : decode cX7_goat 28 = .ok (.aload_n 0, 1) := by decide +kernel
theorem dX7_goat_29 : decode cX7_goat 29 = .ok (.getfield 44, 3) := by decide +kernel
theorem dX7_goat_32 : decode cX7_goat 32 = .ok (.iconst 2, 1) := by decide +kernel
theorem dX7_goat_33 : decode cX7_goat 33 = .ok (.iload_n 1, 1) := by decide +kernel
theorem dX7_goat_34 : decode cX7_goat 34 = .ok (.imul, 1) := by decide +kernel
theorem dX7_goat_35 : decode cX7_goat 35 = .ok (.iload_n 2, 1) := by decide +kernel
theorem dX7_goat_36 : decode cX7_goat 36 = .ok (.iadd, 1) := by decide +kernel
theorem dX7_goat_37 : decode cX7_goat 37 = .ok (.iaload, 1) := by decide +kernel
theorem dX7_goat_38 : decode cX7_goat 38 = .ok (.goto 5, 3) := by decide +kernel
theorem dX7_goat_41 : decode cX7_goat 41 = .ok (.ldc 89, 2) := by decide +kernel
theorem dX7_goat_43 : decode cX7_goat 43 = .ok (.ireturn, 1) := by decide +kernel
theorem dX7_takes_0 : decode cX7_takes 0 = .ok (.iload_n 1, 1) := by decide +kernel
theorem dX7_takes_1 : decode cX7_takes 1 = .ok (.iload_n 1, 1) := by decide +kernel
theorem dX7_takes_2 : decode cX7_takes 2 = .ok (.bipush 20, 2) := by decide +kernel
theorem dX7_takes_4 : decode cX7_takes 4 = .ok (.if_icmp .lt 7, 3) := by decide +kernel
theorem dX7_takes_7 : decode cX7_takes 7 = .ok (.iload_n 0, 1) := by decide +kernel
theorem dX7_takes_8 : decode cX7_takes 8 = .ok (.goto 7, 3) := by decide +kernel
theorem dX7_takes_11 : decode cX7_takes 11 = .ok (.bipush 9, 2) := by decide +kernel
theorem dX7_takes_13 : decode cX7_takes 13 = .ok (.iload_n 0, 1) := by decide +kernel
theorem dX7_takes_14 : decode cX7_takes 14 = .ok (.isub, 1) := by decide +kernel
theorem dX7_takes_15 : decode cX7_takes 15 = .ok (.imul, 1) := by decide +kernel
theorem dX7_takes_16 : decode cX7_takes 16 = .ok (.bipush 10, 2) := by decide +kernel
theorem dX7_takes_18 : decode cX7_takes 18 = .ok (.idiv, 1) := by decide +kernel
theorem dX7_takes_19 : decode cX7_takes 19 = .ok (.ireturn, 1) := by decide +kernel
theorem dX7_leads_0 : decode cX7_leads 0 = .ok (.iconst 0, 1) := by decide +kernel
theorem dX7_leads_1 : decode cX7_leads 1 = .ok (.istore 5, 2) := by decide +kernel
theorem dX7_leads_3 : decode cX7_leads 3 = .ok (.iload 5, 2) := by decide +kernel
theorem dX7_leads_5 : decode cX7_leads 5 = .ok (.aload_n 0, 1) := by decide +kernel
theorem dX7_leads_6 : decode cX7_leads 6 = .ok (.getfield 179, 3) := by decide +kernel
theorem dX7_leads_9 : decode cX7_leads 9 = .ok (.if_icmp .ge 17, 3) := by decide +kernel
theorem dX7_leads_12 : decode cX7_leads 12 = .ok (.aload_n 0, 1) := by decide +kernel
theorem dX7_leads_13 : decode cX7_leads 13 = .ok (.getfield 59, 3) := by decide +kernel
theorem dX7_leads_16 : decode cX7_leads 16 = .ok (.iload 5, 2) := by decide +kernel
theorem dX7_leads_18 : decode cX7_leads 18 = .ok (.iconst 0, 1) := by decide +kernel
theorem dX7_leads_19 : decode cX7_leads 19 = .ok (.iastore, 1) := by decide +kernel
theorem dX7_leads_20 : decode cX7_leads 20 = .ok (.iinc 5 1, 3) := by decide +kernel
theorem dX7_leads_23 : decode cX7_leads 23 = .ok (.goto (-20), 3) := by decide +kernel
theorem dX7_leads_26 : decode cX7_leads 26 = .ok (.iload_n 2, 1) := by decide +kernel
theorem dX7_leads_27 : decode cX7_leads 27 = .ok (.istore 5, 2) := by decide +kernel
theorem dX7_leads_29 : decode cX7_leads 29 = .ok (.iconst 0, 1) := by decide +kernel
theorem dX7_leads_30 : decode cX7_leads 30 = .ok (.istore 6, 2) := by decide +kernel
theorem dX7_leads_32 : decode cX7_leads 32 = .ok (.iload 6, 2) := by decide +kernel
theorem dX7_leads_34 : decode cX7_leads 34 = .ok (.aload_n 0, 1) := by decide +kernel
theorem dX7_leads_35 : decode cX7_leads 35 = .ok (.getfield 173, 3) := by decide +kernel
theorem dX7_leads_38 : decode cX7_leads 38 = .ok (.if_icmp .ge 81, 3) := by decide +kernel
theorem dX7_leads_41 : decode cX7_leads 41 = .ok (.aload_n 0, 1) := by decide +kernel
theorem dX7_leads_42 : decode cX7_leads 42 = .ok (.aload_n 1, 1) := by decide +kernel
theorem dX7_leads_43 : decode cX7_leads 43 = .ok (.iload_n 3, 1) := by decide +kernel
theorem dX7_leads_44 : decode cX7_leads 44 = .ok (.ifCond .ne 8, 3) := by decide +kernel
theorem dX7_leads_47 : decode cX7_leads 47 = .ok (.iload 6, 2) := by decide +kernel
theorem dX7_leads_49 : decode cX7_leads 49 = .ok (.goto 12, 3) := by decide +kernel
theorem dX7_leads_52 : decode cX7_leads 52 = .ok (.aload_n 0, 1) := by decide +kernel
theorem dX7_leads_53 : decode cX7_leads 53 = .ok (.getfield 173, 3) := by decide +kernel
theorem dX7_leads_56 : decode cX7_leads 56 = .ok (.iconst 1, 1) := by decide +kernel
theorem dX7_leads_57 : decode cX7_leads 57 = .ok (.isub, 1) := by decide +kernel
theorem dX7_leads_58 : decode cX7_leads 58 = .ok (.iload 6, 2) := by decide +kernel
theorem dX7_leads_60 : decode cX7_leads 60 = .ok (.isub, 1) := by decide +kernel
theorem dX7_leads_61 : decode cX7_leads 61 = .ok (.invokevirtual 233, 3) := by decide +kernel
theorem dX7_leads_64 : decode cX7_leads 64 = .ok (.istore 7, 2) := by decide +kernel
theorem dX7_leads_66 : decode cX7_leads 66 = .ok (.iload 7, 2) := by decide +kernel
theorem dX7_leads_68 : decode cX7_leads 68 = .ok (.iconst (-1), 1) := by decide +kernel
theorem dX7_leads_69 : decode cX7_leads 69 = .ok (.if_icmp .eq 44, 3) := by decide +kernel
theorem dX7_leads_72 : decode cX7_leads 72 = .ok (.iload 4, 2) := by decide +kernel
theorem dX7_leads_74 : decode cX7_leads 74 = .ok (.iload 7, 2) := by decide +kernel
theorem dX7_leads_76 : decode cX7_leads 76 = .ok (.invokestatic 197, 3) := by decide +kernel
theorem dX7_leads_79 : decode cX7_leads 79 = .ok (.ifCond .eq 34, 3) := by decide +kernel
theorem dX7_leads_82 : decode cX7_leads 82 = .ok (.aload_n 0, 1) := by decide +kernel
theorem dX7_leads_83 : decode cX7_leads 83 = .ok (.getfield 59, 3) := by decide +kernel
theorem dX7_leads_86 : decode cX7_leads 86 = .ok (.iload 7, 2) := by decide +kernel
theorem dX7_leads_88 : decode cX7_leads 88 = .ok (.aload_n 1, 1) := by decide +kernel
theorem dX7_leads_89 : decode cX7_leads 89 = .ok (.bipush 21, 2) := by decide +kernel
theorem dX7_leads_91 : decode cX7_leads 91 = .ok (.iload 7, 2) := by decide +kernel
theorem dX7_leads_93 : decode cX7_leads 93 = .ok (.iadd, 1) := by decide +kernel
theorem dX7_leads_94 : decode cX7_leads 94 = .ok (.iaload, 1) := by decide +kernel
theorem dX7_leads_95 : decode cX7_leads 95 = .ok (.iload 5, 2) := by decide +kernel
theorem dX7_leads_97 : decode cX7_leads 97 = .ok (.invokestatic 237, 3) := by decide +kernel
theorem dX7_leads_100 : decode cX7_leads 100 = .ok (.iastore, 1) := by decide +kernel
theorem dX7_leads_101 : decode cX7_leads 101 = .ok (.iload 5, 2) := by decide +kernel
theorem dX7_leads_103 : decode cX7_leads 103 = .ok (.aload_n 0, 1) := by decide +kernel
theorem dX7_leads_104 : decode cX7_leads 104 = .ok (.getfield 59, 3) := by decide +kernel
theorem dX7_leads_107 : decode cX7_leads 107 = .ok (.iload 7, 2) := by decide +kernel
theorem dX7_leads_109 : decode cX7_leads 109 = .ok (.iaload, 1) := by decide +kernel
theorem dX7_leads_110 : decode cX7_leads 110 = .ok (.isub, 1) := by decide +kernel
theorem dX7_leads_111 : decode cX7_leads 111 = .ok (.istore 5, 2) := by decide +kernel
theorem dX7_leads_113 : decode cX7_leads 113 = .ok (.iinc 6 1, 3) := by decide +kernel
theorem dX7_leads_116 : decode cX7_leads 116 = .ok (.goto (-84), 3) := by decide +kernel
theorem dX7_leads_119 : decode cX7_leads 119 = .ok (.iload 5, 2) := by decide +kernel
theorem dX7_leads_121 : decode cX7_leads 121 = .ok (.ireturn, 1) := by decide +kernel
theorem dX7_counted_0 : decode cX7_counted 0 = .ok (.iload_n 0, 1) := by decide +kernel
theorem dX7_counted_1 : decode cX7_counted 1 = .ok (.ldc 240, 2) := by decide +kernel
theorem dX7_counted_3 : decode cX7_counted 3 = .ok (.if_icmp .le 8, 3) := by decide +kernel
theorem dX7_counted_6 : decode cX7_counted 6 = .ok (.ldc 240, 2) := by decide +kernel
