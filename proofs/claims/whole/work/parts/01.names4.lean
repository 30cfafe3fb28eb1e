theorem dX7_counted_8 : decode cX7_counted 8 = .ok (.goto 4, 3) := by decide +kernel
theorem dX7_counted_11 : decode cX7_counted 11 = .ok (.iload_n 0, 1) := by decide +kernel
theorem dX7_counted_12 : decode cX7_counted 12 = .ok (.ireturn, 1) := by decide +kernel
theorem dX7_lit_0 : decode cX7_lit 0 = .ok (.iload_n 0, 1) := by decide +kernel
theorem dX7_lit_1 : decode cX7_lit 1 = .ok (.iload_n 1, 1) := by decide +kernel
theorem dX7_lit_2 : decode cX7_lit 2 = .ok (.iconst 1, 1) := by decide +kernel
theorem dX7_lit_3 : decode cX7_lit 3 = .ok (.if_icmp .ne 7, 3) := by decide +kernel
theorem dX7_lit_6 : decode cX7_lit 6 = .ok (.iload_n 2, 1) := by decide +kernel
theorem dX7_lit_7 : decode cX7_lit 7 = .ok (.goto 4, 3) := by decide +kernel
theorem dX7_lit_10 : decode cX7_lit 10 = .ok (.iconst 0, 1) := by decide +kernel
theorem dX7_lit_11 : decode cX7_lit 11 = .ok (.isub, 1) := by decide +kernel
theorem dX7_lit_12 : decode cX7_lit 12 = .ok (.istore_n 3, 1) := by decide +kernel
theorem dX7_lit_13 : decode cX7_lit 13 = .ok (.iload_n 3, 1) := by decide +kernel
theorem dX7_lit_14 : decode cX7_lit 14 = .ok (.ifCond .ge 7, 3) := by decide +kernel
theorem dX7_lit_17 : decode cX7_lit 17 = .ok (.iconst 0, 1) := by decide +kernel
theorem dX7_lit_18 : decode cX7_lit 18 = .ok (.goto 4, 3) := by decide +kernel
theorem dX7_lit_21 : decode cX7_lit 21 = .ok (.iload_n 3, 1) := by decide +kernel
theorem dX7_lit_22 : decode cX7_lit 22 = .ok (.ireturn, 1) := by decide +kernel
theorem dX7_allTook_0 : decode cX7_allTook 0 = .ok (.iconst 0, 1) := by decide +kernel
theorem dX7_allTook_1 : decode cX7_allTook 1 = .ok (.istore_n 1, 1) := by decide +kernel
theorem dX7_allTook_2 : decode cX7_allTook 2 = .ok (.iconst 0, 1) := by decide +kernel
theorem dX7_allTook_3 : decode cX7_allTook 3 = .ok (.istore_n 2, 1) := by decide +kernel
theorem dX7_allTook_4 : decode cX7_allTook 4 = .ok (.iload_n 2, 1) := by decide +kernel
theorem dX7_allTook_5 : decode cX7_allTook 5 = .ok (.aload_n 0, 1) := by decide +kernel
theorem dX7_allTook_6 : decode cX7_allTook 6 = .ok (.getfield 179, 3) := by decide +kernel
theorem dX7_allTook_9 : decode cX7_allTook 9 = .ok (.if_icmp .ge 18, 3) := by decide +kernel
theorem dX7_allTook_12 : decode cX7_allTook 12 = .ok (.iload_n 1, 1) := by decide +kernel
theorem dX7_allTook_13 : decode cX7_allTook 13 = .ok (.aload_n 0, 1) := by decide +kernel
theorem dX7_allTook_14 : decode cX7_allTook 14 = .ok (.getfield 59, 3) := by decide +kernel
theorem dX7_allTook_17 : decode cX7_allTook 17 = .ok (.iload_n 2, 1) := by decide +kernel
theorem dX7_allTook_18 : decode cX7_allTook 18 = .ok (.iaload, 1) := by decide +kernel
theorem dX7_allTook_19 : decode cX7_allTook 19 = .ok (.iadd, 1) := by decide +kernel
theorem dX7_allTook_20 : decode cX7_allTook 20 = .ok (.istore_n 1, 1) := by decide +kernel
theorem dX7_allTook_21 : decode cX7_allTook 21 = .ok (.iinc 2 1, 3) := by decide +kernel
theorem dX7_allTook_24 : decode cX7_allTook 24 = .ok (.goto (-20), 3) := by decide +kernel
theorem dX7_allTook_27 : decode cX7_allTook 27 = .ok (.iload_n 1, 1) := by decide +kernel
theorem dX7_allTook_28 : decode cX7_allTook 28 = .ok (.ireturn, 1) := by decide +kernel
theorem dX7_drinks_0 : decode cX7_drinks 0 = .ok (.iconst 0, 1) := by decide +kernel
theorem dX7_drinks_1 : decode cX7_drinks 1 = .ok (.istore_n 2, 1) := by decide +kernel
theorem dX7_drinks_2 : decode cX7_drinks 2 = .ok (.iload_n 2, 1) := by decide +kernel
theorem dX7_drinks_3 : decode cX7_drinks 3 = .ok (.aload_n 0, 1) := by decide +kernel
theorem dX7_drinks_4 : decode cX7_drinks 4 = .ok (.getfield 185, 3) := by decide +kernel
theorem dX7_drinks_7 : decode cX7_drinks 7 = .ok (.if_icmp .ge 91, 3) := by decide +kernel
theorem dX7_drinks_10 : decode cX7_drinks 10 = .ok (.aload_n 0, 1) := by decide +kernel
theorem dX7_drinks_11 : decode cX7_drinks 11 = .ok (.aload_n 1, 1) := by decide +kernel
theorem dX7_drinks_12 : decode cX7_drinks 12 = .ok (.aload_n 0, 1) := by decide +kernel
theorem dX7_drinks_13 : decode cX7_drinks 13 = .ok (.getfield 44, 3) := by decide +kernel
theorem dX7_drinks_16 : decode cX7_drinks 16 = .ok (.iconst 2, 1) := by decide +kernel
theorem dX7_drinks_17 : decode cX7_drinks 17 = .ok (.iload_n 2, 1) := by decide +kernel
theorem dX7_drinks_18 : decode cX7_drinks 18 = .ok (.imul, 1) := by decide +kernel
theorem dX7_drinks_19 : decode cX7_drinks 19 = .ok (.iaload, 1) := by decide +kernel
theorem dX7_drinks_20 : decode cX7_drinks 20 = .ok (.invokevirtual 233, 3) := by decide +kernel
theorem dX7_drinks_23 : decode cX7_drinks 23 = .ok (.istore_n 3, 1) := by decide +kernel
theorem dX7_drinks_24 : decode cX7_drinks 24 = .ok (.iload_n 3, 1) := by decide +kernel
theorem dX7_drinks_25 : decode cX7_drinks 25 = .ok (.iconst (-1), 1) := by decide +kernel
theorem dX7_drinks_26 : decode cX7_drinks 26 = .ok (.if_icmp .eq 66, 3) := by decide +kernel
theorem dX7_drinks_29 : decode cX7_drinks 29 = .ok (.aload_n 1, 1) := by decide +kernel
theorem dX7_drinks_30 : decode cX7_drinks 30 = .ok (.bipush 9, 2) := by decide +kernel
theorem dX7_drinks_32 : decode cX7_drinks 32 = .ok (.iload_n 3, 1) := by decide +kernel
theorem dX7_drinks_33 : decode cX7_drinks 33 = .ok (.iadd, 1) := by decide +kernel
theorem dX7_drinks_34 : decode cX7_drinks 34 = .ok (.iaload, 1) := by decide +kernel
theorem dX7_drinks_35 : decode cX7_drinks 35 = .ok (.aload_n 0, 1) := by decide +kernel
theorem dX7_drinks_36 : decode cX7_drinks 36 = .ok (.getfield 44, 3) := by decide +kernel
theorem dX7_drinks_39 : decode cX7_drinks 39 = .ok (.iconst 2, 1) := by decide +kernel
theorem dX7_drinks_40 : decode cX7_drinks 40 = .ok (.iload_n 2, 1) := by decide +kernel
theorem dX7_drinks_41 : decode cX7_drinks 41 = .ok (.imul, 1) := by decide +kernel
theorem dX7_drinks_42 : decode cX7_drinks 42 = .ok (.iconst 1, 1) := by decide +kernel
theorem dX7_drinks_43 : decode cX7_drinks 43 = .ok (.iadd, 1) := by decide +kernel
theorem dX7_drinks_44 : decode cX7_drinks 44 = .ok (.iaload, 1) := by decide +kernel
theorem dX7_drinks_45 : decode cX7_drinks 45 = .ok (.if_icmp .ge 12, 3) := by decide +kernel
theorem dX7_drinks_48 : decode cX7_drinks 48 = .ok (.aload_n 1, 1) := by decide +kernel
theorem dX7_drinks_49 : decode cX7_drinks 49 = .ok (.bipush 9, 2) := by decide +kernel
theorem dX7_drinks_51 : decode cX7_drinks 51 = .ok (.iload_n 3, 1) := by decide +kernel
theorem dX7_drinks_52 : decode cX7_drinks 52 = .ok (.iadd, 1) := by decide +kernel
theorem dX7_drinks_53 : decode cX7_drinks 53 = .ok (.iaload, 1) := by decide +kernel
theorem dX7_drinks_54 : decode cX7_drinks 54 = .ok (.goto 13, 3) := by decide +kernel
theorem dX7_drinks_57 : decode cX7_drinks 57 = .ok (.aload_n 0, 1) := by decide +kernel
theorem dX7_drinks_58 : decode cX7_drinks 58 = .ok (.getfield 44, 3) := by decide +kernel
theorem dX7_drinks_61 : decode cX7_drinks 61 = .ok (.iconst 2, 1) := by decide +kernel
theorem dX7_drinks_62 : decode cX7_drinks 62 = .ok (.iload_n 2, 1) := by decide +kernel
theorem dX7_drinks_63 : decode cX7_drinks 63 = .ok (.imul, 1) := by decide +kernel
theorem dX7_drinks_64 : decode cX7_drinks 64 = .ok (.iconst 1, 1) := by decide +kernel
theorem dX7_drinks_65 : decode cX7_drinks 65 = .ok (.iadd, 1) := by decide +kernel
theorem dX7_drinks_66 : decode cX7_drinks 66 = .ok (.iaload, 1) := by decide +kernel
theorem dX7_drinks_67 : decode cX7_drinks 67 = .ok (.istore 4, 2) := by decide +kernel
theorem dX7_drinks_69 : decode cX7_drinks 69 = .ok (.aload_n 1, 1) := by decide +kernel
theorem dX7_drinks_70 : decode cX7_drinks 70 = .ok (.bipush 9, 2) := by decide +kernel
theorem dX7_drinks_72 : decode cX7_drinks 72 = .ok (.iload_n 3, 1) := by decide +kernel
theorem dX7_drinks_73 : decode cX7_drinks 73 = .ok (.iadd, 1) := by decide +kernel
theorem dX7_drinks_74 : decode cX7_drinks 74 = .ok (.dup2, 1) := by decide +kernel
theorem dX7_drinks_75 : decode cX7_drinks 75 = .ok (.iaload, 1) := by decide +kernel
theorem dX7_drinks_76 : decode cX7_drinks 76 = .ok (.iload 4, 2) := by decide +kernel
theorem dX7_drinks_78 : decode cX7_drinks 78 = .ok (.isub, 1) := by decide +kernel
theorem dX7_drinks_79 : decode cX7_drinks 79 = .ok (.iastore, 1) := by decide +kernel
theorem dX7_drinks_80 : decode cX7_drinks 80 = .ok (.aload_n 1, 1) := by decide +kernel
theorem dX7_drinks_81 : decode cX7_drinks 81 = .ok (.iconst 4, 1) := by decide +kernel
theorem dX7_drinks_82 : decode cX7_drinks 82 = .ok (.aload_n 1, 1) := by decide +kernel
theorem dX7_drinks_83 : decode cX7_drinks 83 = .ok (.iconst 4, 1) := by decide +kernel
theorem dX7_drinks_84 : decode cX7_drinks 84 = .ok (.iaload, 1) := by decide +kernel
theorem dX7_drinks_85 : decode cX7_drinks 85 = .ok (.iload 4, 2) := by decide +kernel
theorem dX7_drinks_87 : decode cX7_drinks 87 = .ok (.iadd, 1) := by decide +kernel
theorem dX7_drinks_88 : decode cX7_drinks 88 = .ok (.invokestatic 241, 3) := by decide +kernel
theorem dX7_drinks_91 : decode cX7_drinks 91 = .ok (.iastore, 1) := by decide +kernel
theorem dX7_drinks_92 : decode cX7_drinks 92 = .ok (.iinc 2 1, 3) := by decide +kernel
theorem dX7_drinks_95 : decode cX7_drinks 95 = .ok (.goto (-93), 3) := by decide +kernel
theorem dX7_drinks_98 : decode cX7_drinks 98 = .ok (.return_, 1) := by decide +kernel
theorem dX7_usesUp_0 : decode cX7_usesUp 0 = .ok (.iconst 0, 1) := by decide +kernel
theorem dX7_usesUp_1 : decode cX7_usesUp 1 = .ok (.istore_n 2, 1) := by decide +kernel
theorem dX7_usesUp_2 : decode cX7_usesUp 2 = .ok (.iload_n 2, 1) := by decide +kernel
theorem dX7_usesUp_3 : decode cX7_usesUp 3 = .ok (.iconst 2, 1) := by decide +kernel
theorem dX7_usesUp_4 : decode cX7_usesUp 4 = .ok (.if_icmp .ge 73, 3) := by decide +kernel
theorem dX7_usesUp_7 : decode cX7_usesUp 7 = .ok (.aload_n 0, 1) := by decide +kernel
theorem dX7_usesUp_8 : decode cX7_usesUp 8 = .ok (.getfield 50, 3) := by decide +kernel
theorem dX7_usesUp_11 : decode cX7_usesUp 11 = .ok (.iload_n 2, 1) := by decide +kernel
theorem dX7_usesUp_12 : decode cX7_usesUp 12 = .ok (.iaload, 1) := by decide +kernel
theorem dX7_usesUp_13 : decode cX7_usesUp 13 = .ok (.aload_n 1, 1) := by decide +kernel
theorem dX7_usesUp_14 : decode cX7_usesUp 14 = .ok (.iconst 5, 1) := by decide +kernel
theorem dX7_usesUp_15 : decode cX7_usesUp 15 = .ok (.iload_n 2, 1) := by decide +kernel
theorem dX7_usesUp_16 : decode cX7_usesUp 16 = .ok (.iadd, 1) := by decide +kernel
theorem dX7_usesUp_17 : decode cX7_usesUp 17 = .ok (.iaload, 1) := by decide +kernel
theorem dX7_usesUp_18 : decode cX7_usesUp 18 = .ok (.if_icmp .le 18, 3) := by decide +kernel
theorem dX7_usesUp_21 : decode cX7_usesUp 21 = .ok (.aload_n 0, 1) := by decide +kernel
theorem dX7_usesUp_22 : decode cX7_usesUp 22 = .ok (.getfield 50, 3) := by decide +kernel
theorem dX7_usesUp_25 : decode cX7_usesUp 25 = .ok (.iload_n 2, 1) := by decide +kernel
theorem dX7_usesUp_26 : decode cX7_usesUp 26 = .ok (.iaload, 1) := by decide +kernel
theorem dX7_usesUp_27 : decode cX7_usesUp 27 = .ok (.aload_n 1, 1) := by decide +kernel
theorem dX7_usesUp_28 : decode cX7_usesUp 28 = .ok (.iconst 5, 1) := by decide +kernel
theorem dX7_usesUp_29 : decode cX7_usesUp 29 = .ok (.iload_n 2, 1) := by decide +kernel
theorem dX7_usesUp_30 : decode cX7_usesUp 30 = .ok (.iadd, 1) := by decide +kernel
theorem dX7_usesUp_31 : decode cX7_usesUp 31 = .ok (.iaload, 1) := by decide +kernel
theorem dX7_usesUp_32 : decode cX7_usesUp 32 = .ok (.isub, 1) := by decide +kernel
theorem dX7_usesUp_33 : decode cX7_usesUp 33 = .ok (.goto 4, 3) := by decide +kernel
theorem dX7_usesUp_36 : decode cX7_usesUp 36 = .ok (.iconst 0, 1) := by decide +kernel
theorem dX7_usesUp_37 : decode cX7_usesUp 37 = .ok (.istore_n 3, 1) := by decide +kernel
theorem dX7_usesUp_38 : decode cX7_usesUp 38 = .ok (.aload_n 1, 1) := by decide +kernel
theorem dX7_usesUp_39 : decode cX7_usesUp 39 = .ok (.iconst 5, 1) := by decide +kernel
theorem dX7_usesUp_40 : decode cX7_usesUp 40 = .ok (.iload_n 2, 1) := by decide +kernel
theorem dX7_usesUp_41 : decode cX7_usesUp 41 = .ok (.iadd, 1) := by decide +kernel
theorem dX7_usesUp_42 : decode cX7_usesUp 42 = .ok (.dup2, 1) := by decide +kernel
theorem dX7_usesUp_43 : decode cX7_usesUp 43 = .ok (.iaload, 1) := by decide +kernel
theorem dX7_usesUp_44 : decode cX7_usesUp 44 = .ok (.aload_n 0, 1) := by decide +kernel
theorem dX7_usesUp_45 : decode cX7_usesUp 45 = .ok (.getfield 50, 3) := by decide +kernel
theorem dX7_usesUp_48 : decode cX7_usesUp 48 = .ok (.iload_n 2, 1) := by decide +kernel
theorem dX7_usesUp_49 : decode cX7_usesUp 49 = .ok (.iaload, 1) := by decide +kernel
theorem dX7_usesUp_50 : decode cX7_usesUp 50 = .ok (.iload_n 3, 1) := by decide +kernel
theorem dX7_usesUp_51 : decode cX7_usesUp 51 = .ok (.isub, 1) := by decide +kernel
theorem dX7_usesUp_52 : decode cX7_usesUp 52 = .ok (.isub, 1) := by decide +kernel
theorem dX7_usesUp_53 : decode cX7_usesUp 53 = .ok (.iastore, 1) := by decide +kernel
theorem dX7_usesUp_54 : decode cX7_usesUp 54 = .ok (.aload_n 1, 1) := by decide +kernel
theorem dX7_usesUp_55 : decode cX7_usesUp 55 = .ok (.bipush 7, 2) := by decide +kernel
theorem dX7_usesUp_57 : decode cX7_usesUp 57 = .ok (.iload_n 2, 1) := by decide +kernel
theorem dX7_usesUp_58 : decode cX7_usesUp 58 = .ok (.iadd, 1) := by decide +kernel
theorem dX7_usesUp_59 : decode cX7_usesUp 59 = .ok (.aload_n 1, 1) := by decide +kernel
theorem dX7_usesUp_60 : decode cX7_usesUp 60 = .ok (.bipush 7, 2) := by decide +kernel
theorem dX7_usesUp_62 : decode cX7_usesUp 62 = .ok (.iload_n 2, 1) := by decide +kernel
theorem dX7_usesUp_63 : decode cX7_usesUp 63 = .ok (.iadd, 1) := by decide +kernel
theorem dX7_usesUp_64 : decode cX7_usesUp 64 = .ok (.iaload, 1) := by decide +kernel
theorem dX7_usesUp_65 : decode cX7_usesUp 65 = .ok (.iload_n 3, 1) := by decide +kernel
theorem dX7_usesUp_66 : decode cX7_usesUp 66 = .ok (.iadd, 1) := by decide +kernel
theorem dX7_usesUp_67 : decode cX7_usesUp 67 = .ok (.invokestatic 241, 3) := by decide +kernel
theorem dX7_usesUp_70 : decode cX7_usesUp 70 = .ok (.iastore, 1) := by decide +kernel
theorem dX7_usesUp_71 : decode cX7_usesUp 71 = .ok (.iinc 2 1, 3) := by decide +kernel
theorem dX7_usesUp_74 : decode cX7_usesUp 74 = .ok (.goto (-72), 3) := by decide +kernel
theorem dX7_usesUp_77 : decode cX7_usesUp 77 = .ok (.return_, 1) := by decide +kernel
theorem dX7_carries_0 : decode cX7_carries 0 = .ok (.iconst 0, 1) := by decide +kernel
theorem dX7_carries_1 : decode cX7_carries 1 = .ok (.istore_n 3, 1) := by decide +kernel
theorem dX7_carries_2 : decode cX7_carries 2 = .ok (.iconst 0, 1) := by decide +kernel
theorem dX7_carries_3 : decode cX7_carries 3 = .ok (.istore 4, 2) := by decide +kernel
theorem dX7_carries_5 : decode cX7_carries 5 = .ok (.iload 4, 2) := by decide +kernel
theorem dX7_carries_7 : decode cX7_carries 7 = .ok (.aload_n 0, 1) := by decide +kernel
theorem dX7_carries_8 : decode cX7_carries 8 = .ok (.getfield 179, 3) := by decide +kernel
theorem dX7_carries_11 : decode cX7_carries 11 = .ok (.if_icmp .ge 63, 3) := by decide +kernel
theorem dX7_carries_14 : decode cX7_carries 14 = .ok (.iload_n 3, 1) := by decide +kernel
theorem dX7_carries_15 : decode cX7_carries 15 = .ok (.aload_n 0, 1) := by decide +kernel
theorem dX7_carries_16 : decode cX7_carries 16 = .ok (.getfield 41, 3) := by decide +kernel
theorem dX7_carries_19 : decode cX7_carries 19 = .ok (.iload 4, 2) := by decide +kernel
theorem dX7_carries_21 : decode cX7_carries 21 = .ok (.iaload, 1) := by decide +kernel
theorem dX7_carries_22 : decode cX7_carries 22 = .ok (.iload_n 2, 1) := by decide +kernel
theorem dX7_carries_23 : decode cX7_carries 23 = .ok (.if_icmp .ne 13, 3) := by decide +kernel
theorem dX7_carries_26 : decode cX7_carries 26 = .ok (.aload_n 1, 1) := by decide +kernel
theorem dX7_carries_27 : decode cX7_carries 27 = .ok (.bipush 9, 2) := by decide +kernel
theorem dX7_carries_29 : decode cX7_carries 29 = .ok (.iload 4, 2) := by decide +kernel
theorem dX7_carries_31 : decode cX7_carries 31 = .ok (.iadd, 1) := by decide +kernel
theorem dX7_carries_32 : decode cX7_carries 32 = .ok (.iaload, 1) := by decide +kernel
theorem dX7_carries_33 : decode cX7_carries 33 = .ok (.goto 4, 3) := by decide +kernel
theorem dX7_carries_36 : decode cX7_carries 36 = .ok (.iconst 0, 1) := by decide +kernel
theorem dX7_carries_37 : decode cX7_carries 37 = .ok (.iadd, 1) := by decide +kernel
theorem dX7_carries_38 : decode cX7_carries 38 = .ok (.istore_n 3, 1) := by decide +kernel
theorem dX7_carries_39 : decode cX7_carries 39 = .ok (.aload_n 1, 1) := by decide +kernel
theorem dX7_carries_40 : decode cX7_carries 40 = .ok (.bipush 9, 2) := by decide +kernel
theorem dX7_carries_42 : decode cX7_carries 42 = .ok (.iload 4, 2) := by decide +kernel
theorem dX7_carries_44 : decode cX7_carries 44 = .ok (.iadd, 1) := by decide +kernel
theorem dX7_carries_45 : decode cX7_carries 45 = .ok (.aload_n 0, 1) := by decide +kernel
theorem dX7_carries_46 : decode cX7_carries 46 = .ok (.getfield 41, 3) := by decide +kernel
theorem dX7_carries_49 : decode cX7_carries 49 = .ok (.iload 4, 2) := by decide +kernel
theorem dX7_carries_51 : decode cX7_carries 51 = .ok (.iaload, 1) := by decide +kernel
theorem dX7_carries_52 : decode cX7_carries 52 = .ok (.iload_n 2, 1) := by decide +kernel
theorem dX7_carries_53 : decode cX7_carries 53 = .ok (.if_icmp .ne 7, 3) := by decide +kernel
theorem dX7_carries_56 : decode cX7_carries 56 = .ok (.iconst 0, 1) := by decide +kernel
theorem dX7_carries_57 : decode cX7_carries 57 = .ok (.goto 10, 3) := by decide +kernel
theorem dX7_carries_60 : decode cX7_carries 60 = .ok (.aload_n 1, 1) := by decide +kernel
theorem dX7_carries_61 : decode cX7_carries 61 = .ok (.bipush 9, 2) := by decide +kernel
theorem dX7_carries_63 : decode cX7_carries 63 = .ok (.iload 4, 2) := by decide +kernel
theorem dX7_carries_65 : decode cX7_carries 65 = .ok (.iadd, 1) := by decide +kernel
theorem dX7_carries_66 : decode cX7_carries 66 = .ok (.iaload, 1) := by decide +kernel
theorem dX7_carries_67 : decode cX7_carries 67 = .ok (.iastore, 1) := by decide +kernel
theorem dX7_carries_68 : decode cX7_carries 68 = .ok (.iinc 4 1, 3) := by decide +kernel
theorem dX7_carries_71 : decode cX7_carries 71 = .ok (.goto (-66), 3) := by decide +kernel
theorem dX7_carries_74 : decode cX7_carries 74 = .ok (.aload_n 1, 1) := by decide +kernel
theorem dX7_carries_75 : decode cX7_carries 75 = .ok (.iconst 5, 1) := by decide +kernel
theorem dX7_carries_76 : decode cX7_carries 76 = .ok (.iload_n 2, 1) := by decide +kernel
theorem dX7_carries_77 : decode cX7_carries 77 = .ok (.iadd, 1) := by decide +kernel
theorem dX7_carries_78 : decode cX7_carries 78 = .ok (.aload_n 1, 1) := by decide +kernel
theorem dX7_carries_79 : decode cX7_carries 79 = .ok (.iconst 5, 1) := by decide +kernel
theorem dX7_carries_80 : decode cX7_carries 80 = .ok (.iload_n 2, 1) := by decide +kernel
theorem dX7_carries_81 : decode cX7_carries 81 = .ok (.iadd, 1) := by decide +kernel
theorem dX7_carries_82 : decode cX7_carries 82 = .ok (.iaload, 1) := by decide +kernel
theorem dX7_carries_83 : decode cX7_carries 83 = .ok (.iload_n 3, 1) := by decide +kernel
theorem dX7_carries_84 : decode cX7_carries 84 = .ok (.iadd, 1) := by decide +kernel
theorem dX7_carries_85 : decode cX7_carries 85 = .ok (.ldc 244, 2) := by decide +kernel
theorem dX7_carries_87 : decode cX7_carries 87 = .ok (.if_icmp .le 8, 3) := by decide +kernel
theorem dX7_carries_90 : decode cX7_carries 90 = .ok (.ldc 244, 2) := by decide +kernel
theorem dX7_carries_92 : decode cX7_carries 92 = .ok (.goto 10, 3) := by decide +kernel
theorem dX7_carries_95 : decode cX7_carries 95 = .ok (.aload_n 1, 1) := by decide +kernel
theorem dX7_carries_96 : decode cX7_carries 96 = .ok (.iconst 5, 1) := by decide +kernel
theorem dX7_carries_97 : decode cX7_carries 97 = .ok (.iload_n 2, 1) := by decide +kernel
theorem dX7_carries_98 : decode cX7_carries 98 = .ok (.iadd, 1) := by decide +kernel
theorem dX7_carries_99 : decode cX7_carries 99 = .ok (.iaload, 1) := by decide +kernel
theorem dX7_carries_100 : decode cX7_carries 100 = .ok (.iload_n 3, 1) := by decide +kernel
theorem dX7_carries_101 : decode cX7_carries 101 = .ok (.iadd, 1) := by decide +kernel
theorem dX7_carries_102 : decode cX7_carries 102 = .ok (.iastore, 1) := by decide +kernel
theorem dX7_carries_103 : decode cX7_carries 103 = .ok (.iload_n 3, 1) := by decide +kernel
theorem dX7_carries_104 : decode cX7_carries 104 = .ok (.ireturn, 1) := by decide +kernel
theorem dX7_passes_0 : decode cX7_passes 0 = .ok (.aload_n 0, 1) := by decide +kernel
theorem dX7_passes_1 : decode cX7_passes 1 = .ok (.aload_n 1, 1) := by decide +kernel
theorem dX7_passes_2 : decode cX7_passes 2 = .ok (.iload_n 2, 1) := by decide +kernel
theorem dX7_passes_3 : decode cX7_passes 3 = .ok (.aload_n 1, 1) := by decide +kernel
theorem dX7_passes_4 : decode cX7_passes 4 = .ok (.iconst 2, 1) := by decide +kernel
theorem dX7_passes_5 : decode cX7_passes 5 = .ok (.iaload, 1) := by decide +kernel
theorem dX7_passes_6 : decode cX7_passes 6 = .ok (.aload_n 0, 1) := by decide +kernel
theorem dX7_passes_7 : decode cX7_passes 7 = .ok (.getfield 176, 3) := by decide +kernel
theorem dX7_passes_10 : decode cX7_passes 10 = .ok (.invokestatic 245, 3) := by decide +kernel
theorem dX7_passes_13 : decode cX7_passes 13 = .ok (.iload_n 3, 1) := by decide +kernel
theorem dX7_passes_14 : decode cX7_passes 14 = .ok (.aload_n 0, 1) := by decide +kernel
theorem dX7_passes_15 : decode cX7_passes 15 = .ok (.aload_n 1, 1) := by decide +kernel
theorem dX7_passes_16 : decode cX7_passes 16 = .ok (.invokevirtual 209, 3) := by decide +kernel
theorem dX7_passes_19 : decode cX7_passes 19 = .ok (.invokevirtual 249, 3) := by decide +kernel
theorem dX7_passes_22 : decode cX7_passes 22 = .ok (.pop, 1) := by decide +kernel
theorem dX7_passes_23 : decode cX7_passes 23 = .ok (.iconst 0, 1) := by decide +kernel
theorem dX7_passes_24 : decode cX7_passes 24 = .ok (.istore 5, 2) := by decide +kernel
theorem dX7_passes_26 : decode cX7_passes 26 = .ok (.iload 5, 2) := by decide +kernel
theorem dX7_passes_28 : decode cX7_passes 28 = .ok (.aload_n 0, 1) := by decide +kernel
theorem dX7_passes_29 : decode cX7_passes 29 = .ok (.getfield 179, 3) := by decide +kernel
theorem dX7_passes_32 : decode cX7_passes 32 = .ok (.if_icmp .ge 78, 3) := by decide +kernel
theorem dX7_passes_35 : decode cX7_passes 35 = .ok (.aload_n 1, 1) := by decide +kernel
theorem dX7_passes_36 : decode cX7_passes 36 = .ok (.bipush 9, 2) := by decide +kernel
theorem dX7_passes_38 : decode cX7_passes 38 = .ok (.iload 5, 2) := by decide +kernel
theorem dX7_passes_40 : decode cX7_passes 40 = .ok (.iadd, 1) := by decide +kernel
theorem dX7_passes_41 : decode cX7_passes 41 = .ok (.iaload, 1) := by decide +kernel
theorem dX7_passes_42 : decode cX7_passes 42 = .ok (.aload_n 0, 1) := by decide +kernel
theorem dX7_passes_43 : decode cX7_passes 43 = .ok (.getfield 59, 3) := by decide +kernel
theorem dX7_passes_46 : decode cX7_passes 46 = .ok (.iload 5, 2) := by decide +kernel
theorem dX7_passes_48 : decode cX7_passes 48 = .ok (.iaload, 1) := by decide +kernel
theorem dX7_passes_49 : decode cX7_passes 49 = .ok (.iadd, 1) := by decide +kernel
theorem dX7_passes_50 : decode cX7_passes 50 = .ok (.istore 6, 2) := by decide +kernel
theorem dX7_passes_52 : decode cX7_passes 52 = .ok (.iload 6, 2) := by decide +kernel
theorem dX7_passes_54 : decode cX7_passes 54 = .ok (.aload_n 0, 1) := by decide +kernel
theorem dX7_passes_55 : decode cX7_passes 55 = .ok (.getfield 38, 3) := by decide +kernel
theorem dX7_passes_58 : decode cX7_passes 58 = .ok (.iload 5, 2) := by decide +kernel
theorem dX7_passes_60 : decode cX7_passes 60 = .ok (.iaload, 1) := by decide +kernel
theorem dX7_passes_61 : decode cX7_passes 61 = .ok (.if_icmp .le 16, 3) := by decide +kernel
theorem dX7_passes_64 : decode cX7_passes 64 = .ok (.iload 6, 2) := by decide +kernel
theorem dX7_passes_66 : decode cX7_passes 66 = .ok (.aload_n 0, 1) := by decide +kernel
theorem dX7_passes_67 : decode cX7_passes 67 = .ok (.getfield 38, 3) := by decide +kernel
theorem dX7_passes_70 : decode cX7_passes 70 = .ok (.iload 5, 2) := by decide +kernel
theorem dX7_passes_72 : decode cX7_passes 72 = .ok (.iaload, 1) := by decide +kernel
theorem dX7_passes_73 : decode cX7_passes 73 = .ok (.isub, 1) := by decide +kernel
theorem dX7_passes_74 : decode cX7_passes 74 = .ok (.goto 4, 3) := by decide +kernel
theorem dX7_passes_77 : decode cX7_passes 77 = .ok (.iconst 0, 1) := by decide +kernel
theorem dX7_passes_78 : decode cX7_passes 78 = .ok (.istore 7, 2) := by decide +kernel
theorem dX7_passes_80 : decode cX7_passes 80 = .ok (.aload_n 1, 1) := by decide +kernel
theorem dX7_passes_81 : decode cX7_passes 81 = .ok (.bipush 9, 2) := by decide +kernel
theorem dX7_passes_83 : decode cX7_passes 83 = .ok (.iload 5, 2) := by decide +kernel
theorem dX7_passes_85 : decode cX7_passes 85 = .ok (.iadd, 1) := by decide +kernel
theorem dX7_passes_86 : decode cX7_passes 86 = .ok (.iload 6, 2) := by decide +kernel
theorem dX7_passes_88 : decode cX7_passes 88 = .ok (.iload 7, 2) := by decide +kernel
theorem dX7_passes_90 : decode cX7_passes 90 = .ok (.isub, 1) := by decide +kernel
theorem dX7_passes_91 : decode cX7_passes 91 = .ok (.iastore, 1) := by decide +kernel
theorem dX7_passes_92 : decode cX7_passes 92 = .ok (.aload_n 1, 1) := by decide +kernel
theorem dX7_passes_93 : decode cX7_passes 93 = .ok (.iconst 3, 1) := by decide +kernel
theorem dX7_passes_94 : decode cX7_passes 94 = .ok (.aload_n 1, 1) := by decide +kernel
theorem dX7_passes_95 : decode cX7_passes 95 = .ok (.iconst 3, 1) := by decide +kernel
theorem dX7_passes_96 : decode cX7_passes 96 = .ok (.iaload, 1) := by decide +kernel
theorem dX7_passes_97 : decode cX7_passes 97 = .ok (.iload 7, 2) := by decide +kernel
theorem dX7_passes_99 : decode cX7_passes 99 = .ok (.iadd, 1) := by decide +kernel
theorem dX7_passes_100 : decode cX7_passes 100 = .ok (.invokestatic 241, 3) := by decide +kernel
theorem dX7_passes_103 : decode cX7_passes 103 = .ok (.iastore, 1) := by decide +kernel
theorem dX7_passes_104 : decode cX7_passes 104 = .ok (.iinc 5 1, 3) := by decide +kernel
theorem dX7_passes_107 : decode cX7_passes 107 = .ok (.goto (-81), 3) := by decide +kernel
theorem dX7_passes_110 : decode cX7_passes 110 = .ok (.aload_n 1, 1) := by decide +kernel
theorem dX7_passes_111 : decode cX7_passes 111 = .ok (.iconst 1, 1) := by decide +kernel
theorem dX7_passes_112 : decode cX7_passes 112 = .ok (.dup2, 1) := by decide +kernel
theorem dX7_passes_113 : decode cX7_passes 113 = .ok (.iaload, 1) := by decide +kernel
theorem dX7_passes_114 : decode cX7_passes 114 = .ok (.iconst 1, 1) := by decide +kernel
theorem dX7_passes_115 : decode cX7_passes 115 = .ok (.iadd, 1) := by decide +kernel
theorem dX7_passes_116 : decode cX7_passes 116 = .ok (.iastore, 1) := by decide +kernel
theorem dX7_passes_117 : decode cX7_passes 117 = .ok (.aload_n 1, 1) := by decide +kernel
theorem dX7_passes_118 : decode cX7_passes 118 = .ok (.iconst 1, 1) := by decide +kernel
theorem dX7_passes_119 : decode cX7_passes 119 = .ok (.iaload, 1) := by decide +kernel
theorem dX7_passes_120 : decode cX7_passes 120 = .ok (.aload_n 0, 1) := by decide +kernel
theorem dX7_passes_121 : decode cX7_passes 121 = .ok (.invokevirtual 205, 3) := by decide +kernel
theorem dX7_passes_124 : decode cX7_passes 124 = .ok (.if_icmp .ne 43, 3) := by decide +kernel
theorem dX7_passes_127 : decode cX7_passes 127 = .ok (.iload 4, 2) := by decide +kernel
theorem dX7_passes_129 : decode cX7_passes 129 = .ok (.ifCond .eq 17, 3) := by decide +kernel
theorem dX7_passes_132 : decode cX7_passes 132 = .ok (.aload_n 0, 1) := by decide +kernel
theorem dX7_passes_133 : decode cX7_passes 133 = .ok (.aload_n 1, 1) := by decide +kernel
theorem dX7_passes_134 : decode cX7_passes 134 = .ok (.iconst 0, 1) := by decide +kernel
theorem dX7_passes_135 : decode cX7_passes 135 = .ok (.invokevirtual 253, 3) := by decide +kernel
theorem dX7_passes_138 : decode cX7_passes 138 = .ok (.pop, 1) := by decide +kernel
theorem dX7_passes_139 : decode cX7_passes 139 = .ok (.aload_n 0, 1) := by decide +kernel
theorem dX7_passes_140 : decode cX7_passes 140 = .ok (.aload_n 1, 1) := by decide +kernel
theorem dX7_passes_141 : decode cX7_passes 141 = .ok (.iconst 1, 1) := by decide +kernel
theorem dX7_passes_142 : decode cX7_passes 142 = .ok (.invokevirtual 253, 3) := by decide +kernel
theorem dX7_passes_145 : decode cX7_passes 145 = .ok (.pop, 1) := by decide +kernel
theorem dX7_passes_146 : decode cX7_passes 146 = .ok (.aload_n 0, 1) := by decide +kernel
theorem dX7_passes_147 : decode cX7_passes 147 = .ok (.aload_n 1, 1) := by decide +kernel
theorem dX7_passes_148 : decode cX7_passes 148 = .ok (.invokevirtual 256, 3) := by decide +kernel
theorem dX7_passes_151 : decode cX7_passes 151 = .ok (.aload_n 0, 1) := by decide +kernel
theorem dX7_passes_152 : decode cX7_passes 152 = .ok (.aload_n 1, 1) := by decide +kernel
theorem dX7_passes_153 : decode cX7_passes 153 = .ok (.invokevirtual 260, 3) := by decide +kernel
theorem dX7_passes_156 : decode cX7_passes 156 = .ok (.aload_n 1, 1) := by decide +kernel
theorem dX7_passes_157 : decode cX7_passes 157 = .ok (.iconst 1, 1) := by decide +kernel
theorem dX7_passes_158 : decode cX7_passes 158 = .ok (.iconst 0, 1) := by decide +kernel
theorem dX7_passes_159 : decode cX7_passes 159 = .ok (.iastore, 1) := by decide +kernel
theorem dX7_passes_160 : decode cX7_passes 160 = .ok (.aload_n 1, 1) := by decide +kernel
theorem dX7_passes_161 : decode cX7_passes 161 = .ok (.iconst 0, 1) := by decide +kernel
theorem dX7_passes_162 : decode cX7_passes 162 = .ok (.dup2, 1) := by decide +kernel
theorem dX7_passes_163 : decode cX7_passes 163 = .ok (.iaload, 1) := by decide +kernel
theorem dX7_passes_164 : decode cX7_passes 164 = .ok (.iconst 1, 1) := by decide +kernel
theorem dX7_passes_165 : decode cX7_passes 165 = .ok (.iadd, 1) := by decide +kernel
theorem dX7_passes_166 : decode cX7_passes 166 = .ok (.iastore, 1) := by decide +kernel
theorem dX7_passes_167 : decode cX7_passes 167 = .ok (.aload_n 0, 1) := by decide +kernel
theorem dX7_passes_168 : decode cX7_passes 168 = .ok (.invokevirtual 263, 3) := by decide +kernel
theorem dX7_passes_171 : decode cX7_passes 171 = .ok (.ireturn, 1) := by decide +kernel
theorem dX7_passesOn_0 : decode cX7_passesOn 0 = .ok (.aload_n 0, 1) := by decide +kernel
theorem dX7_passesOn_1 : decode cX7_passesOn 1 = .ok (.aload_n 1, 1) := by decide +kernel
theorem dX7_passesOn_2 : decode cX7_passesOn 2 = .ok (.aload_n 0, 1) := by decide +kernel
theorem dX7_passesOn_3 : decode cX7_passesOn 3 = .ok (.aload_n 1, 1) := by decide +kernel
theorem dX7_passesOn_4 : decode cX7_passesOn 4 = .ok (.invokevirtual 224, 3) := by decide +kernel
theorem dX7_passesOn_7 : decode cX7_passesOn 7 = .ok (.aload_n 0, 1) := by decide +kernel
theorem dX7_passesOn_8 : decode cX7_passesOn 8 = .ok (.aload_n 1, 1) := by decide +kernel
theorem dX7_passesOn_9 : decode cX7_passesOn 9 = .ok (.invokevirtual 221, 3) := by decide +kernel
theorem dX7_passesOn_12 : decode cX7_passesOn 12 = .ok (.iconst 0, 1) := by decide +kernel
theorem dX7_passesOn_13 : decode cX7_passesOn 13 = .ok (.invokevirtual 266, 3) := by decide +kernel
theorem dX7_passesOn_16 : decode cX7_passesOn 16 = .ok (.ireturn, 1) := by decide +kernel
theorem dX7_remember_0 : decode cX7_remember 0 = .ok (.iconst 0, 1) := by decide +kernel
theorem dX7_remember_1 : decode cX7_remember 1 = .ok (.istore_n 1, 1) := by decide +kernel
theorem dX7_remember_2 : decode cX7_remember 2 = .ok (.iload_n 1, 1) := by decide +kernel
theorem dX7_remember_3 : decode cX7_remember 3 = .ok (.bipush 27, 2) := by decide +kernel
theorem dX7_remember_5 : decode cX7_remember 5 = .ok (.if_icmp .ge 29, 3) := by decide +kernel
theorem dX7_remember_8 : decode cX7_remember 8 = .ok (.aload_n 0, 1) := by decide +kernel
theorem dX7_remember_9 : decode cX7_remember 9 = .ok (.getfield 62, 3) := by decide +kernel
theorem dX7_remember_12 : decode cX7_remember 12 = .ok (.bipush 27, 2) := by decide +kernel
theorem dX7_remember_14 : decode cX7_remember 14 = .ok (.aload_n 0, 1) := by decide +kernel
theorem dX7_remember_15 : decode cX7_remember 15 = .ok (.getfield 270, 3) := by decide +kernel
theorem dX7_remember_18 : decode cX7_remember 18 = .ok (.imul, 1) := by decide +kernel
theorem dX7_remember_19 : decode cX7_remember 19 = .ok (.iload_n 1, 1) := by decide +kernel
theorem dX7_remember_20 : decode cX7_remember 20 = .ok (.iadd, 1) := by decide +kernel
theorem dX7_remember_21 : decode cX7_remember 21 = .ok (.aload_n 0, 1) := by decide +kernel
theorem dX7_remember_22 : decode cX7_remember 22 = .ok (.getfield 53, 3) := by decide +kernel
theorem dX7_remember_25 : decode cX7_remember 25 = .ok (.iload_n 1, 1) := by decide +kernel
theorem dX7_remember_26 : decode cX7_remember 26 = .ok (.iaload, 1) := by decide +kernel
theorem dX7_remember_27 : decode cX7_remember 27 = .ok (.iastore, 1) := by decide +kernel
theorem dX7_remember_28 : decode cX7_remember 28 = .ok (.iinc 1 1, 3) := by decide +kernel
theorem dX7_remember_31 : decode cX7_remember 31 = .ok (.goto (-29), 3) := by decide +kernel
theorem dX7_remember_34 : decode cX7_remember 34 = .ok (.aload_n 0, 1) := by decide +kernel
theorem dX7_remember_35 : decode cX7_remember 35 = .ok (.aload_n 0, 1) := by decide +kernel
theorem dX7_remember_36 : decode cX7_remember 36 = .ok (.getfield 270, 3) := by decide +kernel
theorem dX7_remember_39 : decode cX7_remember 39 = .ok (.iconst 1, 1) := by decide +kernel
theorem dX7_remember_40 : decode cX7_remember 40 = .ok (.iadd, 1) := by decide +kernel
theorem dX7_remember_41 : decode cX7_remember 41 = .ok (.bipush 30, 2) := by decide +kernel
theorem dX7_remember_43 : decode cX7_remember 43 = .ok (.irem, 1) := by decide +kernel
theorem dX7_remember_44 : decode cX7_remember 44 = .ok (.putfield 270, 3) := by decide +kernel
theorem dX7_remember_47 : decode cX7_remember 47 = .ok (.aload_n 0, 1) := by decide +kernel
theorem dX7_remember_48 : decode cX7_remember 48 = .ok (.dup, 1) := by decide +kernel
theorem dX7_remember_49 : decode cX7_remember 49 = .ok (.getfield 194, 3) := by decide +kernel
theorem dX7_remember_52 : decode cX7_remember 52 = .ok (.aload_n 0, 1) := by decide +kernel
theorem dX7_remember_53 : decode cX7_remember 53 = .ok (.getfield 194, 3) := by decide +kernel
theorem dX7_remember_56 : decode cX7_remember 56 = .ok (.bipush 30, 2) := by decide +kernel
theorem dX7_remember_58 : decode cX7_remember 58 = .ok (.if_icmp .ge 7, 3) := by decide +kernel
theorem dX7_remember_61 : decode cX7_remember 61 = .ok (.iconst 1, 1) := by decide +kernel
theorem dX7_remember_62 : decode cX7_remember 62 = .ok (.goto 4, 3) := by decide +kernel
theorem dX7_remember_65 : decode cX7_remember 65 = .ok (.iconst 0, 1) := by decide +kernel
theorem dX7_remember_66 : decode cX7_remember 66 = .ok (.iadd, 1) := by decide +kernel
theorem dX7_remember_67 : decode cX7_remember 67 = .ok (.putfield 194, 3) := by decide +kernel
theorem dX7_remember_70 : decode cX7_remember 70 = .ok (.return_, 1) := by decide +kernel
theorem dX7_need_0 : decode cX7_need 0 = .ok (.iload_n 1, 1) := by decide +kernel
theorem dX7_need_1 : decode cX7_need 1 = .ok (.ifCond .ne 8, 3) := by decide +kernel
theorem dX7_need_4 : decode cX7_need 4 = .ok (.ldc 89, 2) := by decide +kernel
theorem dX7_need_6 : decode cX7_need 6 = .ok (.goto 16, 3) := by decide +kernel
theorem dX7_need_9 : decode cX7_need 9 = .ok (.aload_n 0, 1) := by decide +kernel
theorem dX7_need_10 : decode cX7_need 10 = .ok (.getfield 170, 3) := by decide +kernel
theorem dX7_need_13 : decode cX7_need 13 = .ok (.ifCond .ne 8, 3) := by decide +kernel
theorem dX7_need_16 : decode cX7_need 16 = .ok (.ldc 220, 2) := by decide +kernel
theorem dX7_need_18 : decode cX7_need 18 = .ok (.goto 4, 3) := by decide +kernel
theorem dX7_need_21 : decode cX7_need 21 = .ok (.iconst 0, 1) := by decide +kernel
theorem dX7_need_22 : decode cX7_need 22 = .ok (.ireturn, 1) := by decide +kernel
theorem dX7_hour_0 : decode cX7_hour 0 = .ok (.aload_n 0, 1) := by decide +kernel
theorem dX7_hour_1 : decode cX7_hour 1 = .ok (.iload_n 1, 1) := by decide +kernel
theorem dX7_hour_2 : decode cX7_hour 2 = .ok (.iconst 1, 1) := by decide +kernel
theorem dX7_hour_3 : decode cX7_hour 3 = .ok (.bipush 60, 2) := by decide +kernel
theorem dX7_hour_5 : decode cX7_hour 5 = .ok (.invokestatic 85, 3) := by decide +kernel
theorem dX7_hour_8 : decode cX7_hour 8 = .ok (.invokevirtual 273, 3) := by decide +kernel
theorem dX7_hour_11 : decode cX7_hour 11 = .ok (.istore_n 2, 1) := by decide +kernel
theorem dX7_hour_12 : decode cX7_hour 12 = .ok (.iload_n 2, 1) := by decide +kernel
theorem dX7_hour_13 : decode cX7_hour 13 = .ok (.ifCond .ge 5, 3) := by decide +kernel
theorem dX7_hour_16 : decode cX7_hour 16 = .ok (.iload_n 2, 1) := by decide +kernel
theorem dX7_hour_17 : decode cX7_hour 17 = .ok (.ireturn, 1) := by decide +kernel
theorem dX7_hour_18 : decode cX7_hour 18 = .ok (.aload_n 0, 1) := by decide +kernel
theorem dX7_hour_19 : decode cX7_hour 19 = .ok (.getfield 53, 3) := by decide +kernel
theorem dX7_hour_22 : decode cX7_hour 22 = .ok (.iconst 0, 1) := by decide +kernel
theorem dX7_hour_23 : decode cX7_hour 23 = .ok (.iaload, 1) := by decide +kernel
theorem dX7_hour_24 : decode cX7_hour 24 = .ok (.sipush 9000, 3) := by decide +kernel
theorem dX7_hour_27 : decode cX7_hour 27 = .ok (.if_icmp .le 6, 3) := by decide +kernel
theorem dX7_hour_30 : decode cX7_hour 30 = .ok (.ldc 93, 2) := by decide +kernel
theorem dX7_hour_32 : decode cX7_hour 32 = .ok (.ireturn, 1) := by decide +kernel
theorem dX7_hour_33 : decode cX7_hour 33 = .ok (.iconst 0, 1) := by decide +kernel
theorem dX7_hour_34 : decode cX7_hour 34 = .ok (.istore_n 3, 1) := by decide +kernel
theorem dX7_hour_35 : decode cX7_hour 35 = .ok (.iconst 0, 1) := by decide +kernel
theorem dX7_hour_36 : decode cX7_hour 36 = .ok (.istore 4, 2) := by decide +kernel
theorem dX7_hour_38 : decode cX7_hour 38 = .ok (.iload 4, 2) := by decide +kernel
theorem dX7_hour_40 : decode cX7_hour 40 = .ok (.iload_n 1, 1) := by decide +kernel
theorem dX7_hour_41 : decode cX7_hour 41 = .ok (.if_icmp .ge 24, 3) := by decide +kernel
theorem dX7_hour_44 : decode cX7_hour 44 = .ok (.aload_n 0, 1) := by decide +kernel
theorem dX7_hour_45 : decode cX7_hour 45 = .ok (.invokevirtual 277, 3) := by decide +kernel
theorem dX7_hour_48 : decode cX7_hour 48 = .ok (.iload_n 3, 1) := by decide +kernel
theorem dX7_hour_49 : decode cX7_hour 49 = .ok (.aload_n 0, 1) := by decide +kernel
theorem dX7_hour_50 : decode cX7_hour 50 = .ok (.aload_n 0, 1) := by decide +kernel
theorem dX7_hour_51 : decode cX7_hour 51 = .ok (.getfield 53, 3) := by decide +kernel
theorem dX7_hour_54 : decode cX7_hour 54 = .ok (.invokevirtual 280, 3) := by decide +kernel
theorem dX7_hour_57 : decode cX7_hour 57 = .ok (.iadd, 1) := by decide +kernel
theorem dX7_hour_58 : decode cX7_hour 58 = .ok (.istore_n 3, 1) := by decide +kernel
theorem dX7_hour_59 : decode cX7_hour 59 = .ok (.iinc 4 1, 3) := by decide +kernel
theorem dX7_hour_62 : decode cX7_hour 62 = .ok (.goto (-24), 3) := by decide +kernel
theorem dX7_hour_65 : decode cX7_hour 65 = .ok (.iload_n 3, 1) := by decide +kernel
theorem dX7_hour_66 : decode cX7_hour 66 = .ok (.ireturn, 1) := by decide +kernel
theorem dX7_carry_0 : decode cX7_carry 0 = .ok (.iload_n 1, 1) := by decide +kernel
theorem dX7_carry_1 : decode cX7_carry 1 = .ok (.invokestatic 227, 3) := by decide +kernel
theorem dX7_carry_4 : decode cX7_carry 4 = .ok (.ifCond .ne 6, 3) := by decide +kernel
theorem dX7_carry_7 : decode cX7_carry 7 = .ok (.ldc 219, 2) := by decide +kernel
theorem dX7_carry_9 : decode cX7_carry 9 = .ok (.ireturn, 1) := by decide +kernel
theorem dX7_carry_10 : decode cX7_carry 10 = .ok (.aload_n 0, 1) := by decide +kernel
theorem dX7_carry_11 : decode cX7_carry 11 = .ok (.getfield 170, 3) := by decide +kernel
theorem dX7_carry_14 : decode cX7_carry 14 = .ok (.ifCond .ne 6, 3) := by decide +kernel
theorem dX7_carry_17 : decode cX7_carry 17 = .ok (.ldc 220, 2) := by decide +kernel
theorem dX7_carry_19 : decode cX7_carry 19 = .ok (.ireturn, 1) := by decide +kernel
theorem dX7_carry_20 : decode cX7_carry 20 = .ok (.aload_n 0, 1) := by decide +kernel
theorem dX7_carry_21 : decode cX7_carry 21 = .ok (.invokevirtual 277, 3) := by decide +kernel
theorem dX7_carry_24 : decode cX7_carry 24 = .ok (.aload_n 0, 1) := by decide +kernel
theorem dX7_carry_25 : decode cX7_carry 25 = .ok (.aload_n 0, 1) := by decide +kernel
theorem dX7_carry_26 : decode cX7_carry 26 = .ok (.getfield 53, 3) := by decide +kernel
theorem dX7_carry_29 : decode cX7_carry 29 = .ok (.iload_n 1, 1) := by decide +kernel
theorem dX7_carry_30 : decode cX7_carry 30 = .ok (.invokevirtual 253, 3) := by decide +kernel
theorem dX7_carry_33 : decode cX7_carry 33 = .ok (.ireturn, 1) := by decide +kernel
theorem dX7_licks_0 : decode cX7_licks 0 = .ok (.aload_n 0, 1) := by decide +kernel
theorem dX7_licks_1 : decode cX7_licks 1 = .ok (.getfield 53, 3) := by decide +kernel
theorem dX7_licks_4 : decode cX7_licks 4 = .ok (.bipush 9, 2) := by decide +kernel
theorem dX7_licks_6 : decode cX7_licks 6 = .ok (.iload_n 1, 1) := by decide +kernel
theorem dX7_licks_7 : decode cX7_licks 7 = .ok (.iadd, 1) := by decide +kernel
theorem dX7_licks_8 : decode cX7_licks 8 = .ok (.aload_n 0, 1) := by decide +kernel
theorem dX7_licks_9 : decode cX7_licks 9 = .ok (.getfield 53, 3) := by decide +kernel
theorem dX7_licks_12 : decode cX7_licks 12 = .ok (.bipush 9, 2) := by decide +kernel
theorem dX7_licks_14 : decode cX7_licks 14 = .ok (.iload_n 1, 1) := by decide +kernel
theorem dX7_licks_15 : decode cX7_licks 15 = .ok (.iadd, 1) := by decide +kernel
theorem dX7_licks_16 : decode cX7_licks 16 = .ok (.iaload, 1) := by decide +kernel
theorem dX7_licks_17 : decode cX7_licks 17 = .ok (.iload_n 2, 1) := by decide +kernel
theorem dX7_licks_18 : decode cX7_licks 18 = .ok (.if_icmp .le 17, 3) := by decide +kernel
theorem dX7_licks_21 : decode cX7_licks 21 = .ok (.aload_n 0, 1) := by decide +kernel
theorem dX7_licks_22 : decode cX7_licks 22 = .ok (.getfield 53, 3) := by decide +kernel
theorem dX7_licks_25 : decode cX7_licks 25 = .ok (.bipush 9, 2) := by decide +kernel
theorem dX7_licks_27 : decode cX7_licks 27 = .ok (.iload_n 1, 1) := by decide +kernel
theorem dX7_licks_28 : decode cX7_licks 28 = .ok (.iadd, 1) := by decide +kernel
theorem dX7_licks_29 : decode cX7_licks 29 = .ok (.iaload, 1) := by decide +kernel
theorem dX7_licks_30 : decode cX7_licks 30 = .ok (.iload_n 2, 1) := by decide +kernel
theorem dX7_licks_31 : decode cX7_licks 31 = .ok (.isub, 1) := by decide +kernel
theorem dX7_licks_32 : decode cX7_licks 32 = .ok (.goto 4, 3) := by decide +kernel
theorem dX7_licks_35 : decode cX7_licks 35 = .ok (.iconst 0, 1) := by decide +kernel
theorem dX7_licks_36 : decode cX7_licks 36 = .ok (.iastore, 1) := by decide +kernel
theorem dX7_licks_37 : decode cX7_licks 37 = .ok (.return_, 1) := by decide +kernel
theorem dX7_lick_0 : decode cX7_lick 0 = .ok (.aload_n 0, 1) := by decide +kernel
theorem dX7_lick_1 : decode cX7_lick 1 = .ok (.iload_n 1, 1) := by decide +kernel
theorem dX7_lick_2 : decode cX7_lick 2 = .ok (.invokevirtual 216, 3) := by decide +kernel
theorem dX7_lick_5 : decode cX7_lick 5 = .ok (.ifCond .ne 6, 3) := by decide +kernel
theorem dX7_lick_8 : decode cX7_lick 8 = .ok (.ldc 219, 2) := by decide +kernel
theorem dX7_lick_10 : decode cX7_lick 10 = .ok (.ireturn, 1) := by decide +kernel
theorem dX7_lick_11 : decode cX7_lick 11 = .ok (.iload_n 2, 1) := by decide +kernel
theorem dX7_lick_12 : decode cX7_lick 12 = .ok (.iconst 1, 1) := by decide +kernel
theorem dX7_lick_13 : decode cX7_lick 13 = .ok (.bipush 99, 2) := by decide +kernel
theorem dX7_lick_15 : decode cX7_lick 15 = .ok (.invokestatic 85, 3) := by decide +kernel
theorem dX7_lick_18 : decode cX7_lick 18 = .ok (.ifCond .ne 6, 3) := by decide +kernel
theorem dX7_lick_21 : decode cX7_lick 21 = .ok (.ldc 89, 2) := by decide +kernel
theorem dX7_lick_23 : decode cX7_lick 23 = .ok (.ireturn, 1) := by decide +kernel
theorem dX7_lick_24 : decode cX7_lick 24 = .ok (.aload_n 0, 1) := by decide +kernel
theorem dX7_lick_25 : decode cX7_lick 25 = .ok (.invokevirtual 277, 3) := by decide +kernel
theorem dX7_lick_28 : decode cX7_lick 28 = .ok (.aload_n 0, 1) := by decide +kernel
theorem dX7_lick_29 : decode cX7_lick 29 = .ok (.iload_n 1, 1) := by decide +kernel
theorem dX7_lick_30 : decode cX7_lick 30 = .ok (.iload_n 2, 1) := by decide +kernel
theorem dX7_lick_31 : decode cX7_lick 31 = .ok (.invokevirtual 283, 3) := by decide +kernel
theorem dX7_lick_34 : decode cX7_lick 34 = .ok (.aload_n 0, 1) := by decide +kernel
theorem dX7_lick_35 : decode cX7_lick 35 = .ok (.getfield 53, 3) := by decide +kernel
theorem dX7_lick_38 : decode cX7_lick 38 = .ok (.bipush 9, 2) := by decide +kernel
theorem dX7_lick_40 : decode cX7_lick 40 = .ok (.iload_n 1, 1) := by decide +kernel
theorem dX7_lick_41 : decode cX7_lick 41 = .ok (.iadd, 1) := by decide +kernel
theorem dX7_lick_42 : decode cX7_lick 42 = .ok (.iaload, 1) := by decide +kernel
theorem dX7_lick_43 : decode cX7_lick 43 = .ok (.ireturn, 1) := by decide +kernel
theorem dX7_mesh_0 : decode cX7_mesh 0 = .ok (.aload_n 0, 1) := by decide +kernel
theorem dX7_mesh_1 : decode cX7_mesh 1 = .ok (.iload_n 1, 1) := by decide +kernel
theorem dX7_mesh_2 : decode cX7_mesh 2 = .ok (.invokevirtual 216, 3) := by decide +kernel
theorem dX7_mesh_5 : decode cX7_mesh 5 = .ok (.ifCond .ne 6, 3) := by decide +kernel
theorem dX7_mesh_8 : decode cX7_mesh 8 = .ok (.ldc 219, 2) := by decide +kernel
theorem dX7_mesh_10 : decode cX7_mesh 10 = .ok (.ireturn, 1) := by decide +kernel
theorem dX7_mesh_11 : decode cX7_mesh 11 = .ok (.iload_n 2, 1) := by decide +kernel
theorem dX7_mesh_12 : decode cX7_mesh 12 = .ok (.iconst 0, 1) := by decide +kernel
theorem dX7_mesh_13 : decode cX7_mesh 13 = .ok (.bipush 9, 2) := by decide +kernel
theorem dX7_mesh_15 : decode cX7_mesh 15 = .ok (.invokestatic 85, 3) := by decide +kernel
theorem dX7_mesh_18 : decode cX7_mesh 18 = .ok (.ifCond .ne 6, 3) := by decide +kernel
theorem dX7_mesh_21 : decode cX7_mesh 21 = .ok (.ldc 89, 2) := by decide +kernel
theorem dX7_mesh_23 : decode cX7_mesh 23 = .ok (.ireturn, 1) := by decide +kernel
theorem dX7_mesh_24 : decode cX7_mesh 24 = .ok (.aload_n 0, 1) := by decide +kernel
theorem dX7_mesh_25 : decode cX7_mesh 25 = .ok (.invokevirtual 277, 3) := by decide +kernel
theorem dX7_mesh_28 : decode cX7_mesh 28 = .ok (.aload_n 0, 1) := by decide +kernel
theorem dX7_mesh_29 : decode cX7_mesh 29 = .ok (.getfield 53, 3) := by decide +kernel
theorem dX7_mesh_32 : decode cX7_mesh 32 = .ok (.bipush 21, 2) := by decide +kernel
theorem dX7_mesh_34 : decode cX7_mesh 34 = .ok (.iload_n 1, 1) := by decide +kernel
theorem dX7_mesh_35 : decode cX7_mesh 35 = .ok (.iadd, 1) := by decide +kernel
theorem dX7_mesh_36 : decode cX7_mesh 36 = .ok (.iaload, 1) := by decide +kernel
theorem dX7_mesh_37 : decode cX7_mesh 37 = .ok (.istore_n 3, 1) := by decide +kernel
theorem dX7_mesh_38 : decode cX7_mesh 38 = .ok (.aload_n 0, 1) := by decide +kernel
theorem dX7_mesh_39 : decode cX7_mesh 39 = .ok (.getfield 53, 3) := by decide +kernel
theorem dX7_mesh_42 : decode cX7_mesh 42 = .ok (.bipush 21, 2) := by decide +kernel
theorem dX7_mesh_44 : decode cX7_mesh 44 = .ok (.iload_n 1, 1) := by decide +kernel
theorem dX7_mesh_45 : decode cX7_mesh 45 = .ok (.iadd, 1) := by decide +kernel
theorem dX7_mesh_46 : decode cX7_mesh 46 = .ok (.iload_n 2, 1) := by decide +kernel
theorem dX7_mesh_47 : decode cX7_mesh 47 = .ok (.iastore, 1) := by decide +kernel
theorem dX7_mesh_48 : decode cX7_mesh 48 = .ok (.iload_n 3, 1) := by decide +kernel
theorem dX7_mesh_49 : decode cX7_mesh 49 = .ok (.ireturn, 1) := by decide +kernel
theorem dX7_move_0 : decode cX7_move 0 = .ok (.aload_n 0, 1) := by decide +kernel
theorem dX7_move_1 : decode cX7_move 1 = .ok (.iload_n 1, 1) := by decide +kernel
theorem dX7_move_2 : decode cX7_move 2 = .ok (.invokevirtual 216, 3) := by decide +kernel
theorem dX7_move_5 : decode cX7_move 5 = .ok (.ifCond .eq 11, 3) := by decide +kernel
theorem dX7_move_8 : decode cX7_move 8 = .ok (.aload_n 0, 1) := by decide +kernel
theorem dX7_move_9 : decode cX7_move 9 = .ok (.iload_n 2, 1) := by decide +kernel
theorem dX7_move_10 : decode cX7_move 10 = .ok (.invokevirtual 287, 3) := by decide +kernel
theorem dX7_move_13 : decode cX7_move 13 = .ok (.ifCond .ne 6, 3) := by decide +kernel
theorem dX7_move_16 : decode cX7_move 16 = .ok (.ldc 219, 2) := by decide +kernel
theorem dX7_move_18 : decode cX7_move 18 = .ok (.ireturn, 1) := by decide +kernel
theorem dX7_move_19 : decode cX7_move 19 = .ok (.aload_n 0, 1) := by decide +kernel
theorem dX7_move_20 : decode cX7_move 20 = .ok (.aload_n 0, 1) := by decide +kernel
theorem dX7_move_21 : decode cX7_move 21 = .ok (.getfield 53, 3) := by decide +kernel
theorem dX7_move_24 : decode cX7_move 24 = .ok (.iload_n 2, 1) := by decide +kernel
theorem dX7_move_25 : decode cX7_move 25 = .ok (.invokevirtual 233, 3) := by decide +kernel
theorem dX7_move_28 : decode cX7_move 28 = .ok (.iconst (-1), 1) := by decide +kernel
theorem dX7_move_29 : decode cX7_move 29 = .ok (.if_icmp .eq 6, 3) := by decide +kernel
theorem dX7_move_32 : decode cX7_move 32 = .ok (.ldc 220, 2) := by decide +kernel
theorem dX7_move_34 : decode cX7_move 34 = .ok (.ireturn, 1) := by decide +kernel
theorem dX7_move_35 : decode cX7_move 35 = .ok (.aload_n 0, 1) := by decide +kernel
theorem dX7_move_36 : decode cX7_move 36 = .ok (.invokevirtual 277, 3) := by decide +kernel
theorem dX7_move_39 : decode cX7_move 39 = .ok (.aload_n 0, 1) := by decide +kernel
theorem dX7_move_40 : decode cX7_move 40 = .ok (.getfield 53, 3) := by decide +kernel
theorem dX7_move_43 : decode cX7_move 43 = .ok (.bipush 15, 2) := by decide +kernel
theorem dX7_move_45 : decode cX7_move 45 = .ok (.iload_n 1, 1) := by decide +kernel
theorem dX7_move_46 : decode cX7_move 46 = .ok (.iadd, 1) := by decide +kernel
theorem dX7_move_47 : decode cX7_move 47 = .ok (.iaload, 1) := by decide +kernel
theorem dX7_move_48 : decode cX7_move 48 = .ok (.istore_n 3, 1) := by decide +kernel
theorem dX7_move_49 : decode cX7_move 49 = .ok (.aload_n 0, 1) := by decide +kernel
theorem dX7_move_50 : decode cX7_move 50 = .ok (.getfield 53, 3) := by decide +kernel
theorem dX7_move_53 : decode cX7_move 53 = .ok (.bipush 15, 2) := by decide +kernel
theorem dX7_move_55 : decode cX7_move 55 = .ok (.iload_n 1, 1) := by decide +kernel
theorem dX7_move_56 : decode cX7_move 56 = .ok (.iadd, 1) := by decide +kernel
theorem dX7_move_57 : decode cX7_move 57 = .ok (.iload_n 2, 1) := by decide +kernel
theorem dX7_move_58 : decode cX7_move 58 = .ok (.iastore, 1) := by decide +kernel
theorem dX7_move_59 : decode cX7_move 59 = .ok (.iload_n 3, 1) := by decide +kernel
theorem dX7_move_60 : decode cX7_move 60 = .ok (.ireturn, 1) := by decide +kernel
theorem dX7_lamp_0 : decode cX7_lamp 0 = .ok (.aload_n 0, 1) := by decide +kernel
theorem dX7_lamp_1 : decode cX7_lamp 1 = .ok (.getfield 170, 3) := by decide +kernel
theorem dX7_lamp_4 : decode cX7_lamp 4 = .ok (.ifCond .ne 6, 3) := by decide +kernel
theorem dX7_lamp_7 : decode cX7_lamp 7 = .ok (.ldc 220, 2) := by decide +kernel
theorem dX7_lamp_9 : decode cX7_lamp 9 = .ok (.ireturn, 1) := by decide +kernel
theorem dX7_lamp_10 : decode cX7_lamp 10 = .ok (.aload_n 0, 1) := by decide +kernel
theorem dX7_lamp_11 : decode cX7_lamp 11 = .ok (.invokevirtual 277, 3) := by decide +kernel
theorem dX7_lamp_14 : decode cX7_lamp 14 = .ok (.aload_n 0, 1) := by decide +kernel
theorem dX7_lamp_15 : decode cX7_lamp 15 = .ok (.getfield 53, 3) := by decide +kernel
theorem dX7_lamp_18 : decode cX7_lamp 18 = .ok (.iconst 2, 1) := by decide +kernel
theorem dX7_lamp_19 : decode cX7_lamp 19 = .ok (.iaload, 1) := by decide +kernel
theorem dX7_lamp_20 : decode cX7_lamp 20 = .ok (.istore_n 2, 1) := by decide +kernel
theorem dX7_lamp_21 : decode cX7_lamp 21 = .ok (.aload_n 0, 1) := by decide +kernel
theorem dX7_lamp_22 : decode cX7_lamp 22 = .ok (.getfield 53, 3) := by decide +kernel
theorem dX7_lamp_25 : decode cX7_lamp 25 = .ok (.iconst 2, 1) := by decide +kernel
theorem dX7_lamp_26 : decode cX7_lamp 26 = .ok (.iload_n 1, 1) := by decide +kernel
theorem dX7_lamp_27 : decode cX7_lamp 27 = .ok (.ifCond .eq 7, 3) := by decide +kernel
theorem dX7_lamp_30 : decode cX7_lamp 30 = .ok (.iconst 1, 1) := by decide +kernel
theorem dX7_lamp_31 : decode cX7_lamp 31 = .ok (.goto 4, 3) := by decide +kernel
theorem dX7_lamp_34 : decode cX7_lamp 34 = .ok (.iconst 0, 1) := by decide +kernel
theorem dX7_lamp_35 : decode cX7_lamp 35 = .ok (.iastore, 1) := by decide +kernel
theorem dX7_lamp_36 : decode cX7_lamp 36 = .ok (.iload_n 2, 1) := by decide +kernel
theorem dX7_lamp_37 : decode cX7_lamp 37 = .ok (.ireturn, 1) := by decide +kernel
theorem dX7_draw_0 : decode cX7_draw 0 = .ok (.aload_n 0, 1) := by decide +kernel
theorem dX7_draw_1 : decode cX7_draw 1 = .ok (.aload_n 0, 1) := by decide +kernel
theorem dX7_draw_2 : decode cX7_draw 2 = .ok (.getfield 290, 3) := by decide +kernel
theorem dX7_draw_5 : decode cX7_draw 5 = .ok (.ldc2_w 294, 3) := by decide +kernel
theorem dX7_draw_8 : decode cX7_draw 8 = .ok (.lmul, 1) := by decide +kernel
theorem dX7_draw_9 : decode cX7_draw 9 = .ok (.ldc2_w 296, 3) := by decide +kernel
theorem dX7_draw_12 : decode cX7_draw 12 = .ok (.ladd, 1) := by decide +kernel
theorem dX7_draw_13 : decode cX7_draw 13 = .ok (.ldc2_w 298, 3) := by decide +kernel
theorem dX7_draw_16 : decode cX7_draw 16 = .ok (.lrem, 1) := by decide +kernel
theorem dX7_draw_17 : decode cX7_draw 17 = .ok (.putfield 290, 3) := by decide +kernel
theorem dX7_draw_20 : decode cX7_draw 20 = .ok (.aload_n 0, 1) := by decide +kernel
theorem dX7_draw_21 : decode cX7_draw 21 = .ok (.getfield 290, 3) := by decide +kernel
theorem dX7_draw_24 : decode cX7_draw 24 = .ok (.ldc2_w 300, 3) := by decide +kernel
theorem dX7_draw_27 : decode cX7_draw 27 = .ok (.ldiv, 1) := by decide +kernel
theorem dX7_draw_28 : decode cX7_draw 28 = .ok (.iload_n 1, 1) := by decide +kernel
theorem dX7_draw_29 : decode cX7_draw 29 = .ok (.i2l, 1) := by decide +kernel
theorem dX7_draw_30 : decode cX7_draw 30 = .ok (.lrem, 1) := by decide +kernel
theorem dX7_draw_31 : decode cX7_draw 31 = .ok (.l2i, 1) := by decide +kernel
theorem dX7_draw_32 : decode cX7_draw 32 = .ok (.ireturn, 1) := by decide +kernel
theorem dX7_drift_0 : decode cX7_drift 0 = .ok (.aload_n 0, 1) := by decide +kernel
theorem dX7_drift_1 : decode cX7_drift 1 = .ok (.iload_n 1, 1) := by decide +kernel
theorem dX7_drift_2 : decode cX7_drift 2 = .ok (.iconst 1, 1) := by decide +kernel
theorem dX7_drift_3 : decode cX7_drift 3 = .ok (.bipush 60, 2) := by decide +kernel
theorem dX7_drift_5 : decode cX7_drift 5 = .ok (.invokestatic 85, 3) := by decide +kernel
theorem dX7_drift_8 : decode cX7_drift 8 = .ok (.invokevirtual 273, 3) := by decide +kernel
theorem dX7_drift_11 : decode cX7_drift 11 = .ok (.istore_n 2, 1) := by decide +kernel
theorem dX7_drift_12 : decode cX7_drift 12 = .ok (.iload_n 2, 1) := by decide +kernel
theorem dX7_drift_13 : decode cX7_drift 13 = .ok (.ifCond .ge 5, 3) := by decide +kernel
theorem dX7_drift_16 : decode cX7_drift 16 = .ok (.iload_n 2, 1) := by decide +kernel
theorem dX7_drift_17 : decode cX7_drift 17 = .ok (.ireturn, 1) := by decide +kernel
theorem dX7_drift_18 : decode cX7_drift 18 = .ok (.aload_n 0, 1) := by decide +kernel
theorem dX7_drift_19 : decode cX7_drift 19 = .ok (.getfield 53, 3) := by decide +kernel
theorem dX7_drift_22 : decode cX7_drift 22 = .ok (.iconst 0, 1) := by decide +kernel
theorem dX7_drift_23 : decode cX7_drift 23 = .ok (.iaload, 1) := by decide +kernel
theorem dX7_drift_24 : decode cX7_drift 24 = .ok (.sipush 9000, 3) := by decide +kernel
theorem dX7_drift_27 : decode cX7_drift 27 = .ok (.if_icmp .le 6, 3) := by decide +kernel
theorem dX7_drift_30 : decode cX7_drift 30 = .ok (.ldc 93, 2) := by decide +kernel
theorem dX7_drift_32 : decode cX7_drift 32 = .ok (.ireturn, 1) := by decide +kernel
theorem dX7_drift_33 : decode cX7_drift 33 = .ok (.iconst 0, 1) := by decide +kernel
theorem dX7_drift_34 : decode cX7_drift 34 = .ok (.istore_n 3, 1) := by decide +kernel
theorem dX7_drift_35 : decode cX7_drift 35 = .ok (.iconst 0, 1) := by decide +kernel
theorem dX7_drift_36 : decode cX7_drift 36 = .ok (.istore 4, 2) := by decide +kernel
theorem dX7_drift_38 : decode cX7_drift 38 = .ok (.iload 4, 2) := by decide +kernel
theorem dX7_drift_40 : decode cX7_drift 40 = .ok (.iload_n 1, 1) := by decide +kernel
theorem dX7_drift_41 : decode cX7_drift 41 = .ok (.if_icmp .ge 86, 3) := by decide +kernel
theorem dX7_drift_44 : decode cX7_drift 44 = .ok (.aload_n 0, 1) := by decide +kernel
theorem dX7_drift_45 : decode cX7_drift 45 = .ok (.invokevirtual 277, 3) := by decide +kernel
theorem dX7_drift_48 : decode cX7_drift 48 = .ok (.aload_n 0, 1) := by decide +kernel
theorem dX7_drift_49 : decode cX7_drift 49 = .ok (.bipush 41, 2) := by decide +kernel
theorem dX7_drift_51 : decode cX7_drift 51 = .ok (.invokevirtual 302, 3) := by decide +kernel
theorem dX7_drift_54 : decode cX7_drift 54 = .ok (.istore 5, 2) := by decide +kernel
theorem dX7_drift_56 : decode cX7_drift 56 = .ok (.iload_n 3, 1) := by decide +kernel
theorem dX7_drift_57 : decode cX7_drift 57 = .ok (.aload_n 0, 1) := by decide +kernel
theorem dX7_drift_58 : decode cX7_drift 58 = .ok (.aload_n 0, 1) := by decide +kernel
theorem dX7_drift_59 : decode cX7_drift 59 = .ok (.getfield 53, 3) := by decide +kernel
theorem dX7_drift_62 : decode cX7_drift 62 = .ok (.iload 5, 2) := by decide +kernel
theorem dX7_drift_64 : decode cX7_drift 64 = .ok (.aload_n 0, 1) := by decide +kernel
theorem dX7_drift_65 : decode cX7_drift 65 = .ok (.iconst 2, 1) := by decide +kernel
theorem dX7_drift_66 : decode cX7_drift 66 = .ok (.invokevirtual 302, 3) := by decide +kernel
theorem dX7_drift_69 : decode cX7_drift 69 = .ok (.ifCond .ne 7, 3) := by decide +kernel
theorem dX7_drift_72 : decode cX7_drift 72 = .ok (.iconst 0, 1) := by decide +kernel
theorem dX7_drift_73 : decode cX7_drift 73 = .ok (.goto 4, 3) := by decide +kernel
theorem dX7_drift_76 : decode cX7_drift 76 = .ok (.iconst 1, 1) := by decide +kernel
theorem dX7_drift_77 : decode cX7_drift 77 = .ok (.iconst 0, 1) := by decide +kernel
theorem dX7_drift_78 : decode cX7_drift 78 = .ok (.invokevirtual 266, 3) := by decide +kernel
theorem dX7_drift_81 : decode cX7_drift 81 = .ok (.iadd, 1) := by decide +kernel
theorem dX7_drift_82 : decode cX7_drift 82 = .ok (.istore_n 3, 1) := by decide +kernel
theorem dX7_drift_83 : decode cX7_drift 83 = .ok (.aload_n 0, 1) := by decide +kernel
theorem dX7_drift_84 : decode cX7_drift 84 = .ok (.getfield 179, 3) := by decide +kernel
theorem dX7_drift_87 : decode cX7_drift 87 = .ok (.ifCond .le 34, 3) := by decide +kernel
theorem dX7_drift_90 : decode cX7_drift 90 = .ok (.aload_n 0, 1) := by decide +kernel
theorem dX7_drift_91 : decode cX7_drift 91 = .ok (.bipush 8, 2) := by decide +kernel
theorem dX7_drift_93 : decode cX7_drift 93 = .ok (.invokevirtual 302, 3) := by decide +kernel
theorem dX7_drift_96 : decode cX7_drift 96 = .ok (.ifCond .ne 25, 3) := by decide +kernel
theorem dX7_drift_99 : decode cX7_drift 99 = .ok (.aload_n 0, 1) := by decide +kernel
theorem dX7_drift_100 : decode cX7_drift 100 = .ok (.aload_n 0, 1) := by decide +kernel
theorem dX7_drift_101 : decode cX7_drift 101 = .ok (.getfield 179, 3) := by decide +kernel
theorem dX7_drift_104 : decode cX7_drift 104 = .ok (.invokevirtual 302, 3) := by decide +kernel
theorem dX7_drift_107 : decode cX7_drift 107 = .ok (.istore 6, 2) := by decide +kernel
theorem dX7_drift_109 : decode cX7_drift 109 = .ok (.aload_n 0, 1) := by decide +kernel
theorem dX7_drift_110 : decode cX7_drift 110 = .ok (.iload 6, 2) := by decide +kernel
theorem dX7_drift_112 : decode cX7_drift 112 = .ok (.aload_n 0, 1) := by decide +kernel
theorem dX7_drift_113 : decode cX7_drift 113 = .ok (.bipush 10, 2) := by decide +kernel
theorem dX7_drift_115 : decode cX7_drift 115 = .ok (.invokevirtual 302, 3) := by decide +kernel
theorem dX7_drift_118 : decode cX7_drift 118 = .ok (.invokevirtual 283, 3) := by decide +kernel
theorem dX7_drift_121 : decode cX7_drift 121 = .ok (.iinc 4 1, 3) := by decide +kernel
theorem dX7_drift_124 : decode cX7_drift 124 = .ok (.goto (-86), 3) := by decide +kernel
theorem dX7_drift_127 : decode cX7_drift 127 = .ok (.iload_n 3, 1) := by decide +kernel
theorem dX7_drift_128 : decode cX7_drift 128 = .ok (.ireturn, 1) := by decide +kernel
theorem dX7_undo_0 : decode cX7_undo 0 = .ok (.iload_n 1, 1) := by decide +kernel
theorem dX7_undo_1 : decode cX7_undo 1 = .ok (.iconst 1, 1) := by decide +kernel
theorem dX7_undo_2 : decode cX7_undo 2 = .ok (.bipush 30, 2) := by decide +kernel
theorem dX7_undo_4 : decode cX7_undo 4 = .ok (.invokestatic 85, 3) := by decide +kernel
theorem dX7_undo_7 : decode cX7_undo 7 = .ok (.ifCond .ne 6, 3) := by decide +kernel
theorem dX7_undo_10 : decode cX7_undo 10 = .ok (.ldc 89, 2) := by decide +kernel
theorem dX7_undo_12 : decode cX7_undo 12 = .ok (.ireturn, 1) := by decide +kernel
theorem dX7_undo_13 : decode cX7_undo 13 = .ok (.aload_n 0, 1) := by decide +kernel
theorem dX7_undo_14 : decode cX7_undo 14 = .ok (.getfield 194, 3) := by decide +kernel
theorem dX7_undo_17 : decode cX7_undo 17 = .ok (.iload_n 1, 1) := by decide +kernel
theorem dX7_undo_18 : decode cX7_undo 18 = .ok (.if_icmp .ge 6, 3) := by decide +kernel
theorem dX7_undo_21 : decode cX7_undo 21 = .ok (.ldc 220, 2) := by decide +kernel
theorem dX7_undo_23 : decode cX7_undo 23 = .ok (.ireturn, 1) := by decide +kernel
theorem dX7_undo_24 : decode cX7_undo 24 = .ok (.aload_n 0, 1) := by decide +kernel
theorem dX7_undo_25 : decode cX7_undo 25 = .ok (.aload_n 0, 1) := by decide +kernel
theorem dX7_undo_26 : decode cX7_undo 26 = .ok (.getfield 270, 3) := by decide +kernel
theorem dX7_undo_29 : decode cX7_undo 29 = .ok (.bipush 30, 2) := by decide +kernel
theorem dX7_undo_31 : decode cX7_undo 31 = .ok (.iadd, 1) := by decide +kernel
theorem dX7_undo_32 : decode cX7_undo 32 = .ok (.iload_n 1, 1) := by decide +kernel
theorem dX7_undo_33 : decode cX7_undo 33 = .ok (.isub, 1) := by decide +kernel
theorem dX7_undo_34 : decode cX7_undo 34 = .ok (.bipush 30, 2) := by decide +kernel
theorem dX7_undo_36 : decode cX7_undo 36 = .ok (.irem, 1) := by decide +kernel
theorem dX7_undo_37 : decode cX7_undo 37 = .ok (.putfield 270, 3) := by decide +kernel
theorem dX7_undo_40 : decode cX7_undo 40 = .ok (.aload_n 0, 1) := by decide +kernel
theorem dX7_undo_41 : decode cX7_undo 41 = .ok (.dup, 1) := by decide +kernel
theorem dX7_undo_42 : decode cX7_undo 42 = .ok (.getfield 194, 3) := by decide +kernel
theorem dX7_undo_45 : decode cX7_undo 45 = .ok (.iload_n 1, 1) := by decide +kernel
theorem dX7_undo_46 : decode cX7_undo 46 = .ok (.isub, 1) := by decide +kernel
theorem dX7_undo_47 : decode cX7_undo 47 = .ok (.putfield 194, 3) := by decide +kernel
theorem dX7_undo_50 : decode cX7_undo 50 = .ok (.iconst 0, 1) := by decide +kernel
theorem dX7_undo_51 : decode cX7_undo 51 = .ok (.istore_n 2, 1) := by decide +kernel
theorem dX7_undo_52 : decode cX7_undo 52 = .ok (.iload_n 2, 1) := by decide +kernel
theorem dX7_undo_53 : decode cX7_undo 53 = .ok (.bipush 27, 2) := by decide +kernel
theorem dX7_undo_55 : decode cX7_undo 55 = .ok (.if_icmp .ge 29, 3) := by decide +kernel
theorem dX7_undo_58 : decode cX7_undo 58 = .ok (.aload_n 0, 1) := by decide +kernel
theorem dX7_undo_59 : decode cX7_undo 59 = .ok (.getfield 53, 3) := by decide +kernel
theorem dX7_undo_62 : decode cX7_undo 62 = .ok (.iload_n 2, 1) := by decide +kernel
theorem dX7_undo_63 : decode cX7_undo 63 = .ok (.aload_n 0, 1) := by decide +kernel
theorem dX7_undo_64 : decode cX7_undo 64 = .ok (.getfield 62, 3) := by decide +kernel
theorem dX7_undo_67 : decode cX7_undo 67 = .ok (.bipush 27, 2) := by decide +kernel
theorem dX7_undo_69 : decode cX7_undo 69 = .ok (.aload_n 0, 1) := by decide +kernel
theorem dX7_undo_70 : decode cX7_undo 70 = .ok (.getfield 270, 3) := by decide +kernel
theorem dX7_undo_73 : decode cX7_undo 73 = .ok (.imul, 1) := by decide +kernel
theorem dX7_undo_74 : decode cX7_undo 74 = .ok (.iload_n 2, 1) := by decide +kernel
theorem dX7_undo_75 : decode cX7_undo 75 = .ok (.iadd, 1) := by decide +kernel
theorem dX7_undo_76 : decode cX7_undo 76 = .ok (.iaload, 1) := by decide +kernel
theorem dX7_undo_77 : decode cX7_undo 77 = .ok (.iastore, 1) := by decide +kernel
theorem dX7_undo_78 : decode cX7_undo 78 = .ok (.iinc 2 1, 3) := by decide +kernel
theorem dX7_undo_81 : decode cX7_undo 81 = .ok (.goto (-29), 3) := by decide +kernel
theorem dX7_undo_84 : decode cX7_undo 84 = .ok (.aload_n 0, 1) := by decide +kernel
theorem dX7_undo_85 : decode cX7_undo 85 = .ok (.getfield 53, 3) := by decide +kernel
theorem dX7_undo_88 : decode cX7_undo 88 = .ok (.iconst 0, 1) := by decide +kernel
theorem dX7_undo_89 : decode cX7_undo 89 = .ok (.iaload, 1) := by decide +kernel
theorem dX7_undo_90 : decode cX7_undo 90 = .ok (.ireturn, 1) := by decide +kernel
theorem dX7_copyNow_0 : decode cX7_copyNow 0 = .ok (.iconst 0, 1) := by decide +kernel
theorem dX7_copyNow_1 : decode cX7_copyNow 1 = .ok (.istore_n 1, 1) := by decide +kernel
theorem dX7_copyNow_2 : decode cX7_copyNow 2 = .ok (.iload_n 1, 1) := by decide +kernel
theorem dX7_copyNow_3 : decode cX7_copyNow 3 = .ok (.bipush 27, 2) := by decide +kernel
theorem dX7_copyNow_5 : decode cX7_copyNow 5 = .ok (.if_icmp .ge 21, 3) := by decide +kernel
theorem dX7_copyNow_8 : decode cX7_copyNow 8 = .ok (.aload_n 0, 1) := by decide +kernel
theorem dX7_copyNow_9 : decode cX7_copyNow 9 = .ok (.getfield 56, 3) := by decide +kernel
theorem dX7_copyNow_12 : decode cX7_copyNow 12 = .ok (.iload_n 1, 1) := by decide +kernel
theorem dX7_copyNow_13 : decode cX7_copyNow 13 = .ok (.aload_n 0, 1) := by decide +kernel
theorem dX7_copyNow_14 : decode cX7_copyNow 14 = .ok (.getfield 53, 3) := by decide +kernel
theorem dX7_copyNow_17 : decode cX7_copyNow 17 = .ok (.iload_n 1, 1) := by decide +kernel
theorem dX7_copyNow_18 : decode cX7_copyNow 18 = .ok (.iaload, 1) := by decide +kernel
theorem dX7_copyNow_19 : decode cX7_copyNow 19 = .ok (.iastore, 1) := by decide +kernel
theorem dX7_copyNow_20 : decode cX7_copyNow 20 = .ok (.iinc 1 1, 3) := by decide +kernel
theorem dX7_copyNow_23 : decode cX7_copyNow 23 = .ok (.goto (-21), 3) := by decide +kernel
theorem dX7_copyNow_26 : decode cX7_copyNow 26 = .ok (.return_, 1) := by decide +kernel
theorem dX7_goesOn_0 : decode cX7_goesOn 0 = .ok (.iconst 0, 1) := by decide +kernel
theorem dX7_goesOn_1 : decode cX7_goesOn 1 = .ok (.istore_n 2, 1) := by decide +kernel
theorem dX7_goesOn_2 : decode cX7_goesOn 2 = .ok (.iload_n 2, 1) := by decide +kernel
theorem dX7_goesOn_3 : decode cX7_goesOn 3 = .ok (.aload_n 0, 1) := by decide +kernel
theorem dX7_goesOn_4 : decode cX7_goesOn 4 = .ok (.getfield 179, 3) := by decide +kernel
theorem dX7_goesOn_7 : decode cX7_goesOn 7 = .ok (.if_icmp .ge 16, 3) := by decide +kernel
theorem dX7_goesOn_10 : decode cX7_goesOn 10 = .ok (.aload_n 0, 1) := by decide +kernel
theorem dX7_goesOn_11 : decode cX7_goesOn 11 = .ok (.getfield 65, 3) := by decide +kernel
theorem dX7_goesOn_14 : decode cX7_goesOn 14 = .ok (.iload_n 2, 1) := by decide +kernel
theorem dX7_goesOn_15 : decode cX7_goesOn 15 = .ok (.iconst 0, 1) := by decide +kernel
theorem dX7_goesOn_16 : decode cX7_goesOn 16 = .ok (.iastore, 1) := by decide +kernel
theorem dX7_goesOn_17 : decode cX7_goesOn 17 = .ok (.iinc 2 1, 3) := by decide +kernel
theorem dX7_goesOn_20 : decode cX7_goesOn 20 = .ok (.goto (-18), 3) := by decide +kernel
theorem dX7_goesOn_23 : decode cX7_goesOn 23 = .ok (.iconst 0, 1) := by decide +kernel
theorem dX7_goesOn_24 : decode cX7_goesOn 24 = .ok (.istore_n 2, 1) := by decide +kernel
theorem dX7_goesOn_25 : decode cX7_goesOn 25 = .ok (.iload_n 2, 1) := by decide +kernel
theorem dX7_goesOn_26 : decode cX7_goesOn 26 = .ok (.iload_n 1, 1) := by decide +kernel
theorem dX7_goesOn_27 : decode cX7_goesOn 27 = .ok (.if_icmp .ge 49, 3) := by decide +kernel
theorem dX7_goesOn_30 : decode cX7_goesOn 30 = .ok (.aload_n 0, 1) := by decide +kernel
theorem dX7_goesOn_31 : decode cX7_goesOn 31 = .ok (.aload_n 0, 1) := by decide +kernel
theorem dX7_goesOn_32 : decode cX7_goesOn 32 = .ok (.getfield 56, 3) := by decide +kernel
theorem dX7_goesOn_35 : decode cX7_goesOn 35 = .ok (.invokevirtual 280, 3) := by decide +kernel
theorem dX7_goesOn_38 : decode cX7_goesOn 38 = .ok (.pop, 1) := by decide +kernel
theorem dX7_goesOn_39 : decode cX7_goesOn 39 = .ok (.iconst 0, 1) := by decide +kernel
theorem dX7_goesOn_40 : decode cX7_goesOn 40 = .ok (.istore_n 3, 1) := by decide +kernel
theorem dX7_goesOn_41 : decode cX7_goesOn 41 = .ok (.iload_n 3, 1) := by decide +kernel
theorem dX7_goesOn_42 : decode cX7_goesOn 42 = .ok (.aload_n 0, 1) := by decide +kernel
theorem dX7_goesOn_43 : decode cX7_goesOn 43 = .ok (.getfield 179, 3) := by decide +kernel
theorem dX7_goesOn_46 : decode cX7_goesOn 46 = .ok (.if_icmp .ge 24, 3) := by decide +kernel
theorem dX7_goesOn_49 : decode cX7_goesOn 49 = .ok (.aload_n 0, 1) := by decide +kernel
theorem dX7_goesOn_50 : decode cX7_goesOn 50 = .ok (.getfield 65, 3) := by decide +kernel
theorem dX7_goesOn_53 : decode cX7_goesOn 53 = .ok (.iload_n 3, 1) := by decide +kernel
theorem dX7_goesOn_54 : decode cX7_goesOn 54 = .ok (.dup2, 1) := by decide +kernel
theorem dX7_goesOn_55 : decode cX7_goesOn 55 = .ok (.iaload, 1) := by decide +kernel
theorem dX7_goesOn_56 : decode cX7_goesOn 56 = .ok (.aload_n 0, 1) := by decide +kernel
theorem dX7_goesOn_57 : decode cX7_goesOn 57 = .ok (.getfield 59, 3) := by decide +kernel
theorem dX7_goesOn_60 : decode cX7_goesOn 60 = .ok (.iload_n 3, 1) := by decide +kernel
theorem dX7_goesOn_61 : decode cX7_goesOn 61 = .ok (.iaload, 1) := by decide +kernel
theorem dX7_goesOn_62 : decode cX7_goesOn 62 = .ok (.iadd, 1) := by decide +kernel
theorem dX7_goesOn_63 : decode cX7_goesOn 63 = .ok (.iastore, 1) := by decide +kernel
theorem dX7_goesOn_64 : decode cX7_goesOn 64 = .ok (.iinc 3 1, 3) := by decide +kernel
theorem dX7_goesOn_67 : decode cX7_goesOn 67 = .ok (.goto (-26), 3) := by decide +kernel
theorem dX7_goesOn_70 : decode cX7_goesOn 70 = .ok (.iinc 2 1, 3) := by decide +kernel
theorem dX7_goesOn_73 : decode cX7_goesOn 73 = .ok (.goto (-48), 3) := by decide +kernel
theorem dX7_goesOn_76 : decode cX7_goesOn 76 = .ok (.return_, 1) := by decide +kernel
theorem dX7_gets_0 : decode cX7_gets 0 = .ok (.aload_n 0, 1) := by decide +kernel
theorem dX7_gets_1 : decode cX7_gets 1 = .ok (.iload_n 1, 1) := by decide +kernel
theorem dX7_gets_2 : decode cX7_gets 2 = .ok (.invokevirtual 216, 3) := by decide +kernel
theorem dX7_gets_5 : decode cX7_gets 5 = .ok (.ifCond .ne 6, 3) := by decide +kernel
theorem dX7_gets_8 : decode cX7_gets 8 = .ok (.ldc 219, 2) := by decide +kernel
theorem dX7_gets_10 : decode cX7_gets 10 = .ok (.ireturn, 1) := by decide +kernel
theorem dX7_gets_11 : decode cX7_gets 11 = .ok (.iload_n 2, 1) := by decide +kernel
theorem dX7_gets_12 : decode cX7_gets 12 = .ok (.iconst 0, 1) := by decide +kernel
theorem dX7_gets_13 : decode cX7_gets 13 = .ok (.bipush 99, 2) := by decide +kernel
theorem dX7_gets_15 : decode cX7_gets 15 = .ok (.invokestatic 85, 3) := by decide +kernel
theorem dX7_gets_18 : decode cX7_gets 18 = .ok (.ifCond .ne 6, 3) := by decide +kernel
theorem dX7_gets_21 : decode cX7_gets 21 = .ok (.ldc 89, 2) := by decide +kernel
theorem dX7_gets_23 : decode cX7_gets 23 = .ok (.ireturn, 1) := by decide +kernel
theorem dX7_gets_24 : decode cX7_gets 24 = .ok (.aload_n 0, 1) := by decide +kernel
theorem dX7_gets_25 : decode cX7_gets 25 = .ok (.invokevirtual 305, 3) := by decide +kernel
theorem dX7_gets_28 : decode cX7_gets 28 = .ok (.aload_n 0, 1) := by decide +kernel
theorem dX7_gets_29 : decode cX7_gets 29 = .ok (.iload_n 2, 1) := by decide +kernel
theorem dX7_gets_30 : decode cX7_gets 30 = .ok (.invokevirtual 308, 3) := by decide +kernel
theorem dX7_gets_33 : decode cX7_gets 33 = .ok (.aload_n 0, 1) := by decide +kernel
theorem dX7_gets_34 : decode cX7_gets 34 = .ok (.getfield 65, 3) := by decide +kernel
theorem dX7_gets_37 : decode cX7_gets 37 = .ok (.iload_n 1, 1) := by decide +kernel
theorem dX7_gets_38 : decode cX7_gets 38 = .ok (.iaload, 1) := by decide +kernel
theorem dX7_gets_39 : decode cX7_gets 39 = .ok (.ireturn, 1) := by decide +kernel
theorem dX7_level_0 : decode cX7_level 0 = .ok (.aload_n 0, 1) := by decide +kernel
theorem dX7_level_1 : decode cX7_level 1 = .ok (.iload_n 1, 1) := by decide +kernel
theorem dX7_level_2 : decode cX7_level 2 = .ok (.invokevirtual 216, 3) := by decide +kernel
theorem dX7_level_5 : decode cX7_level 5 = .ok (.ifCond .ne 6, 3) := by decide +kernel
theorem dX7_level_8 : decode cX7_level 8 = .ok (.ldc 219, 2) := by decide +kernel
theorem dX7_level_10 : decode cX7_level 10 = .ok (.ireturn, 1) := by decide +kernel
theorem dX7_level_11 : decode cX7_level 11 = .ok (.iload_n 2, 1) := by decide +kernel
theorem dX7_level_12 : decode cX7_level 12 = .ok (.iconst 0, 1) := by decide +kernel
theorem dX7_level_13 : decode cX7_level 13 = .ok (.bipush 99, 2) := by decide +kernel
theorem dX7_level_15 : decode cX7_level 15 = .ok (.invokestatic 85, 3) := by decide +kernel
theorem dX7_level_18 : decode cX7_level 18 = .ok (.ifCond .ne 6, 3) := by decide +kernel
theorem dX7_level_21 : decode cX7_level 21 = .ok (.ldc 89, 2) := by decide +kernel
theorem dX7_level_23 : decode cX7_level 23 = .ok (.ireturn, 1) := by decide +kernel
theorem dX7_level_24 : decode cX7_level 24 = .ok (.aload_n 0, 1) := by decide +kernel
theorem dX7_level_25 : decode cX7_level 25 = .ok (.invokevirtual 305, 3) := by decide +kernel
theorem dX7_level_28 : decode cX7_level 28 = .ok (.aload_n 0, 1) := by decide +kernel
theorem dX7_level_29 : decode cX7_level 29 = .ok (.iload_n 2, 1) := by decide +kernel
theorem dX7_level_30 : decode cX7_level 30 = .ok (.invokevirtual 308, 3) := by decide +kernel
theorem dX7_level_33 : decode cX7_level 33 = .ok (.aload_n 0, 1) := by decide +kernel
theorem dX7_level_34 : decode cX7_level 34 = .ok (.getfield 56, 3) := by decide +kernel
theorem dX7_level_37 : decode cX7_level 37 = .ok (.bipush 9, 2) := by decide +kernel
theorem dX7_level_39 : decode cX7_level 39 = .ok (.iload_n 1, 1) := by decide +kernel
theorem dX7_level_40 : decode cX7_level 40 = .ok (.iadd, 1) := by decide +kernel
theorem dX7_level_41 : decode cX7_level 41 = .ok (.iaload, 1) := by decide +kernel
theorem dX7_level_42 : decode cX7_level 42 = .ok (.ireturn, 1) := by decide +kernel
theorem dX7_shadow_0 : decode cX7_shadow 0 = .ok (.aload_n 0, 1) := by decide +kernel
theorem dX7_shadow_1 : decode cX7_shadow 1 = .ok (.iload_n 1, 1) := by decide +kernel
theorem dX7_shadow_2 : decode cX7_shadow 2 = .ok (.invokevirtual 216, 3) := by decide +kernel
theorem dX7_shadow_5 : decode cX7_shadow 5 = .ok (.ifCond .ne 6, 3) := by decide +kernel
theorem dX7_shadow_8 : decode cX7_shadow 8 = .ok (.ldc 219, 2) := by decide +kernel
theorem dX7_shadow_10 : decode cX7_shadow 10 = .ok (.ireturn, 1) := by decide +kernel
theorem dX7_shadow_11 : decode cX7_shadow 11 = .ok (.aload_n 0, 1) := by decide +kernel
theorem dX7_shadow_12 : decode cX7_shadow 12 = .ok (.aload_n 0, 1) := by decide +kernel
theorem dX7_shadow_13 : decode cX7_shadow 13 = .ok (.getfield 53, 3) := by decide +kernel
theorem dX7_shadow_16 : decode cX7_shadow 16 = .ok (.iload_n 1, 1) := by decide +kernel
theorem dX7_shadow_17 : decode cX7_shadow 17 = .ok (.invokevirtual 201, 3) := by decide +kernel
theorem dX7_shadow_20 : decode cX7_shadow 20 = .ok (.ifCond .ne 5, 3) := by decide +kernel
theorem dX7_shadow_23 : decode cX7_shadow 23 = .ok (.iconst 0, 1) := by decide +kernel
theorem dX7_shadow_24 : decode cX7_shadow 24 = .ok (.ireturn, 1) := by decide +kernel
theorem dX7_shadow_25 : decode cX7_shadow 25 = .ok (.aload_n 0, 1) := by decide +kernel
theorem dX7_shadow_26 : decode cX7_shadow 26 = .ok (.aload_n 0, 1) := by decide +kernel
theorem dX7_shadow_27 : decode cX7_shadow 27 = .ok (.getfield 53, 3) := by decide +kernel
theorem dX7_shadow_30 : decode cX7_shadow 30 = .ok (.invokevirtual 224, 3) := by decide +kernel
theorem dX7_shadow_33 : decode cX7_shadow 33 = .ok (.aload_n 0, 1) := by decide +kernel
theorem dX7_shadow_34 : decode cX7_shadow 34 = .ok (.getfield 53, 3) := by decide +kernel
theorem dX7_shadow_37 : decode cX7_shadow 37 = .ok (.iconst 2, 1) := by decide +kernel
theorem dX7_shadow_38 : decode cX7_shadow 38 = .ok (.iaload, 1) := by decide +kernel
theorem dX7_shadow_39 : decode cX7_shadow 39 = .ok (.aload_n 0, 1) := by decide +kernel
theorem dX7_shadow_40 : decode cX7_shadow 40 = .ok (.getfield 176, 3) := by decide +kernel
theorem dX7_shadow_43 : decode cX7_shadow 43 = .ok (.invokestatic 245, 3) := by decide +kernel
theorem dX7_shadow_46 : decode cX7_shadow 46 = .ok (.istore_n 2, 1) := by decide +kernel
theorem dX7_shadow_47 : decode cX7_shadow 47 = .ok (.aload_n 0, 1) := by decide +kernel
theorem dX7_shadow_48 : decode cX7_shadow 48 = .ok (.aload_n 0, 1) := by decide +kernel
theorem dX7_shadow_49 : decode cX7_shadow 49 = .ok (.getfield 53, 3) := by decide +kernel
theorem dX7_shadow_52 : decode cX7_shadow 52 = .ok (.iload_n 2, 1) := by decide +kernel
theorem dX7_shadow_53 : decode cX7_shadow 53 = .ok (.aload_n 0, 1) := by decide +kernel
theorem dX7_shadow_54 : decode cX7_shadow 54 = .ok (.aload_n 0, 1) := by decide +kernel
theorem dX7_shadow_55 : decode cX7_shadow 55 = .ok (.getfield 53, 3) := by decide +kernel
theorem dX7_shadow_58 : decode cX7_shadow 58 = .ok (.invokevirtual 221, 3) := by decide +kernel
theorem dX7_shadow_61 : decode cX7_shadow 61 = .ok (.iconst 1, 1) := by decide +kernel
theorem dX7_shadow_62 : decode cX7_shadow 62 = .ok (.iload_n 1, 1) := by decide +kernel
theorem dX7_shadow_63 : decode cX7_shadow 63 = .ok (.ishl, 1) := by decide +kernel
theorem dX7_shadow_64 : decode cX7_shadow 64 = .ok (.invokevirtual 249, 3) := by decide +kernel
theorem dX7_shadow_67 : decode cX7_shadow 67 = .ok (.pop, 1) := by decide +kernel
theorem dX7_shadow_68 : decode cX7_shadow 68 = .ok (.aload_n 0, 1) := by decide +kernel
theorem dX7_shadow_69 : decode cX7_shadow 69 = .ok (.getfield 59, 3) := by decide +kernel
theorem dX7_shadow_72 : decode cX7_shadow 72 = .ok (.iload_n 1, 1) := by decide +kernel
theorem dX7_shadow_73 : decode cX7_shadow 73 = .ok (.iaload, 1) := by decide +kernel
theorem dX7_shadow_74 : decode cX7_shadow 74 = .ok (.istore_n 3, 1) := by decide +kernel
theorem dX7_shadow_75 : decode cX7_shadow 75 = .ok (.aload_n 0, 1) := by decide +kernel
theorem dX7_shadow_76 : decode cX7_shadow 76 = .ok (.aload_n 0, 1) := by decide +kernel
theorem dX7_shadow_77 : decode cX7_shadow 77 = .ok (.getfield 53, 3) := by decide +kernel
theorem dX7_shadow_80 : decode cX7_shadow 80 = .ok (.iload_n 2, 1) := by decide +kernel
theorem dX7_shadow_81 : decode cX7_shadow 81 = .ok (.aload_n 0, 1) := by decide +kernel
theorem dX7_shadow_82 : decode cX7_shadow 82 = .ok (.aload_n 0, 1) := by decide +kernel
theorem dX7_shadow_83 : decode cX7_shadow 83 = .ok (.getfield 53, 3) := by decide +kernel
theorem dX7_shadow_86 : decode cX7_shadow 86 = .ok (.invokevirtual 221, 3) := by decide +kernel
theorem dX7_shadow_89 : decode cX7_shadow 89 = .ok (.aload_n 0, 1) := by decide +kernel
theorem dX7_shadow_90 : decode cX7_shadow 90 = .ok (.aload_n 0, 1) := by decide +kernel
theorem dX7_shadow_91 : decode cX7_shadow 91 = .ok (.getfield 53, 3) := by decide +kernel
theorem dX7_shadow_94 : decode cX7_shadow 94 = .ok (.invokevirtual 209, 3) := by decide +kernel
theorem dX7_shadow_97 : decode cX7_shadow 97 = .ok (.invokevirtual 249, 3) := by decide +kernel
theorem dX7_shadow_100 : decode cX7_shadow 100 = .ok (.pop, 1) := by decide +kernel
theorem dX7_shadow_101 : decode cX7_shadow 101 = .ok (.iload_n 3, 1) := by decide +kernel
theorem dX7_shadow_102 : decode cX7_shadow 102 = .ok (.aload_n 0, 1) := by decide +kernel
theorem dX7_shadow_103 : decode cX7_shadow 103 = .ok (.getfield 59, 3) := by decide +kernel
theorem dX7_shadow_106 : decode cX7_shadow 106 = .ok (.iload_n 1, 1) := by decide +kernel
theorem dX7_shadow_107 : decode cX7_shadow 107 = .ok (.iaload, 1) := by decide +kernel
theorem dX7_shadow_108 : decode cX7_shadow 108 = .ok (.isub, 1) := by decide +kernel
theorem dX7_shadow_109 : decode cX7_shadow 109 = .ok (.ireturn, 1) := by decide +kernel
theorem dX7_left_0 : decode cX7_left 0 = .ok (.aload_n 0, 1) := by decide +kernel
theorem dX7_left_1 : decode cX7_left 1 = .ok (.getfield 170, 3) := by decide +kernel
theorem dX7_left_4 : decode cX7_left 4 = .ok (.ifCond .ne 8, 3) := by decide +kernel
theorem dX7_left_7 : decode cX7_left 7 = .ok (.ldc 220, 2) := by decide +kernel
theorem dX7_left_9 : decode cX7_left 9 = .ok (.goto 48, 3) := by decide +kernel
theorem dX7_left_12 : decode cX7_left 12 = .ok (.aload_n 0, 1) := by decide +kernel
theorem dX7_left_13 : decode cX7_left 13 = .ok (.aload_n 0, 1) := by decide +kernel
theorem dX7_left_14 : decode cX7_left 14 = .ok (.getfield 53, 3) := by decide +kernel
theorem dX7_left_17 : decode cX7_left 17 = .ok (.aload_n 0, 1) := by decide +kernel
theorem dX7_left_18 : decode cX7_left 18 = .ok (.aload_n 0, 1) := by decide +kernel
theorem dX7_left_19 : decode cX7_left 19 = .ok (.getfield 53, 3) := by decide +kernel
theorem dX7_left_22 : decode cX7_left 22 = .ok (.invokevirtual 224, 3) := by decide +kernel
theorem dX7_left_25 : decode cX7_left 25 = .ok (.aload_n 0, 1) := by decide +kernel
theorem dX7_left_26 : decode cX7_left 26 = .ok (.getfield 53, 3) := by decide +kernel
theorem dX7_left_29 : decode cX7_left 29 = .ok (.iconst 2, 1) := by decide +kernel
theorem dX7_left_30 : decode cX7_left 30 = .ok (.iaload, 1) := by decide +kernel
theorem dX7_left_31 : decode cX7_left 31 = .ok (.aload_n 0, 1) := by decide +kernel
theorem dX7_left_32 : decode cX7_left 32 = .ok (.getfield 176, 3) := by decide +kernel
theorem dX7_left_35 : decode cX7_left 35 = .ok (.invokestatic 245, 3) := by decide +kernel
theorem dX7_left_38 : decode cX7_left 38 = .ok (.aload_n 0, 1) := by decide +kernel
theorem dX7_left_39 : decode cX7_left 39 = .ok (.aload_n 0, 1) := by decide +kernel
theorem dX7_left_40 : decode cX7_left 40 = .ok (.getfield 53, 3) := by decide +kernel
theorem dX7_left_43 : decode cX7_left 43 = .ok (.invokevirtual 221, 3) := by decide +kernel
theorem dX7_left_46 : decode cX7_left 46 = .ok (.aload_n 0, 1) := by decide +kernel
theorem dX7_left_47 : decode cX7_left 47 = .ok (.aload_n 0, 1) := by decide +kernel
theorem dX7_left_48 : decode cX7_left 48 = .ok (.getfield 53, 3) := by decide +kernel
theorem dX7_left_51 : decode cX7_left 51 = .ok (.invokevirtual 209, 3) := by decide +kernel
theorem dX7_left_54 : decode cX7_left 54 = .ok (.invokevirtual 249, 3) := by decide +kernel
theorem dX7_left_57 : decode cX7_left 57 = .ok (.ireturn, 1) := by decide +kernel
theorem dX7_bestMesh_0 : decode cX7_bestMesh 0 = .ok (.aload_n 0, 1) := by decide +kernel
theorem dX7_bestMesh_1 : decode cX7_bestMesh 1 = .ok (.iload_n 1, 1) := by decide +kernel
theorem dX7_bestMesh_2 : decode cX7_bestMesh 2 = .ok (.invokevirtual 216, 3) := by decide +kernel
theorem dX7_bestMesh_5 : decode cX7_bestMesh 5 = .ok (.ifCond .ne 6, 3) := by decide +kernel
theorem dX7_bestMesh_8 : decode cX7_bestMesh 8 = .ok (.ldc 219, 2) := by decide +kernel
theorem dX7_bestMesh_10 : decode cX7_bestMesh 10 = .ok (.ireturn, 1) := by decide +kernel
theorem dX7_bestMesh_11 : decode cX7_bestMesh 11 = .ok (.iload_n 2, 1) := by decide +kernel
theorem dX7_bestMesh_12 : decode cX7_bestMesh 12 = .ok (.iconst 0, 1) := by decide +kernel
theorem dX7_bestMesh_13 : decode cX7_bestMesh 13 = .ok (.iconst 1, 1) := by decide +kernel
theorem dX7_bestMesh_14 : decode cX7_bestMesh 14 = .ok (.invokestatic 85, 3) := by decide +kernel
theorem dX7_bestMesh_17 : decode cX7_bestMesh 17 = .ok (.ifCond .ne 6, 3) := by decide +kernel
theorem dX7_bestMesh_20 : decode cX7_bestMesh 20 = .ok (.ldc 89, 2) := by decide +kernel
theorem dX7_bestMesh_22 : decode cX7_bestMesh 22 = .ok (.ireturn, 1) := by decide +kernel
theorem dX7_bestMesh_23 : decode cX7_bestMesh 23 = .ok (.iconst 0, 1) := by decide +kernel
theorem dX7_bestMesh_24 : decode cX7_bestMesh 24 = .ok (.istore_n 3, 1) := by decide +kernel
theorem dX7_bestMesh_25 : decode cX7_bestMesh 25 = .ok (.iconst (-1), 1) := by decide +kernel
theorem dX7_bestMesh_26 : decode cX7_bestMesh 26 = .ok (.istore 4, 2) := by decide +kernel
theorem dX7_bestMesh_28 : decode cX7_bestMesh 28 = .ok (.iconst 0, 1) := by decide +kernel
theorem dX7_bestMesh_29 : decode cX7_bestMesh 29 = .ok (.istore 5, 2) := by decide +kernel
theorem dX7_bestMesh_31 : decode cX7_bestMesh 31 = .ok (.iload 5, 2) := by decide +kernel
theorem dX7_bestMesh_33 : decode cX7_bestMesh 33 = .ok (.bipush 10, 2) := by decide +kernel
theorem dX7_bestMesh_35 : decode cX7_bestMesh 35 = .ok (.if_icmp .ge 74, 3) := by decide +kernel
theorem dX7_bestMesh_38 : decode cX7_bestMesh 38 = .ok (.aload_n 0, 1) := by decide +kernel
theorem dX7_bestMesh_39 : decode cX7_bestMesh 39 = .ok (.invokevirtual 305, 3) := by decide +kernel
theorem dX7_bestMesh_42 : decode cX7_bestMesh 42 = .ok (.aload_n 0, 1) := by decide +kernel
theorem dX7_bestMesh_43 : decode cX7_bestMesh 43 = .ok (.getfield 56, 3) := by decide +kernel
theorem dX7_bestMesh_46 : decode cX7_bestMesh 46 = .ok (.bipush 21, 2) := by decide +kernel
theorem dX7_bestMesh_48 : decode cX7_bestMesh 48 = .ok (.iload_n 1, 1) := by decide +kernel
theorem dX7_bestMesh_49 : decode cX7_bestMesh 49 = .ok (.iadd, 1) := by decide +kernel
theorem dX7_bestMesh_50 : decode cX7_bestMesh 50 = .ok (.iload 5, 2) := by decide +kernel
theorem dX7_bestMesh_52 : decode cX7_bestMesh 52 = .ok (.iastore, 1) := by decide +kernel
theorem dX7_bestMesh_53 : decode cX7_bestMesh 53 = .ok (.aload_n 0, 1) := by decide +kernel
theorem dX7_bestMesh_54 : decode cX7_bestMesh 54 = .ok (.aload_n 0, 1) := by decide +kernel
theorem dX7_bestMesh_55 : decode cX7_bestMesh 55 = .ok (.invokevirtual 205, 3) := by decide +kernel
theorem dX7_bestMesh_58 : decode cX7_bestMesh 58 = .ok (.invokevirtual 308, 3) := by decide +kernel
theorem dX7_bestMesh_61 : decode cX7_bestMesh 61 = .ok (.aload_n 0, 1) := by decide +kernel
theorem dX7_bestMesh_62 : decode cX7_bestMesh 62 = .ok (.getfield 65, 3) := by decide +kernel
theorem dX7_bestMesh_65 : decode cX7_bestMesh 65 = .ok (.iload_n 1, 1) := by decide +kernel
theorem dX7_bestMesh_66 : decode cX7_bestMesh 66 = .ok (.iaload, 1) := by decide +kernel
theorem dX7_bestMesh_67 : decode cX7_bestMesh 67 = .ok (.iload 4, 2) := by decide +kernel
theorem dX7_bestMesh_69 : decode cX7_bestMesh 69 = .ok (.if_icmp .le 8, 3) := by decide +kernel
theorem dX7_bestMesh_72 : decode cX7_bestMesh 72 = .ok (.iload 5, 2) := by decide +kernel
theorem dX7_bestMesh_74 : decode cX7_bestMesh 74 = .ok (.goto 4, 3) := by decide +kernel
theorem dX7_bestMesh_77 : decode cX7_bestMesh 77 = .ok (.iload_n 3, 1) := by decide +kernel
theorem dX7_bestMesh_78 : decode cX7_bestMesh 78 = .ok (.istore_n 3, 1) := by decide +kernel
theorem dX7_bestMesh_79 : decode cX7_bestMesh 79 = .ok (.aload_n 0, 1) := by decide +kernel
theorem dX7_bestMesh_80 : decode cX7_bestMesh 80 = .ok (.getfield 65, 3) := by decide +kernel
theorem dX7_bestMesh_83 : decode cX7_bestMesh 83 = .ok (.iload_n 1, 1) := by decide +kernel
theorem dX7_bestMesh_84 : decode cX7_bestMesh 84 = .ok (.iaload, 1) := by decide +kernel
theorem dX7_bestMesh_85 : decode cX7_bestMesh 85 = .ok (.iload 4, 2) := by decide +kernel
theorem dX7_bestMesh_87 : decode cX7_bestMesh 87 = .ok (.if_icmp .le 12, 3) := by decide +kernel
theorem dX7_bestMesh_90 : decode cX7_bestMesh 90 = .ok (.aload_n 0, 1) := by decide +kernel
theorem dX7_bestMesh_91 : decode cX7_bestMesh 91 = .ok (.getfield 65, 3) := by decide +kernel
theorem dX7_bestMesh_94 : decode cX7_bestMesh 94 = .ok (.iload_n 1, 1) := by decide +kernel
theorem dX7_bestMesh_95 : decode cX7_bestMesh 95 = .ok (.iaload, 1) := by decide +kernel
theorem dX7_bestMesh_96 : decode cX7_bestMesh 96 = .ok (.goto 5, 3) := by decide +kernel
theorem dX7_bestMesh_99 : decode cX7_bestMesh 99 = .ok (.iload 4, 2) := by decide +kernel
theorem dX7_bestMesh_101 : decode cX7_bestMesh 101 = .ok (.istore 4, 2) := by decide +kernel
theorem dX7_bestMesh_103 : decode cX7_bestMesh 103 = .ok (.iinc 5 1, 3) := by decide +kernel
theorem dX7_bestMesh_106 : decode cX7_bestMesh 106 = .ok (.goto (-75), 3) := by decide +kernel
theorem dX7_bestMesh_109 : decode cX7_bestMesh 109 = .ok (.iload_n 2, 1) := by decide +kernel
theorem dX7_bestMesh_110 : decode cX7_bestMesh 110 = .ok (.ifCond .ne 7, 3) := by decide +kernel
theorem dX7_bestMesh_113 : decode cX7_bestMesh 113 = .ok (.iload_n 3, 1) := by decide +kernel
theorem dX7_bestMesh_114 : decode cX7_bestMesh 114 = .ok (.goto 5, 3) := by decide +kernel
theorem dX7_bestMesh_117 : decode cX7_bestMesh 117 = .ok (.iload 4, 2) := by decide +kernel
theorem dX7_bestMesh_119 : decode cX7_bestMesh 119 = .ok (.ireturn, 1) := by decide +kernel
theorem dX7_bestCell_0 : decode cX7_bestCell 0 = .ok (.aload_n 0, 1) := by decide +kernel
theorem dX7_bestCell_1 : decode cX7_bestCell 1 = .ok (.iload_n 1, 1) := by decide +kernel
theorem dX7_bestCell_2 : decode cX7_bestCell 2 = .ok (.invokevirtual 216, 3) := by decide +kernel
theorem dX7_bestCell_5 : decode cX7_bestCell 5 = .ok (.ifCond .ne 6, 3) := by decide +kernel
theorem dX7_bestCell_8 : decode cX7_bestCell 8 = .ok (.ldc 219, 2) := by decide +kernel
theorem dX7_bestCell_10 : decode cX7_bestCell 10 = .ok (.ireturn, 1) := by decide +kernel
theorem dX7_bestCell_11 : decode cX7_bestCell 11 = .ok (.iload_n 2, 1) := by decide +kernel
theorem dX7_bestCell_12 : decode cX7_bestCell 12 = .ok (.iconst 0, 1) := by decide +kernel
theorem dX7_bestCell_13 : decode cX7_bestCell 13 = .ok (.iconst 1, 1) := by decide +kernel
theorem dX7_bestCell_14 : decode cX7_bestCell 14 = .ok (.invokestatic 85, 3) := by decide +kernel
theorem dX7_bestCell_17 : decode cX7_bestCell 17 = .ok (.ifCond .ne 6, 3) := by decide +kernel
theorem dX7_bestCell_20 : decode cX7_bestCell 20 = .ok (.ldc 89, 2) := by decide +kernel
theorem dX7_bestCell_22 : decode cX7_bestCell 22 = .ok (.ireturn, 1) := by decide +kernel
theorem dX7_bestCell_23 : decode cX7_bestCell 23 = .ok (.iconst 0, 1) := by decide +kernel
theorem dX7_bestCell_24 : decode cX7_bestCell 24 = .ok (.istore_n 3, 1) := by decide +kernel
theorem dX7_bestCell_25 : decode cX7_bestCell 25 = .ok (.iconst (-1), 1) := by decide +kernel
theorem dX7_bestCell_26 : decode cX7_bestCell 26 = .ok (.istore 4, 2) := by decide +kernel
theorem dX7_bestCell_28 : decode cX7_bestCell 28 = .ok (.iconst 0, 1) := by decide +kernel
theorem dX7_bestCell_29 : decode cX7_bestCell 29 = .ok (.istore 5, 2) := by decide +kernel
theorem dX7_bestCell_31 : decode cX7_bestCell 31 = .ok (.iload 5, 2) := by decide +kernel
theorem dX7_bestCell_33 : decode cX7_bestCell 33 = .ok (.aload_n 0, 1) := by decide +kernel
theorem dX7_bestCell_34 : decode cX7_bestCell 34 = .ok (.getfield 173, 3) := by decide +kernel
theorem dX7_bestCell_37 : decode cX7_bestCell 37 = .ok (.if_icmp .ge 98, 3) := by decide +kernel
theorem dX7_bestCell_40 : decode cX7_bestCell 40 = .ok (.aload_n 0, 1) := by decide +kernel
theorem dX7_bestCell_41 : decode cX7_bestCell 41 = .ok (.aload_n 0, 1) := by decide +kernel
theorem dX7_bestCell_42 : decode cX7_bestCell 42 = .ok (.getfield 53, 3) := by decide +kernel
theorem dX7_bestCell_45 : decode cX7_bestCell 45 = .ok (.iload 5, 2) := by decide +kernel
theorem dX7_bestCell_47 : decode cX7_bestCell 47 = .ok (.invokevirtual 233, 3) := by decide +kernel
theorem dX7_bestCell_50 : decode cX7_bestCell 50 = .ok (.istore 6, 2) := by decide +kernel
theorem dX7_bestCell_52 : decode cX7_bestCell 52 = .ok (.iload 6, 2) := by decide +kernel
theorem dX7_bestCell_54 : decode cX7_bestCell 54 = .ok (.iconst (-1), 1) := by decide +kernel
theorem dX7_bestCell_55 : decode cX7_bestCell 55 = .ok (.if_icmp .eq 9, 3) := by decide +kernel
theorem dX7_bestCell_58 : decode cX7_bestCell 58 = .ok (.iload 6, 2) := by decide +kernel
theorem dX7_bestCell_60 : decode cX7_bestCell 60 = .ok (.iload_n 1, 1) := by decide +kernel
theorem dX7_bestCell_61 : decode cX7_bestCell 61 = .ok (.if_icmp .ne 68, 3) := by decide +kernel
theorem dX7_bestCell_64 : decode cX7_bestCell 64 = .ok (.aload_n 0, 1) := by decide +kernel
theorem dX7_bestCell_65 : decode cX7_bestCell 65 = .ok (.invokevirtual 305, 3) := by decide +kernel
theorem dX7_bestCell_68 : decode cX7_bestCell 68 = .ok (.aload_n 0, 1) := by decide +kernel
theorem dX7_bestCell_69 : decode cX7_bestCell 69 = .ok (.getfield 56, 3) := by decide +kernel
theorem dX7_bestCell_72 : decode cX7_bestCell 72 = .ok (.bipush 15, 2) := by decide +kernel
theorem dX7_bestCell_74 : decode cX7_bestCell 74 = .ok (.iload_n 1, 1) := by decide +kernel
theorem dX7_bestCell_75 : decode cX7_bestCell 75 = .ok (.iadd, 1) := by decide +kernel
theorem dX7_bestCell_76 : decode cX7_bestCell 76 = .ok (.iload 5, 2) := by decide +kernel
theorem dX7_bestCell_78 : decode cX7_bestCell 78 = .ok (.iastore, 1) := by decide +kernel
theorem dX7_bestCell_79 : decode cX7_bestCell 79 = .ok (.aload_n 0, 1) := by decide +kernel
theorem dX7_bestCell_80 : decode cX7_bestCell 80 = .ok (.aload_n 0, 1) := by decide +kernel
theorem dX7_bestCell_81 : decode cX7_bestCell 81 = .ok (.invokevirtual 205, 3) := by decide +kernel
theorem dX7_bestCell_84 : decode cX7_bestCell 84 = .ok (.invokevirtual 308, 3) := by decide +kernel
theorem dX7_bestCell_87 : decode cX7_bestCell 87 = .ok (.aload_n 0, 1) := by decide +kernel
theorem dX7_bestCell_88 : decode cX7_bestCell 88 = .ok (.getfield 65, 3) := by decide +kernel
theorem dX7_bestCell_91 : decode cX7_bestCell 91 = .ok (.iload_n 1, 1) := by decide +kernel
theorem dX7_bestCell_92 : decode cX7_bestCell 92 = .ok (.iaload, 1) := by decide +kernel
theorem dX7_bestCell_93 : decode cX7_bestCell 93 = .ok (.iload 4, 2) := by decide +kernel
theorem dX7_bestCell_95 : decode cX7_bestCell 95 = .ok (.if_icmp .le 8, 3) := by decide +kernel
theorem dX7_bestCell_98 : decode cX7_bestCell 98 = .ok (.iload 5, 2) := by decide +kernel
theorem dX7_bestCell_100 : decode cX7_bestCell 100 = .ok (.goto 4, 3) := by decide +kernel
theorem dX7_bestCell_103 : decode cX7_bestCell 103 = .ok (.iload_n 3, 1) := by decide +kernel
theorem dX7_bestCell_104 : decode cX7_bestCell 104 = .ok (.istore_n 3, 1) := by decide +kernel
theorem dX7_bestCell_105 : decode cX7_bestCell 105 = .ok (.aload_n 0, 1) := by decide +kernel
theorem dX7_bestCell_106 : decode cX7_bestCell 106 = .ok (.getfield 65, 3) := by decide +kernel
theorem dX7_bestCell_109 : decode cX7_bestCell 109 = .ok (.iload_n 1, 1) := by decide +kernel
theorem dX7_bestCell_110 : decode cX7_bestCell 110 = .ok (.iaload, 1) := by decide +kernel
theorem dX7_bestCell_111 : decode cX7_bestCell 111 = .ok (.iload 4, 2) := by decide +kernel
theorem dX7_bestCell_113 : decode cX7_bestCell 113 = .ok (.if_icmp .le 12, 3) := by decide +kernel
theorem dX7_bestCell_116 : decode cX7_bestCell 116 = .ok (.aload_n 0, 1) := by decide +kernel
theorem dX7_bestCell_117 : decode cX7_bestCell 117 = .ok (.getfield 65, 3) := by decide +kernel
theorem dX7_bestCell_120 : decode cX7_bestCell 120 = .ok (.iload_n 1, 1) := by decide +kernel
theorem dX7_bestCell_121 : decode cX7_bestCell 121 = .ok (.iaload, 1) := by decide +kernel
theorem dX7_bestCell_122 : decode cX7_bestCell 122 = .ok (.goto 5, 3) := by decide +kernel
theorem dX7_bestCell_125 : decode cX7_bestCell 125 = .ok (.iload 4, 2) := by decide +kernel
theorem dX7_bestCell_127 : decode cX7_bestCell 127 = .ok (.istore 4, 2) := by decide +kernel
theorem dX7_bestCell_129 : decode cX7_bestCell 129 = .ok (.iinc 5 1, 3) := by decide +kernel
theorem dX7_bestCell_132 : decode cX7_bestCell 132 = .ok (.goto (-101), 3) := by decide +kernel
theorem dX7_bestCell_135 : decode cX7_bestCell 135 = .ok (.iload_n 2, 1) := by decide +kernel
theorem dX7_bestCell_136 : decode cX7_bestCell 136 = .ok (.ifCond .ne 7, 3) := by decide +kernel
theorem dX7_bestCell_139 : decode cX7_bestCell 139 = .ok (.iload_n 3, 1) := by decide +kernel
theorem dX7_bestCell_140 : decode cX7_bestCell 140 = .ok (.goto 5, 3) := by decide +kernel
theorem dX7_bestCell_143 : decode cX7_bestCell 143 = .ok (.iload 4, 2) := by decide +kernel
theorem dX7_bestCell_145 : decode cX7_bestCell 145 = .ok (.ireturn, 1) := by decide +kernel
theorem dX7_sumOf_0 : decode cX7_sumOf 0 = .ok (.iconst 0, 1) := by decide +kernel
theorem dX7_sumOf_1 : decode cX7_sumOf 1 = .ok (.istore_n 2, 1) := by decide +kernel
theorem dX7_sumOf_2 : decode cX7_sumOf 2 = .ok (.iconst 0, 1) := by decide +kernel
theorem dX7_sumOf_3 : decode cX7_sumOf 3 = .ok (.istore_n 3, 1) := by decide +kernel
theorem dX7_sumOf_4 : decode cX7_sumOf 4 = .ok (.iload_n 3, 1) := by decide +kernel
theorem dX7_sumOf_5 : decode cX7_sumOf 5 = .ok (.aload_n 0, 1) := by decide +kernel
theorem dX7_sumOf_6 : decode cX7_sumOf 6 = .ok (.getfield 179, 3) := by decide +kernel
theorem dX7_sumOf_9 : decode cX7_sumOf 9 = .ok (.if_icmp .ge 32, 3) := by decide +kernel
theorem dX7_sumOf_12 : decode cX7_sumOf 12 = .ok (.iload_n 2, 1) := by decide +kernel
theorem dX7_sumOf_13 : decode cX7_sumOf 13 = .ok (.aload_n 0, 1) := by decide +kernel
theorem dX7_sumOf_14 : decode cX7_sumOf 14 = .ok (.getfield 41, 3) := by decide +kernel
theorem dX7_sumOf_17 : decode cX7_sumOf 17 = .ok (.iload_n 3, 1) := by decide +kernel
theorem dX7_sumOf_18 : decode cX7_sumOf 18 = .ok (.iaload, 1) := by decide +kernel
theorem dX7_sumOf_19 : decode cX7_sumOf 19 = .ok (.iload_n 1, 1) := by decide +kernel
theorem dX7_sumOf_20 : decode cX7_sumOf 20 = .ok (.if_icmp .ne 12, 3) := by decide +kernel
theorem dX7_sumOf_23 : decode cX7_sumOf 23 = .ok (.aload_n 0, 1) := by decide +kernel
theorem dX7_sumOf_24 : decode cX7_sumOf 24 = .ok (.getfield 65, 3) := by decide +kernel
theorem dX7_sumOf_27 : decode cX7_sumOf 27 = .ok (.iload_n 3, 1) := by decide +kernel
theorem dX7_sumOf_28 : decode cX7_sumOf 28 = .ok (.iaload, 1) := by decide +kernel
theorem dX7_sumOf_29 : decode cX7_sumOf 29 = .ok (.goto 4, 3) := by decide +kernel
theorem dX7_sumOf_32 : decode cX7_sumOf 32 = .ok (.iconst 0, 1) := by decide +kernel
theorem dX7_sumOf_33 : decode cX7_sumOf 33 = .ok (.iadd, 1) := by decide +kernel
theorem dX7_sumOf_34 : decode cX7_sumOf 34 = .ok (.istore_n 2, 1) := by decide +kernel
theorem dX7_sumOf_35 : decode cX7_sumOf 35 = .ok (.iinc 3 1, 3) := by decide +kernel
theorem dX7_sumOf_38 : decode cX7_sumOf 38 = .ok (.goto (-34), 3) := by decide +kernel
theorem dX7_sumOf_41 : decode cX7_sumOf 41 = .ok (.iload_n 2, 1) := by decide +kernel
theorem dX7_sumOf_42 : decode cX7_sumOf 42 = .ok (.ireturn, 1) := by decide +kernel
theorem dX7_isFor_0 : decode cX7_isFor 0 = .ok (.aload_n 0, 1) := by decide +kernel
theorem dX7_isFor_1 : decode cX7_isFor 1 = .ok (.aload_n 0, 1) := by decide +kernel
theorem dX7_isFor_2 : decode cX7_isFor 2 = .ok (.getfield 53, 3) := by decide +kernel
theorem dX7_isFor_5 : decode cX7_isFor 5 = .ok (.iload_n 1, 1) := by decide +kernel
theorem dX7_isFor_6 : decode cX7_isFor 6 = .ok (.invokevirtual 233, 3) := by decide +kernel
theorem dX7_isFor_9 : decode cX7_isFor 9 = .ok (.istore 4, 2) := by decide +kernel
theorem dX7_isFor_11 : decode cX7_isFor 11 = .ok (.iload 4, 2) := by decide +kernel
theorem dX7_isFor_13 : decode cX7_isFor 13 = .ok (.iconst (-1), 1) := by decide +kernel
theorem dX7_isFor_14 : decode cX7_isFor 14 = .ok (.if_icmp .eq 15, 3) := by decide +kernel
theorem dX7_isFor_17 : decode cX7_isFor 17 = .ok (.iload 4, 2) := by decide +kernel
theorem dX7_isFor_19 : decode cX7_isFor 19 = .ok (.iload_n 2, 1) := by decide +kernel
theorem dX7_isFor_20 : decode cX7_isFor 20 = .ok (.if_icmp .eq 9, 3) := by decide +kernel
theorem dX7_isFor_23 : decode cX7_isFor 23 = .ok (.iload 4, 2) := by decide +kernel
theorem dX7_isFor_25 : decode cX7_isFor 25 = .ok (.iload_n 3, 1) := by decide +kernel
theorem dX7_isFor_26 : decode cX7_isFor 26 = .ok (.if_icmp .ne 7, 3) := by decide +kernel
theorem dX7_isFor_29 : decode cX7_isFor 29 = .ok (.iconst 1, 1) := by decide +kernel
theorem dX7_isFor_30 : decode cX7_isFor 30 = .ok (.goto 4, 3) := by decide +kernel
theorem dX7_isFor_33 : decode cX7_isFor 33 = .ok (.iconst 0, 1) := by decide +kernel
theorem dX7_isFor_34 : decode cX7_isFor 34 = .ok (.ireturn, 1) := by decide +kernel
theorem dX7_bestTwo_0 : decode cX7_bestTwo 0 = .ok (.aload_n 0, 1) := by decide +kernel
theorem dX7_bestTwo_1 : decode cX7_bestTwo 1 = .ok (.iload_n 1, 1) := by decide +kernel
theorem dX7_bestTwo_2 : decode cX7_bestTwo 2 = .ok (.invokevirtual 216, 3) := by decide +kernel
theorem dX7_bestTwo_5 : decode cX7_bestTwo 5 = .ok (.ifCond .eq 16, 3) := by decide +kernel
theorem dX7_bestTwo_8 : decode cX7_bestTwo 8 = .ok (.aload_n 0, 1) := by decide +kernel
theorem dX7_bestTwo_9 : decode cX7_bestTwo 9 = .ok (.iload_n 2, 1) := by decide +kernel
theorem dX7_bestTwo_10 : decode cX7_bestTwo 10 = .ok (.invokevirtual 216, 3) := by decide +kernel
theorem dX7_bestTwo_13 : decode cX7_bestTwo 13 = .ok (.ifCond .eq 8, 3) := by decide +kernel
theorem dX7_bestTwo_16 : decode cX7_bestTwo 16 = .ok (.iload_n 1, 1) := by decide +kernel
theorem dX7_bestTwo_17 : decode cX7_bestTwo 17 = .ok (.iload_n 2, 1) := by decide +kernel
theorem dX7_bestTwo_18 : decode cX7_bestTwo 18 = .ok (.if_icmp .ne 6, 3) := by decide +kernel
theorem dX7_bestTwo_21 : decode cX7_bestTwo 21 = .ok (.ldc 219, 2) := by decide +kernel
theorem dX7_bestTwo_23 : decode cX7_bestTwo 23 = .ok (.ireturn, 1) := by decide +kernel
theorem dX7_bestTwo_24 : decode cX7_bestTwo 24 = .ok (.iload_n 3, 1) := by decide +kernel
theorem dX7_bestTwo_25 : decode cX7_bestTwo 25 = .ok (.iconst 0, 1) := by decide +kernel
theorem dX7_bestTwo_26 : decode cX7_bestTwo 26 = .ok (.iconst 1, 1) := by decide +kernel
theorem dX7_bestTwo_27 : decode cX7_bestTwo 27 = .ok (.invokestatic 85, 3) := by decide +kernel
theorem dX7_bestTwo_30 : decode cX7_bestTwo 30 = .ok (.ifCond .ne 6, 3) := by decide +kernel
theorem dX7_bestTwo_33 : decode cX7_bestTwo 33 = .ok (.ldc 89, 2) := by decide +kernel
theorem dX7_bestTwo_35 : decode cX7_bestTwo 35 = .ok (.ireturn, 1) := by decide +kernel
theorem dX7_bestTwo_36 : decode cX7_bestTwo 36 = .ok (.iconst 0, 1) := by decide +kernel
theorem dX7_bestTwo_37 : decode cX7_bestTwo 37 = .ok (.istore 4, 2) := by decide +kernel
theorem dX7_bestTwo_39 : decode cX7_bestTwo 39 = .ok (.iconst (-1), 1) := by decide +kernel
theorem dX7_bestTwo_40 : decode cX7_bestTwo 40 = .ok (.istore 5, 2) := by decide +kernel
theorem dX7_bestTwo_42 : decode cX7_bestTwo 42 = .ok (.iconst 0, 1) := by decide +kernel
theorem dX7_bestTwo_43 : decode cX7_bestTwo 43 = .ok (.istore 6, 2) := by decide +kernel
theorem dX7_bestTwo_45 : decode cX7_bestTwo 45 = .ok (.iload 6, 2) := by decide +kernel
theorem dX7_bestTwo_47 : decode cX7_bestTwo 47 = .ok (.aload_n 0, 1) := by decide +kernel
theorem dX7_bestTwo_48 : decode cX7_bestTwo 48 = .ok (.getfield 173, 3) := by decide +kernel
theorem dX7_bestTwo_51 : decode cX7_bestTwo 51 = .ok (.if_icmp .ge 159, 3) := by decide +kernel
theorem dX7_bestTwo_54 : decode cX7_bestTwo 54 = .ok (.iconst 0, 1) := by decide +kernel
theorem dX7_bestTwo_55 : decode cX7_bestTwo 55 = .ok (.istore 7, 2) := by decide +kernel
theorem dX7_bestTwo_57 : decode cX7_bestTwo 57 = .ok (.iload 7, 2) := by decide +kernel
theorem dX7_bestTwo_59 : decode cX7_bestTwo 59 = .ok (.aload_n 0, 1) := by decide +kernel
theorem dX7_bestTwo_60 : decode cX7_bestTwo 60 = .ok (.getfield 173, 3) := by decide +kernel
theorem dX7_bestTwo_63 : decode cX7_bestTwo 63 = .ok (.if_icmp .ge 141, 3) := by decide +kernel
theorem dX7_bestTwo_66 : decode cX7_bestTwo 66 = .ok (.iload 6, 2) := by decide +kernel
theorem dX7_bestTwo_68 : decode cX7_bestTwo 68 = .ok (.iload 7, 2) := by decide +kernel
theorem dX7_bestTwo_70 : decode cX7_bestTwo 70 = .ok (.if_icmp .eq 128, 3) := by decide +kernel
theorem dX7_bestTwo_73 : decode cX7_bestTwo 73 = .ok (.aload_n 0, 1) := by decide +kernel
theorem dX7_bestTwo_74 : decode cX7_bestTwo 74 = .ok (.iload 6, 2) := by decide +kernel
theorem dX7_bestTwo_76 : decode cX7_bestTwo 76 = .ok (.iload_n 1, 1) := by decide +kernel
theorem dX7_bestTwo_77 : decode cX7_bestTwo 77 = .ok (.iload_n 2, 1) := by decide +kernel
theorem dX7_bestTwo_78 : decode cX7_bestTwo 78 = .ok (.invokevirtual 312, 3) := by decide +kernel
theorem dX7_bestTwo_81 : decode cX7_bestTwo 81 = .ok (.ifCond .eq 117, 3) := by decide +kernel
theorem dX7_bestTwo_84 : decode cX7_bestTwo 84 = .ok (.aload_n 0, 1) := by decide +kernel
theorem dX7_bestTwo_85 : decode cX7_bestTwo 85 = .ok (.iload 7, 2) := by decide +kernel
theorem dX7_bestTwo_87 : decode cX7_bestTwo 87 = .ok (.iload_n 1, 1) := by decide +kernel
theorem dX7_bestTwo_88 : decode cX7_bestTwo 88 = .ok (.iload_n 2, 1) := by decide +kernel
theorem dX7_bestTwo_89 : decode cX7_bestTwo 89 = .ok (.invokevirtual 312, 3) := by decide +kernel
theorem dX7_bestTwo_92 : decode cX7_bestTwo 92 = .ok (.ifCond .eq 106, 3) := by decide +kernel
theorem dX7_bestTwo_95 : decode cX7_bestTwo 95 = .ok (.aload_n 0, 1) := by decide +kernel
theorem dX7_bestTwo_96 : decode cX7_bestTwo 96 = .ok (.invokevirtual 305, 3) := by decide +kernel
theorem dX7_bestTwo_99 : decode cX7_bestTwo 99 = .ok (.aload_n 0, 1) := by decide +kernel
theorem dX7_bestTwo_100 : decode cX7_bestTwo 100 = .ok (.getfield 56, 3) := by decide +kernel
theorem dX7_bestTwo_103 : decode cX7_bestTwo 103 = .ok (.bipush 15, 2) := by decide +kernel
theorem dX7_bestTwo_105 : decode cX7_bestTwo 105 = .ok (.iload_n 1, 1) := by decide +kernel
theorem dX7_bestTwo_106 : decode cX7_bestTwo 106 = .ok (.iadd, 1) := by decide +kernel
theorem dX7_bestTwo_107 : decode cX7_bestTwo 107 = .ok (.iload 6, 2) := by decide +kernel
theorem dX7_bestTwo_109 : decode cX7_bestTwo 109 = .ok (.iastore, 1) := by decide +kernel
theorem dX7_bestTwo_110 : decode cX7_bestTwo 110 = .ok (.aload_n 0, 1) := by decide +kernel
theorem dX7_bestTwo_111 : decode cX7_bestTwo 111 = .ok (.getfield 56, 3) := by decide +kernel
theorem dX7_bestTwo_114 : decode cX7_bestTwo 114 = .ok (.bipush 15, 2) := by decide +kernel
theorem dX7_bestTwo_116 : decode cX7_bestTwo 116 = .ok (.iload_n 2, 1) := by decide +kernel
theorem dX7_bestTwo_117 : decode cX7_bestTwo 117 = .ok (.iadd, 1) := by decide +kernel
theorem dX7_bestTwo_118 : decode cX7_bestTwo 118 = .ok (.iload 7, 2) := by decide +kernel
theorem dX7_bestTwo_120 : decode cX7_bestTwo 120 = .ok (.iastore, 1) := by decide +kernel
theorem dX7_bestTwo_121 : decode cX7_bestTwo 121 = .ok (.aload_n 0, 1) := by decide +kernel
theorem dX7_bestTwo_122 : decode cX7_bestTwo 122 = .ok (.bipush 7, 2) := by decide +kernel
theorem dX7_bestTwo_124 : decode cX7_bestTwo 124 = .ok (.aload_n 0, 1) := by decide +kernel
theorem dX7_bestTwo_125 : decode cX7_bestTwo 125 = .ok (.invokevirtual 205, 3) := by decide +kernel
theorem dX7_bestTwo_128 : decode cX7_bestTwo 128 = .ok (.imul, 1) := by decide +kernel
theorem dX7_bestTwo_129 : decode cX7_bestTwo 129 = .ok (.invokevirtual 308, 3) := by decide +kernel
theorem dX7_bestTwo_132 : decode cX7_bestTwo 132 = .ok (.aload_n 0, 1) := by decide +kernel
theorem dX7_bestTwo_133 : decode cX7_bestTwo 133 = .ok (.iconst 0, 1) := by decide +kernel
theorem dX7_bestTwo_134 : decode cX7_bestTwo 134 = .ok (.invokevirtual 315, 3) := by decide +kernel
theorem dX7_bestTwo_137 : decode cX7_bestTwo 137 = .ok (.aload_n 0, 1) := by decide +kernel
theorem dX7_bestTwo_138 : decode cX7_bestTwo 138 = .ok (.iconst 1, 1) := by decide +kernel
theorem dX7_bestTwo_139 : decode cX7_bestTwo 139 = .ok (.invokevirtual 315, 3) := by decide +kernel
theorem dX7_bestTwo_142 : decode cX7_bestTwo 142 = .ok (.if_icmp .ge 11, 3) := by decide +kernel
theorem dX7_bestTwo_145 : decode cX7_bestTwo 145 = .ok (.aload_n 0, 1) := by decide +kernel
theorem dX7_bestTwo_146 : decode cX7_bestTwo 146 = .ok (.iconst 0, 1) := by decide +kernel
theorem dX7_bestTwo_147 : decode cX7_bestTwo 147 = .ok (.invokevirtual 315, 3) := by decide +kernel
theorem dX7_bestTwo_150 : decode cX7_bestTwo 150 = .ok (.goto 8, 3) := by decide +kernel
theorem dX7_bestTwo_153 : decode cX7_bestTwo 153 = .ok (.aload_n 0, 1) := by decide +kernel
theorem dX7_bestTwo_154 : decode cX7_bestTwo 154 = .ok (.iconst 1, 1) := by decide +kernel
theorem dX7_bestTwo_155 : decode cX7_bestTwo 155 = .ok (.invokevirtual 315, 3) := by decide +kernel
theorem dX7_bestTwo_158 : decode cX7_bestTwo 158 = .ok (.istore 8, 2) := by decide +kernel
theorem dX7_bestTwo_160 : decode cX7_bestTwo 160 = .ok (.iload 8, 2) := by decide +kernel
theorem dX7_bestTwo_162 : decode cX7_bestTwo 162 = .ok (.iload 5, 2) := by decide +kernel
theorem dX7_bestTwo_164 : decode cX7_bestTwo 164 = .ok (.if_icmp .le 14, 3) := by decide +kernel
theorem dX7_bestTwo_167 : decode cX7_bestTwo 167 = .ok (.bipush 100, 2) := by decide +kernel
theorem dX7_bestTwo_169 : decode cX7_bestTwo 169 = .ok (.iload 6, 2) := by decide +kernel
theorem dX7_bestTwo_171 : decode cX7_bestTwo 171 = .ok (.imul, 1) := by decide +kernel
theorem dX7_bestTwo_172 : decode cX7_bestTwo 172 = .ok (.iload 7, 2) := by decide +kernel
theorem dX7_bestTwo_174 : decode cX7_bestTwo 174 = .ok (.iadd, 1) := by decide +kernel
theorem dX7_bestTwo_175 : decode cX7_bestTwo 175 = .ok (.goto 5, 3) := by decide +kernel
theorem dX7_bestTwo_178 : decode cX7_bestTwo 178 = .ok (.iload 4, 2) := by decide +kernel
theorem dX7_bestTwo_180 : decode cX7_bestTwo 180 = .ok (.istore 4, 2) := by decide +kernel
theorem dX7_bestTwo_182 : decode cX7_bestTwo 182 = .ok (.iload 8, 2) := by decide +kernel
theorem dX7_bestTwo_184 : decode cX7_bestTwo 184 = .ok (.iload 5, 2) := by decide +kernel
theorem dX7_bestTwo_186 : decode cX7_bestTwo 186 = .ok (.if_icmp .le 8, 3) := by decide +kernel
theorem dX7_bestTwo_189 : decode cX7_bestTwo 189 = .ok (.iload 8, 2) := by decide +kernel
theorem dX7_bestTwo_191 : decode cX7_bestTwo 191 = .ok (.goto 5, 3) := by decide +kernel
theorem dX7_bestTwo_194 : decode cX7_bestTwo 194 = .ok (.iload 5, 2) := by decide +kernel
theorem dX7_bestTwo_196 : decode cX7_bestTwo 196 = .ok (.istore 5, 2) := by decide +kernel
theorem dX7_bestTwo_198 : decode cX7_bestTwo 198 = .ok (.iinc 7 1, 3) := by decide +kernel
theorem dX7_bestTwo_201 : decode cX7_bestTwo 201 = .ok (.goto (-144), 3) := by decide +kernel
theorem dX7_bestTwo_204 : decode cX7_bestTwo 204 = .ok (.iinc 6 1, 3) := by decide +kernel
theorem dX7_bestTwo_207 : decode cX7_bestTwo 207 = .ok (.goto (-162), 3) := by decide +kernel
theorem dX7_bestTwo_210 : decode cX7_bestTwo 210 = .ok (.iload_n 3, 1) := by decide +kernel
theorem dX7_bestTwo_211 : decode cX7_bestTwo 211 = .ok (.ifCond .ne 8, 3) := by decide +kernel
theorem dX7_bestTwo_214 : decode cX7_bestTwo 214 = .ok (.iload 4, 2) := by decide +kernel
theorem dX7_bestTwo_216 : decode cX7_bestTwo 216 = .ok (.goto 5, 3) := by decide +kernel
theorem dX7_bestTwo_219 : decode cX7_bestTwo 219 = .ok (.iload 5, 2) := by decide +kernel
theorem dX7_bestTwo_221 : decode cX7_bestTwo 221 = .ok (.ireturn, 1) := by decide +kernel
theorem dX7_tookWith_0 : decode cX7_tookWith 0 = .ok (.aload_n 0, 1) := by decide +kernel
theorem dX7_tookWith_1 : decode cX7_tookWith 1 = .ok (.invokevirtual 305, 3) := by decide +kernel
theorem dX7_tookWith_4 : decode cX7_tookWith 4 = .ok (.aload_n 0, 1) := by decide +kernel
theorem dX7_tookWith_5 : decode cX7_tookWith 5 = .ok (.getfield 56, 3) := by decide +kernel
theorem dX7_tookWith_8 : decode cX7_tookWith 8 = .ok (.iconst 2, 1) := by decide +kernel
theorem dX7_tookWith_9 : decode cX7_tookWith 9 = .ok (.iload_n 1, 1) := by decide +kernel
theorem dX7_tookWith_10 : decode cX7_tookWith 10 = .ok (.iastore, 1) := by decide +kernel
theorem dX7_tookWith_11 : decode cX7_tookWith 11 = .ok (.aload_n 0, 1) := by decide +kernel
theorem dX7_tookWith_12 : decode cX7_tookWith 12 = .ok (.iload_n 2, 1) := by decide +kernel
theorem dX7_tookWith_13 : decode cX7_tookWith 13 = .ok (.invokevirtual 308, 3) := by decide +kernel
theorem dX7_tookWith_16 : decode cX7_tookWith 16 = .ok (.aload_n 0, 1) := by decide +kernel
theorem dX7_tookWith_17 : decode cX7_tookWith 17 = .ok (.iconst 0, 1) := by decide +kernel
theorem dX7_tookWith_18 : decode cX7_tookWith 18 = .ok (.invokevirtual 315, 3) := by decide +kernel
theorem dX7_tookWith_21 : decode cX7_tookWith 21 = .ok (.aload_n 0, 1) := by decide +kernel
theorem dX7_tookWith_22 : decode cX7_tookWith 22 = .ok (.iconst 1, 1) := by decide +kernel
theorem dX7_tookWith_23 : decode cX7_tookWith 23 = .ok (.invokevirtual 315, 3) := by decide +kernel
theorem dX7_tookWith_26 : decode cX7_tookWith 26 = .ok (.iadd, 1) := by decide +kernel
theorem dX7_tookWith_27 : decode cX7_tookWith 27 = .ok (.ireturn, 1) := by decide +kernel
theorem dX7_lampCosts_0 : decode cX7_lampCosts 0 = .ok (.aload_n 0, 1) := by decide +kernel
theorem dX7_lampCosts_1 : decode cX7_lampCosts 1 = .ok (.iload_n 1, 1) := by decide +kernel
theorem dX7_lampCosts_2 : decode cX7_lampCosts 2 = .ok (.iconst 0, 1) := by decide +kernel
theorem dX7_lampCosts_3 : decode cX7_lampCosts 3 = .ok (.bipush 99, 2) := by decide +kernel
theorem dX7_lampCosts_5 : decode cX7_lampCosts 5 = .ok (.invokestatic 85, 3) := by decide +kernel
theorem dX7_lampCosts_8 : decode cX7_lampCosts 8 = .ok (.invokevirtual 273, 3) := by decide +kernel
theorem dX7_lampCosts_11 : decode cX7_lampCosts 11 = .ok (.istore_n 2, 1) := by decide +kernel
theorem dX7_lampCosts_12 : decode cX7_lampCosts 12 = .ok (.iload_n 2, 1) := by decide +kernel
theorem dX7_lampCosts_13 : decode cX7_lampCosts 13 = .ok (.ifCond .ge 7, 3) := by decide +kernel
theorem dX7_lampCosts_16 : decode cX7_lampCosts 16 = .ok (.iload_n 2, 1) := by decide +kernel
theorem dX7_lampCosts_17 : decode cX7_lampCosts 17 = .ok (.goto 16, 3) := by decide +kernel
theorem dX7_lampCosts_20 : decode cX7_lampCosts 20 = .ok (.aload_n 0, 1) := by decide +kernel
theorem dX7_lampCosts_21 : decode cX7_lampCosts 21 = .ok (.iconst 0, 1) := by decide +kernel
theorem dX7_lampCosts_22 : decode cX7_lampCosts 22 = .ok (.iload_n 1, 1) := by decide +kernel
theorem dX7_lampCosts_23 : decode cX7_lampCosts 23 = .ok (.invokevirtual 318, 3) := by decide +kernel
theorem dX7_lampCosts_26 : decode cX7_lampCosts 26 = .ok (.aload_n 0, 1) := by decide +kernel
theorem dX7_lampCosts_27 : decode cX7_lampCosts 27 = .ok (.iconst 1, 1) := by decide +kernel
theorem dX7_lampCosts_28 : decode cX7_lampCosts 28 = .ok (.iload_n 1, 1) := by decide +kernel
theorem dX7_lampCosts_29 : decode cX7_lampCosts 29 = .ok (.invokevirtual 318, 3) := by decide +kernel
theorem dX7_lampCosts_32 : decode cX7_lampCosts 32 = .ok (.isub, 1) := by decide +kernel
theorem dX7_lampCosts_33 : decode cX7_lampCosts 33 = .ok (.ireturn, 1) := by decide +kernel
theorem dX7_thirsty_0 : decode cX7_thirsty 0 = .ok (.iload_n 1, 1) := by decide +kernel
theorem dX7_thirsty_1 : decode cX7_thirsty 1 = .ok (.invokestatic 227, 3) := by decide +kernel
theorem dX7_thirsty_4 : decode cX7_thirsty 4 = .ok (.ifCond .ne 6, 3) := by decide +kernel
theorem dX7_thirsty_7 : decode cX7_thirsty 7 = .ok (.ldc 219, 2) := by decide +kernel
theorem dX7_thirsty_9 : decode cX7_thirsty 9 = .ok (.ireturn, 1) := by decide +kernel
theorem dX7_thirsty_10 : decode cX7_thirsty 10 = .ok (.aload_n 0, 1) := by decide +kernel
theorem dX7_thirsty_11 : decode cX7_thirsty 11 = .ok (.getfield 170, 3) := by decide +kernel
theorem dX7_thirsty_14 : decode cX7_thirsty 14 = .ok (.ifCond .ne 6, 3) := by decide +kernel
theorem dX7_thirsty_17 : decode cX7_thirsty 17 = .ok (.ldc 220, 2) := by decide +kernel
theorem dX7_thirsty_19 : decode cX7_thirsty 19 = .ok (.ireturn, 1) := by decide +kernel
theorem dX7_thirsty_20 : decode cX7_thirsty 20 = .ok (.aload_n 0, 1) := by decide +kernel
theorem dX7_thirsty_21 : decode cX7_thirsty 21 = .ok (.invokevirtual 305, 3) := by decide +kernel
theorem dX7_thirsty_24 : decode cX7_thirsty 24 = .ok (.iconst 1, 1) := by decide +kernel
theorem dX7_thirsty_25 : decode cX7_thirsty 25 = .ok (.istore_n 2, 1) := by decide +kernel
theorem dX7_thirsty_26 : decode cX7_thirsty 26 = .ok (.iload_n 2, 1) := by decide +kernel
theorem dX7_thirsty_27 : decode cX7_thirsty 27 = .ok (.bipush 60, 2) := by decide +kernel
theorem dX7_thirsty_29 : decode cX7_thirsty 29 = .ok (.if_icmp .gt 78, 3) := by decide +kernel
theorem dX7_thirsty_32 : decode cX7_thirsty 32 = .ok (.aload_n 0, 1) := by decide +kernel
theorem dX7_thirsty_33 : decode cX7_thirsty 33 = .ok (.getfield 56, 3) := by decide +kernel
theorem dX7_thirsty_36 : decode cX7_thirsty 36 = .ok (.iconst 0, 1) := by decide +kernel
theorem dX7_thirsty_37 : decode cX7_thirsty 37 = .ok (.iaload, 1) := by decide +kernel
theorem dX7_thirsty_38 : decode cX7_thirsty 38 = .ok (.istore_n 3, 1) := by decide +kernel
theorem dX7_thirsty_39 : decode cX7_thirsty 39 = .ok (.aload_n 0, 1) := by decide +kernel
theorem dX7_thirsty_40 : decode cX7_thirsty 40 = .ok (.getfield 56, 3) := by decide +kernel
theorem dX7_thirsty_43 : decode cX7_thirsty 43 = .ok (.iconst 0, 1) := by decide +kernel
theorem dX7_thirsty_44 : decode cX7_thirsty 44 = .ok (.iaload, 1) := by decide +kernel
theorem dX7_thirsty_45 : decode cX7_thirsty 45 = .ok (.iload_n 3, 1) := by decide +kernel
theorem dX7_thirsty_46 : decode cX7_thirsty 46 = .ok (.if_icmp .ne 32, 3) := by decide +kernel
theorem dX7_thirsty_49 : decode cX7_thirsty 49 = .ok (.aload_n 0, 1) := by decide +kernel
theorem dX7_thirsty_50 : decode cX7_thirsty 50 = .ok (.aload_n 0, 1) := by decide +kernel
theorem dX7_thirsty_51 : decode cX7_thirsty 51 = .ok (.getfield 56, 3) := by decide +kernel
theorem dX7_thirsty_54 : decode cX7_thirsty 54 = .ok (.aload_n 0, 1) := by decide +kernel
theorem dX7_thirsty_55 : decode cX7_thirsty 55 = .ok (.aload_n 0, 1) := by decide +kernel
theorem dX7_thirsty_56 : decode cX7_thirsty 56 = .ok (.getfield 56, 3) := by decide +kernel
theorem dX7_thirsty_59 : decode cX7_thirsty 59 = .ok (.invokevirtual 224, 3) := by decide +kernel
theorem dX7_thirsty_62 : decode cX7_thirsty 62 = .ok (.aload_n 0, 1) := by decide +kernel
theorem dX7_thirsty_63 : decode cX7_thirsty 63 = .ok (.aload_n 0, 1) := by decide +kernel
theorem dX7_thirsty_64 : decode cX7_thirsty 64 = .ok (.getfield 56, 3) := by decide +kernel
theorem dX7_thirsty_67 : decode cX7_thirsty 67 = .ok (.invokevirtual 221, 3) := by decide +kernel
theorem dX7_thirsty_70 : decode cX7_thirsty 70 = .ok (.iconst 1, 1) := by decide +kernel
theorem dX7_thirsty_71 : decode cX7_thirsty 71 = .ok (.invokevirtual 266, 3) := by decide +kernel
theorem dX7_thirsty_74 : decode cX7_thirsty 74 = .ok (.pop, 1) := by decide +kernel
theorem dX7_thirsty_75 : decode cX7_thirsty 75 = .ok (.goto (-36), 3) := by decide +kernel
theorem dX7_thirsty_78 : decode cX7_thirsty 78 = .ok (.aload_n 0, 1) := by decide +kernel
theorem dX7_thirsty_79 : decode cX7_thirsty 79 = .ok (.getfield 56, 3) := by decide +kernel
theorem dX7_thirsty_82 : decode cX7_thirsty 82 = .ok (.bipush 7, 2) := by decide +kernel
theorem dX7_thirsty_84 : decode cX7_thirsty 84 = .ok (.iload_n 1, 1) := by decide +kernel
theorem dX7_thirsty_85 : decode cX7_thirsty 85 = .ok (.iadd, 1) := by decide +kernel
theorem dX7_thirsty_86 : decode cX7_thirsty 86 = .ok (.iaload, 1) := by decide +kernel
theorem dX7_thirsty_87 : decode cX7_thirsty 87 = .ok (.aload_n 0, 1) := by decide +kernel
theorem dX7_thirsty_88 : decode cX7_thirsty 88 = .ok (.getfield 53, 3) := by decide +kernel
theorem dX7_thirsty_91 : decode cX7_thirsty 91 = .ok (.bipush 7, 2) := by decide +kernel
theorem dX7_thirsty_93 : decode cX7_thirsty 93 = .ok (.iload_n 1, 1) := by decide +kernel
theorem dX7_thirsty_94 : decode cX7_thirsty 94 = .ok (.iadd, 1) := by decide +kernel
theorem dX7_thirsty_95 : decode cX7_thirsty 95 = .ok (.iaload, 1) := by decide +kernel
theorem dX7_thirsty_96 : decode cX7_thirsty 96 = .ok (.if_icmp .le 5, 3) := by decide +kernel
theorem dX7_thirsty_99 : decode cX7_thirsty 99 = .ok (.iload_n 2, 1) := by decide +kernel
theorem dX7_thirsty_100 : decode cX7_thirsty 100 = .ok (.ireturn, 1) := by decide +kernel
theorem dX7_thirsty_101 : decode cX7_thirsty 101 = .ok (.iinc 2 1, 3) := by decide +kernel
theorem dX7_thirsty_104 : decode cX7_thirsty 104 = .ok (.goto (-78), 3) := by decide +kernel
theorem dX7_thirsty_107 : decode cX7_thirsty 107 = .ok (.iconst (-1), 1) := by decide +kernel
theorem dX7_thirsty_108 : decode cX7_thirsty 108 = .ok (.ireturn, 1) := by decide +kernel
theorem dX7_lasts_0 : decode cX7_lasts 0 = .ok (.iload_n 1, 1) := by decide +kernel
theorem dX7_lasts_1 : decode cX7_lasts 1 = .ok (.invokestatic 227, 3) := by decide +kernel
theorem dX7_lasts_4 : decode cX7_lasts 4 = .ok (.ifCond .ne 6, 3) := by decide +kernel
theorem dX7_lasts_7 : decode cX7_lasts 7 = .ok (.ldc 219, 2) := by decide +kernel
theorem dX7_lasts_9 : decode cX7_lasts 9 = .ok (.ireturn, 1) := by decide +kernel
theorem dX7_lasts_10 : decode cX7_lasts 10 = .ok (.aload_n 0, 1) := by decide +kernel
theorem dX7_lasts_11 : decode cX7_lasts 11 = .ok (.getfield 50, 3) := by decide +kernel
theorem dX7_lasts_14 : decode cX7_lasts 14 = .ok (.iload_n 1, 1) := by decide +kernel
theorem dX7_lasts_15 : decode cX7_lasts 15 = .ok (.iaload, 1) := by decide +kernel
theorem dX7_lasts_16 : decode cX7_lasts 16 = .ok (.ifCond .ne 9, 3) := by decide +kernel
theorem dX7_lasts_19 : decode cX7_lasts 19 = .ok (.sipush 999, 3) := by decide +kernel
theorem dX7_lasts_22 : decode cX7_lasts 22 = .ok (.goto 18, 3) := by decide +kernel
theorem dX7_lasts_25 : decode cX7_lasts 25 = .ok (.aload_n 0, 1) := by decide +kernel
theorem dX7_lasts_26 : decode cX7_lasts 26 = .ok (.getfield 53, 3) := by decide +kernel
theorem dX7_lasts_29 : decode cX7_lasts 29 = .ok (.iconst 5, 1) := by decide +kernel
theorem dX7_lasts_30 : decode cX7_lasts 30 = .ok (.iload_n 1, 1) := by decide +kernel
theorem dX7_lasts_31 : decode cX7_lasts 31 = .ok (.iadd, 1) := by decide +kernel
theorem dX7_lasts_32 : decode cX7_lasts 32 = .ok (.iaload, 1) := by decide +kernel
theorem dX7_lasts_33 : decode cX7_lasts 33 = .ok (.aload_n 0, 1) := by decide +kernel
theorem dX7_lasts_34 : decode cX7_lasts 34 = .ok (.getfield 50, 3) := by decide +kernel
theorem dX7_lasts_37 : decode cX7_lasts 37 = .ok (.iload_n 1, 1) := by decide +kernel
theorem dX7_lasts_38 : decode cX7_lasts 38 = .ok (.iaload, 1) := by decide +kernel
theorem dX7_lasts_39 : decode cX7_lasts 39 = .ok (.idiv, 1) := by decide +kernel
theorem dX7_lasts_40 : decode cX7_lasts 40 = .ok (.istore_n 2, 1) := by decide +kernel
theorem dX7_lasts_41 : decode cX7_lasts 41 = .ok (.iload_n 2, 1) := by decide +kernel
theorem dX7_lasts_42 : decode cX7_lasts 42 = .ok (.sipush 999, 3) := by decide +kernel
theorem dX7_lasts_45 : decode cX7_lasts 45 = .ok (.if_icmp .le 9, 3) := by decide +kernel
theorem dX7_lasts_48 : decode cX7_lasts 48 = .ok (.sipush 999, 3) := by decide +kernel
theorem dX7_lasts_51 : decode cX7_lasts 51 = .ok (.goto 4, 3) := by decide +kernel
theorem dX7_lasts_54 : decode cX7_lasts 54 = .ok (.iload_n 2, 1) := by decide +kernel
theorem dX7_lasts_55 : decode cX7_lasts 55 = .ok (.ireturn, 1) := by decide +kernel
theorem dX7_both_0 : decode cX7_both 0 = .ok (.aload_n 0, 1) := by decide +kernel
theorem dX7_both_1 : decode cX7_both 1 = .ok (.getfield 170, 3) := by decide +kernel
theorem dX7_both_4 : decode cX7_both 4 = .ok (.ifCond .ne 6, 3) := by decide +kernel
theorem dX7_both_7 : decode cX7_both 7 = .ok (.ldc 220, 2) := by decide +kernel
theorem dX7_both_9 : decode cX7_both 9 = .ok (.ireturn, 1) := by decide +kernel
theorem dX7_both_10 : decode cX7_both 10 = .ok (.iconst 0, 1) := by decide +kernel
theorem dX7_both_11 : decode cX7_both 11 = .ok (.istore_n 1, 1) := by decide +kernel
theorem dX7_both_12 : decode cX7_both 12 = .ok (.iload_n 1, 1) := by decide +kernel
theorem dX7_both_13 : decode cX7_both 13 = .ok (.bipush 7, 2) := by decide +kernel
theorem dX7_both_15 : decode cX7_both 15 = .ok (.if_icmp .ge 41, 3) := by decide +kernel
theorem dX7_both_18 : decode cX7_both 18 = .ok (.aload_n 0, 1) := by decide +kernel
theorem dX7_both_19 : decode cX7_both 19 = .ok (.getfield 47, 3) := by decide +kernel
theorem dX7_both_22 : decode cX7_both 22 = .ok (.iconst 0, 1) := by decide +kernel
theorem dX7_both_23 : decode cX7_both 23 = .ok (.iaload, 1) := by decide +kernel
theorem dX7_both_24 : decode cX7_both 24 = .ok (.aload_n 0, 1) := by decide +kernel
theorem dX7_both_25 : decode cX7_both 25 = .ok (.getfield 47, 3) := by decide +kernel
theorem dX7_both_28 : decode cX7_both 28 = .ok (.iconst 1, 1) := by decide +kernel
theorem dX7_both_29 : decode cX7_both 29 = .ok (.iaload, 1) := by decide +kernel
theorem dX7_both_30 : decode cX7_both 30 = .ok (.iand, 1) := by decide +kernel
theorem dX7_both_31 : decode cX7_both 31 = .ok (.aload_n 0, 1) := by decide +kernel
theorem dX7_both_32 : decode cX7_both 32 = .ok (.getfield 53, 3) := by decide +kernel
theorem dX7_both_35 : decode cX7_both 35 = .ok (.iconst 0, 1) := by decide +kernel
theorem dX7_both_36 : decode cX7_both 36 = .ok (.iaload, 1) := by decide +kernel
theorem dX7_both_37 : decode cX7_both 37 = .ok (.iload_n 1, 1) := by decide +kernel
theorem dX7_both_38 : decode cX7_both 38 = .ok (.iadd, 1) := by decide +kernel
theorem dX7_both_39 : decode cX7_both 39 = .ok (.bipush 7, 2) := by decide +kernel
theorem dX7_both_41 : decode cX7_both 41 = .ok (.irem, 1) := by decide +kernel
theorem dX7_both_42 : decode cX7_both 42 = .ok (.invokestatic 197, 3) := by decide +kernel
theorem dX7_both_45 : decode cX7_both 45 = .ok (.ifCond .eq 5, 3) := by decide +kernel
theorem dX7_both_48 : decode cX7_both 48 = .ok (.iload_n 1, 1) := by decide +kernel
theorem dX7_both_49 : decode cX7_both 49 = .ok (.ireturn, 1) := by decide +kernel
theorem dX7_both_50 : decode cX7_both 50 = .ok (.iinc 1 1, 3) := by decide +kernel
theorem dX7_both_53 : decode cX7_both 53 = .ok (.goto (-41), 3) := by decide +kernel
theorem dX7_both_56 : decode cX7_both 56 = .ok (.iconst (-1), 1) := by decide +kernel
theorem dX7_both_57 : decode cX7_both 57 = .ok (.ireturn, 1) := by decide +kernel
theorem dX7_apart_0 : decode cX7_apart 0 = .ok (.aload_n 0, 1) := by decide +kernel
theorem dX7_apart_1 : decode cX7_apart 1 = .ok (.iload_n 1, 1) := by decide +kernel
theorem dX7_apart_2 : decode cX7_apart 2 = .ok (.iconst 0, 1) := by decide +kernel
theorem dX7_apart_3 : decode cX7_apart 3 = .ok (.bipush 99, 2) := by decide +kernel
theorem dX7_apart_5 : decode cX7_apart 5 = .ok (.invokestatic 85, 3) := by decide +kernel
theorem dX7_apart_8 : decode cX7_apart 8 = .ok (.invokevirtual 273, 3) := by decide +kernel
theorem dX7_apart_11 : decode cX7_apart 11 = .ok (.istore_n 2, 1) := by decide +kernel
theorem dX7_apart_12 : decode cX7_apart 12 = .ok (.iload_n 2, 1) := by decide +kernel
theorem dX7_apart_13 : decode cX7_apart 13 = .ok (.ifCond .ge 5, 3) := by decide +kernel
theorem dX7_apart_16 : decode cX7_apart 16 = .ok (.iload_n 2, 1) := by decide +kernel
theorem dX7_apart_17 : decode cX7_apart 17 = .ok (.ireturn, 1) := by decide +kernel
theorem dX7_apart_18 : decode cX7_apart 18 = .ok (.iconst 0, 1) := by decide +kernel
theorem dX7_apart_19 : decode cX7_apart 19 = .ok (.istore_n 3, 1) := by decide +kernel
theorem dX7_apart_20 : decode cX7_apart 20 = .ok (.iconst 0, 1) := by decide +kernel
theorem dX7_apart_21 : decode cX7_apart 21 = .ok (.istore 4, 2) := by decide +kernel
theorem dX7_apart_23 : decode cX7_apart 23 = .ok (.iload 4, 2) := by decide +kernel
theorem dX7_apart_25 : decode cX7_apart 25 = .ok (.iload_n 1, 1) := by decide +kernel
theorem dX7_apart_26 : decode cX7_apart 26 = .ok (.if_icmp .ge 48, 3) := by decide +kernel
theorem dX7_apart_29 : decode cX7_apart 29 = .ok (.iload_n 3, 1) := by decide +kernel
theorem dX7_apart_30 : decode cX7_apart 30 = .ok (.aload_n 0, 1) := by decide +kernel
theorem dX7_apart_31 : decode cX7_apart 31 = .ok (.getfield 47, 3) := by decide +kernel
theorem dX7_apart_34 : decode cX7_apart 34 = .ok (.iconst 0, 1) := by decide +kernel
theorem dX7_apart_35 : decode cX7_apart 35 = .ok (.iaload, 1) := by decide +kernel
theorem dX7_apart_36 : decode cX7_apart 36 = .ok (.aload_n 0, 1) := by decide +kernel
theorem dX7_apart_37 : decode cX7_apart 37 = .ok (.getfield 47, 3) := by decide +kernel
theorem dX7_apart_40 : decode cX7_apart 40 = .ok (.iconst 1, 1) := by decide +kernel
theorem dX7_apart_41 : decode cX7_apart 41 = .ok (.iaload, 1) := by decide +kernel
theorem dX7_apart_42 : decode cX7_apart 42 = .ok (.ixor, 1) := by decide +kernel
theorem dX7_apart_43 : decode cX7_apart 43 = .ok (.aload_n 0, 1) := by decide +kernel
theorem dX7_apart_44 : decode cX7_apart 44 = .ok (.getfield 53, 3) := by decide +kernel
theorem dX7_apart_47 : decode cX7_apart 47 = .ok (.iconst 0, 1) := by decide +kernel
theorem dX7_apart_48 : decode cX7_apart 48 = .ok (.iaload, 1) := by decide +kernel
theorem dX7_apart_49 : decode cX7_apart 49 = .ok (.iload 4, 2) := by decide +kernel
theorem dX7_apart_51 : decode cX7_apart 51 = .ok (.iadd, 1) := by decide +kernel
theorem dX7_apart_52 : decode cX7_apart 52 = .ok (.bipush 7, 2) := by decide +kernel
theorem dX7_apart_54 : decode cX7_apart 54 = .ok (.irem, 1) := by decide +kernel
theorem dX7_apart_55 : decode cX7_apart 55 = .ok (.invokestatic 197, 3) := by decide +kernel
theorem dX7_apart_58 : decode cX7_apart 58 = .ok (.ifCond .eq 7, 3) := by decide +kernel
theorem dX7_apart_61 : decode cX7_apart 61 = .ok (.iconst 1, 1) := by decide +kernel
theorem dX7_apart_62 : decode cX7_apart 62 = .ok (.goto 4, 3) := by decide +kernel
theorem dX7_apart_65 : decode cX7_apart 65 = .ok (.iconst 0, 1) := by decide +kernel
theorem dX7_apart_66 : decode cX7_apart 66 = .ok (.iadd, 1) := by decide +kernel
theorem dX7_apart_67 : decode cX7_apart 67 = .ok (.istore_n 3, 1) := by decide +kernel
theorem dX7_apart_68 : decode cX7_apart 68 = .ok (.iinc 4 1, 3) := by decide +kernel
theorem dX7_apart_71 : decode cX7_apart 71 = .ok (.goto (-48), 3) := by decide +kernel
theorem dX7_apart_74 : decode cX7_apart 74 = .ok (.iload_n 3, 1) := by decide +kernel
theorem dX7_apart_75 : decode cX7_apart 75 = .ok (.ireturn, 1) := by decide +kernel
theorem dX7_ownedBy_0 : decode cX7_ownedBy 0 = .ok (.iconst 0, 1) := by decide +kernel
theorem dX7_ownedBy_1 : decode cX7_ownedBy 1 = .ok (.istore_n 2, 1) := by decide +kernel
theorem dX7_ownedBy_2 : decode cX7_ownedBy 2 = .ok (.iconst 0, 1) := by decide +kernel
theorem dX7_ownedBy_3 : decode cX7_ownedBy 3 = .ok (.istore_n 3, 1) := by decide +kernel
theorem dX7_ownedBy_4 : decode cX7_ownedBy 4 = .ok (.iload_n 3, 1) := by decide +kernel
theorem dX7_ownedBy_5 : decode cX7_ownedBy 5 = .ok (.aload_n 0, 1) := by decide +kernel
theorem dX7_ownedBy_6 : decode cX7_ownedBy 6 = .ok (.getfield 179, 3) := by decide +kernel
theorem dX7_ownedBy_9 : decode cX7_ownedBy 9 = .ok (.if_icmp .ge 27, 3) := by decide +kernel
theorem dX7_ownedBy_12 : decode cX7_ownedBy 12 = .ok (.iload_n 2, 1) := by decide +kernel
theorem dX7_ownedBy_13 : decode cX7_ownedBy 13 = .ok (.aload_n 0, 1) := by decide +kernel
theorem dX7_ownedBy_14 : decode cX7_ownedBy 14 = .ok (.getfield 41, 3) := by decide +kernel
theorem dX7_ownedBy_17 : decode cX7_ownedBy 17 = .ok (.iload_n 3, 1) := by decide +kernel
theorem dX7_ownedBy_18 : decode cX7_ownedBy 18 = .ok (.iaload, 1) := by decide +kernel
theorem dX7_ownedBy_19 : decode cX7_ownedBy 19 = .ok (.iload_n 1, 1) := by decide +kernel
theorem dX7_ownedBy_20 : decode cX7_ownedBy 20 = .ok (.if_icmp .ne 7, 3) := by decide +kernel
theorem dX7_ownedBy_23 : decode cX7_ownedBy 23 = .ok (.iconst 1, 1) := by decide +kernel
theorem dX7_ownedBy_24 : decode cX7_ownedBy 24 = .ok (.goto 4, 3) := by decide +kernel
theorem dX7_ownedBy_27 : decode cX7_ownedBy 27 = .ok (.iconst 0, 1) := by decide +kernel
theorem dX7_ownedBy_28 : decode cX7_ownedBy 28 = .ok (.iadd, 1) := by decide +kernel
theorem dX7_ownedBy_29 : decode cX7_ownedBy 29 = .ok (.istore_n 2, 1) := by decide +kernel
theorem dX7_ownedBy_30 : decode cX7_ownedBy 30 = .ok (.iinc 3 1, 3) := by decide +kernel
theorem dX7_ownedBy_33 : decode cX7_ownedBy 33 = .ok (.goto (-29), 3) := by decide +kernel
theorem dX7_ownedBy_36 : decode cX7_ownedBy 36 = .ok (.iload_n 2, 1) := by decide +kernel
theorem dX7_ownedBy_37 : decode cX7_ownedBy 37 = .ok (.ireturn, 1) := by decide +kernel
theorem dX7_share_0 : decode cX7_share 0 = .ok (.iload_n 2, 1) := by decide +kernel
theorem dX7_share_1 : decode cX7_share 1 = .ok (.invokestatic 227, 3) := by decide +kernel
theorem dX7_share_4 : decode cX7_share 4 = .ok (.ifCond .ne 6, 3) := by decide +kernel
theorem dX7_share_7 : decode cX7_share 7 = .ok (.ldc 219, 2) := by decide +kernel
theorem dX7_share_9 : decode cX7_share 9 = .ok (.ireturn, 1) := by decide +kernel
theorem dX7_share_10 : decode cX7_share 10 = .ok (.iload_n 1, 1) := by decide +kernel
theorem dX7_share_11 : decode cX7_share 11 = .ok (.iconst 0, 1) := by decide +kernel
theorem dX7_share_12 : decode cX7_share 12 = .ok (.sipush 999, 3) := by decide +kernel
theorem dX7_share_15 : decode cX7_share 15 = .ok (.invokestatic 85, 3) := by decide +kernel
theorem dX7_share_18 : decode cX7_share 18 = .ok (.ifCond .ne 6, 3) := by decide +kernel
theorem dX7_share_21 : decode cX7_share 21 = .ok (.ldc 89, 2) := by decide +kernel
theorem dX7_share_23 : decode cX7_share 23 = .ok (.ireturn, 1) := by decide +kernel
theorem dX7_share_24 : decode cX7_share 24 = .ok (.aload_n 0, 1) := by decide +kernel
theorem dX7_share_25 : decode cX7_share 25 = .ok (.getfield 179, 3) := by decide +kernel
theorem dX7_share_28 : decode cX7_share 28 = .ok (.ifCond .ne 5, 3) := by decide +kernel
theorem dX7_share_31 : decode cX7_share 31 = .ok (.iconst 0, 1) := by decide +kernel
theorem dX7_share_32 : decode cX7_share 32 = .ok (.ireturn, 1) := by decide +kernel
theorem dX7_share_33 : decode cX7_share 33 = .ok (.iload_n 1, 1) := by decide +kernel
theorem dX7_share_34 : decode cX7_share 34 = .ok (.iload_n 1, 1) := by decide +kernel
theorem dX7_share_35 : decode cX7_share 35 = .ok (.aload_n 0, 1) := by decide +kernel
theorem dX7_share_36 : decode cX7_share 36 = .ok (.iconst 0, 1) := by decide +kernel
theorem dX7_share_37 : decode cX7_share 37 = .ok (.invokevirtual 321, 3) := by decide +kernel
theorem dX7_share_40 : decode cX7_share 40 = .ok (.imul, 1) := by decide +kernel
theorem dX7_share_41 : decode cX7_share 41 = .ok (.aload_n 0, 1) := by decide +kernel
theorem dX7_share_42 : decode cX7_share 42 = .ok (.getfield 179, 3) := by decide +kernel
theorem dX7_share_45 : decode cX7_share 45 = .ok (.idiv, 1) := by decide +kernel
theorem dX7_share_46 : decode cX7_share 46 = .ok (.isub, 1) := by decide +kernel
theorem dX7_share_47 : decode cX7_share 47 = .ok (.iload_n 1, 1) := by decide +kernel
theorem dX7_share_48 : decode cX7_share 48 = .ok (.aload_n 0, 1) := by decide +kernel
theorem dX7_share_49 : decode cX7_share 49 = .ok (.iconst 1, 1) := by decide +kernel
theorem dX7_share_50 : decode cX7_share 50 = .ok (.invokevirtual 321, 3) := by decide +kernel
theorem dX7_share_53 : decode cX7_share 53 = .ok (.imul, 1) := by decide +kernel
theorem dX7_share_54 : decode cX7_share 54 = .ok (.aload_n 0, 1) := by decide +kernel
theorem dX7_share_55 : decode cX7_share 55 = .ok (.getfield 179, 3) := by decide +kernel
theorem dX7_share_58 : decode cX7_share 58 = .ok (.idiv, 1) := by decide +kernel
theorem dX7_share_59 : decode cX7_share 59 = .ok (.isub, 1) := by decide +kernel
theorem dX7_share_60 : decode cX7_share 60 = .ok (.istore_n 3, 1) := by decide +kernel
theorem dX7_share_61 : decode cX7_share 61 = .ok (.iload_n 1, 1) := by decide +kernel
theorem dX7_share_62 : decode cX7_share 62 = .ok (.aload_n 0, 1) := by decide +kernel
theorem dX7_share_63 : decode cX7_share 63 = .ok (.iconst 1, 1) := by decide +kernel
theorem dX7_share_64 : decode cX7_share 64 = .ok (.invokevirtual 321, 3) := by decide +kernel
theorem dX7_share_67 : decode cX7_share 67 = .ok (.imul, 1) := by decide +kernel
theorem dX7_share_68 : decode cX7_share 68 = .ok (.aload_n 0, 1) := by decide +kernel
theorem dX7_share_69 : decode cX7_share 69 = .ok (.getfield 179, 3) := by decide +kernel
theorem dX7_share_72 : decode cX7_share 72 = .ok (.irem, 1) := by decide +kernel
theorem dX7_share_73 : decode cX7_share 73 = .ok (.iload_n 1, 1) := by decide +kernel
theorem dX7_share_74 : decode cX7_share 74 = .ok (.aload_n 0, 1) := by decide +kernel
theorem dX7_share_75 : decode cX7_share 75 = .ok (.iconst 0, 1) := by decide +kernel
theorem dX7_share_76 : decode cX7_share 76 = .ok (.invokevirtual 321, 3) := by decide +kernel
theorem dX7_share_79 : decode cX7_share 79 = .ok (.imul, 1) := by decide +kernel
theorem dX7_share_80 : decode cX7_share 80 = .ok (.aload_n 0, 1) := by decide +kernel
theorem dX7_share_81 : decode cX7_share 81 = .ok (.getfield 179, 3) := by decide +kernel
theorem dX7_share_84 : decode cX7_share 84 = .ok (.irem, 1) := by decide +kernel
theorem dX7_share_85 : decode cX7_share 85 = .ok (.if_icmp .le 7, 3) := by decide +kernel
theorem dX7_share_88 : decode cX7_share 88 = .ok (.iconst 1, 1) := by decide +kernel
theorem dX7_share_89 : decode cX7_share 89 = .ok (.goto 4, 3) := by decide +kernel
theorem dX7_share_92 : decode cX7_share 92 = .ok (.iconst 0, 1) := by decide +kernel
theorem dX7_share_93 : decode cX7_share 93 = .ok (.istore 4, 2) := by decide +kernel
theorem dX7_share_95 : decode cX7_share 95 = .ok (.iload_n 1, 1) := by decide +kernel
theorem dX7_share_96 : decode cX7_share 96 = .ok (.aload_n 0, 1) := by decide +kernel
theorem dX7_share_97 : decode cX7_share 97 = .ok (.iload_n 2, 1) := by decide +kernel
theorem dX7_share_98 : decode cX7_share 98 = .ok (.invokevirtual 321, 3) := by decide +kernel
theorem dX7_share_101 : decode cX7_share 101 = .ok (.imul, 1) := by decide +kernel
theorem dX7_share_102 : decode cX7_share 102 = .ok (.aload_n 0, 1) := by decide +kernel
theorem dX7_share_103 : decode cX7_share 103 = .ok (.getfield 179, 3) := by decide +kernel
theorem dX7_share_106 : decode cX7_share 106 = .ok (.idiv, 1) := by decide +kernel
theorem dX7_share_107 : decode cX7_share 107 = .ok (.iload_n 2, 1) := by decide +kernel
theorem dX7_share_108 : decode cX7_share 108 = .ok (.iload 4, 2) := by decide +kernel
theorem dX7_share_110 : decode cX7_share 110 = .ok (.if_icmp .ne 7, 3) := by decide +kernel
theorem dX7_share_113 : decode cX7_share 113 = .ok (.iload_n 3, 1) := by decide +kernel
theorem dX7_share_114 : decode cX7_share 114 = .ok (.goto 4, 3) := by decide +kernel
theorem dX7_share_117 : decode cX7_share 117 = .ok (.iconst 0, 1) := by decide +kernel
theorem dX7_share_118 : decode cX7_share 118 = .ok (.iadd, 1) := by decide +kernel
theorem dX7_share_119 : decode cX7_share 119 = .ok (.ireturn, 1) := by decide +kernel
theorem dX7_led_0 : decode cX7_led 0 = .ok (.aload_n 0, 1) := by decide +kernel
theorem dX7_led_1 : decode cX7_led 1 = .ok (.iload_n 1, 1) := by decide +kernel
theorem dX7_led_2 : decode cX7_led 2 = .ok (.iconst 0, 1) := by decide +kernel
theorem dX7_led_3 : decode cX7_led 3 = .ok (.bipush 99, 2) := by decide +kernel
theorem dX7_led_5 : decode cX7_led 5 = .ok (.invokestatic 85, 3) := by decide +kernel
theorem dX7_led_8 : decode cX7_led 8 = .ok (.ifCond .eq 27, 3) := by decide +kernel
theorem dX7_led_11 : decode cX7_led 11 = .ok (.iload_n 2, 1) := by decide +kernel
theorem dX7_led_12 : decode cX7_led 12 = .ok (.iconst 0, 1) := by decide +kernel
theorem dX7_led_13 : decode cX7_led 13 = .ok (.iconst 1, 1) := by decide +kernel
theorem dX7_led_14 : decode cX7_led 14 = .ok (.invokestatic 85, 3) := by decide +kernel
theorem dX7_led_17 : decode cX7_led 17 = .ok (.ifCond .eq 18, 3) := by decide +kernel
theorem dX7_led_20 : decode cX7_led 20 = .ok (.iload_n 3, 1) := by decide +kernel
theorem dX7_led_21 : decode cX7_led 21 = .ok (.iconst 0, 1) := by decide +kernel
theorem dX7_led_22 : decode cX7_led 22 = .ok (.iload_n 1, 1) := by decide +kernel
theorem dX7_led_23 : decode cX7_led 23 = .ok (.iconst 1, 1) := by decide +kernel
theorem dX7_led_24 : decode cX7_led 24 = .ok (.isub, 1) := by decide +kernel
theorem dX7_led_25 : decode cX7_led 25 = .ok (.invokestatic 85, 3) := by decide +kernel
theorem dX7_led_28 : decode cX7_led 28 = .ok (.ifCond .eq 7, 3) := by decide +kernel
theorem dX7_led_31 : decode cX7_led 31 = .ok (.iconst 1, 1) := by decide +kernel
theorem dX7_led_32 : decode cX7_led 32 = .ok (.goto 4, 3) := by decide +kernel
theorem dX7_led_35 : decode cX7_led 35 = .ok (.iconst 0, 1) := by decide +kernel
theorem dX7_led_36 : decode cX7_led 36 = .ok (.invokevirtual 273, 3) := by decide +kernel
theorem dX7_led_39 : decode cX7_led 39 = .ok (.istore 4, 2) := by decide +kernel
theorem dX7_led_41 : decode cX7_led 41 = .ok (.iload 4, 2) := by decide +kernel
theorem dX7_led_43 : decode cX7_led 43 = .ok (.ifCond .ge 6, 3) := by decide +kernel
theorem dX7_led_46 : decode cX7_led 46 = .ok (.iload 4, 2) := by decide +kernel
theorem dX7_led_48 : decode cX7_led 48 = .ok (.ireturn, 1) := by decide +kernel
theorem dX7_led_49 : decode cX7_led 49 = .ok (.aload_n 0, 1) := by decide +kernel
theorem dX7_led_50 : decode cX7_led 50 = .ok (.aload_n 0, 1) := by decide +kernel
theorem dX7_led_51 : decode cX7_led 51 = .ok (.getfield 53, 3) := by decide +kernel
theorem dX7_led_54 : decode cX7_led 54 = .ok (.iload_n 1, 1) := by decide +kernel
theorem dX7_led_55 : decode cX7_led 55 = .ok (.iload_n 2, 1) := by decide +kernel
theorem dX7_led_56 : decode cX7_led 56 = .ok (.aload_n 0, 1) := by decide +kernel
theorem dX7_led_57 : decode cX7_led 57 = .ok (.aload_n 0, 1) := by decide +kernel
theorem dX7_led_58 : decode cX7_led 58 = .ok (.getfield 53, 3) := by decide +kernel
theorem dX7_led_61 : decode cX7_led 61 = .ok (.invokevirtual 209, 3) := by decide +kernel
theorem dX7_led_64 : decode cX7_led 64 = .ok (.invokevirtual 249, 3) := by decide +kernel
theorem dX7_led_67 : decode cX7_led 67 = .ok (.pop, 1) := by decide +kernel
theorem dX7_led_68 : decode cX7_led 68 = .ok (.iconst 0, 1) := by decide +kernel
theorem dX7_led_69 : decode cX7_led 69 = .ok (.istore 5, 2) := by decide +kernel
theorem dX7_led_71 : decode cX7_led 71 = .ok (.iconst 0, 1) := by decide +kernel
theorem dX7_led_72 : decode cX7_led 72 = .ok (.istore 6, 2) := by decide +kernel
theorem dX7_led_74 : decode cX7_led 74 = .ok (.iload 6, 2) := by decide +kernel
theorem dX7_led_76 : decode cX7_led 76 = .ok (.aload_n 0, 1) := by decide +kernel
theorem dX7_led_77 : decode cX7_led 77 = .ok (.getfield 173, 3) := by decide +kernel
theorem dX7_led_80 : decode cX7_led 80 = .ok (.if_icmp .ge 82, 3) := by decide +kernel
theorem dX7_led_83 : decode cX7_led 83 = .ok (.aload_n 0, 1) := by decide +kernel
theorem dX7_led_84 : decode cX7_led 84 = .ok (.aload_n 0, 1) := by decide +kernel
theorem dX7_led_85 : decode cX7_led 85 = .ok (.getfield 53, 3) := by decide +kernel
theorem dX7_led_88 : decode cX7_led 88 = .ok (.iload_n 2, 1) := by decide +kernel
theorem dX7_led_89 : decode cX7_led 89 = .ok (.ifCond .ne 8, 3) := by decide +kernel
theorem dX7_led_92 : decode cX7_led 92 = .ok (.iload 6, 2) := by decide +kernel
theorem dX7_led_94 : decode cX7_led 94 = .ok (.goto 12, 3) := by decide +kernel
theorem dX7_led_97 : decode cX7_led 97 = .ok (.aload_n 0, 1) := by decide +kernel
theorem dX7_led_98 : decode cX7_led 98 = .ok (.getfield 173, 3) := by decide +kernel
theorem dX7_led_101 : decode cX7_led 101 = .ok (.iconst 1, 1) := by decide +kernel
theorem dX7_led_102 : decode cX7_led 102 = .ok (.isub, 1) := by decide +kernel
theorem dX7_led_103 : decode cX7_led 103 = .ok (.iload 6, 2) := by decide +kernel
theorem dX7_led_105 : decode cX7_led 105 = .ok (.isub, 1) := by decide +kernel
theorem dX7_led_106 : decode cX7_led 106 = .ok (.invokevirtual 233, 3) := by decide +kernel
theorem dX7_led_109 : decode cX7_led 109 = .ok (.istore 7, 2) := by decide +kernel
theorem dX7_led_111 : decode cX7_led 111 = .ok (.iload 7, 2) := by decide +kernel
theorem dX7_led_113 : decode cX7_led 113 = .ok (.iconst (-1), 1) := by decide +kernel
theorem dX7_led_114 : decode cX7_led 114 = .ok (.if_icmp .eq 20, 3) := by decide +kernel
theorem dX7_led_117 : decode cX7_led 117 = .ok (.iload_n 3, 1) := by decide +kernel
theorem dX7_led_118 : decode cX7_led 118 = .ok (.iload 5, 2) := by decide +kernel
theorem dX7_led_120 : decode cX7_led 120 = .ok (.aload_n 0, 1) := by decide +kernel
theorem dX7_led_121 : decode cX7_led 121 = .ok (.getfield 59, 3) := by decide +kernel
theorem dX7_led_124 : decode cX7_led 124 = .ok (.iload 7, 2) := by decide +kernel
theorem dX7_led_126 : decode cX7_led 126 = .ok (.iaload, 1) := by decide +kernel
theorem dX7_led_127 : decode cX7_led 127 = .ok (.iadd, 1) := by decide +kernel
theorem dX7_led_128 : decode cX7_led 128 = .ok (.if_icmp .ge 6, 3) := by decide +kernel
theorem dX7_led_131 : decode cX7_led 131 = .ok (.iload 7, 2) := by decide +kernel
theorem dX7_led_133 : decode cX7_led 133 = .ok (.ireturn, 1) := by decide +kernel
theorem dX7_led_134 : decode cX7_led 134 = .ok (.iload 5, 2) := by decide +kernel
theorem dX7_led_136 : decode cX7_led 136 = .ok (.iload 7, 2) := by decide +kernel
theorem dX7_led_138 : decode cX7_led 138 = .ok (.iconst (-1), 1) := by decide +kernel
theorem dX7_led_139 : decode cX7_led 139 = .ok (.if_icmp .ne 7, 3) := by decide +kernel
theorem dX7_led_142 : decode cX7_led 142 = .ok (.iconst 0, 1) := by decide +kernel
theorem dX7_led_143 : decode cX7_led 143 = .ok (.goto 10, 3) := by decide +kernel
theorem dX7_led_146 : decode cX7_led 146 = .ok (.aload_n 0, 1) := by decide +kernel
theorem dX7_led_147 : decode cX7_led 147 = .ok (.getfield 59, 3) := by decide +kernel
theorem dX7_led_150 : decode cX7_led 150 = .ok (.iload 7, 2) := by decide +kernel
theorem dX7_led_152 : decode cX7_led 152 = .ok (.iaload, 1) := by decide +kernel
theorem dX7_led_153 : decode cX7_led 153 = .ok (.iadd, 1) := by decide +kernel
theorem dX7_led_154 : decode cX7_led 154 = .ok (.istore 5, 2) := by decide +kernel
theorem dX7_led_156 : decode cX7_led 156 = .ok (.iinc 6 1, 3) := by decide +kernel
theorem dX7_led_159 : decode cX7_led 159 = .ok (.goto (-85), 3) := by decide +kernel
theorem dX7_led_162 : decode cX7_led 162 = .ok (.iconst (-1), 1) := by decide +kernel
theorem dX7_led_163 : decode cX7_led 163 = .ok (.ireturn, 1) := by decide +kernel
theorem dX7_yards_0 : decode cX7_yards 0 = .ok (.iload_n 1, 1) := by decide +kernel
theorem dX7_yards_1 : decode cX7_yards 1 = .ok (.iconst 0, 1) := by decide +kernel
theorem dX7_yards_2 : decode cX7_yards 2 = .ok (.aload_n 0, 1) := by decide +kernel
theorem dX7_yards_3 : decode cX7_yards 3 = .ok (.getfield 185, 3) := by decide +kernel
theorem dX7_yards_6 : decode cX7_yards 6 = .ok (.iconst 1, 1) := by decide +kernel
theorem dX7_yards_7 : decode cX7_yards 7 = .ok (.isub, 1) := by decide +kernel
theorem dX7_yards_8 : decode cX7_yards 8 = .ok (.invokestatic 85, 3) := by decide +kernel
theorem dX7_yards_11 : decode cX7_yards 11 = .ok (.ifCond .ne 6, 3) := by decide +kernel
theorem dX7_yards_14 : decode cX7_yards 14 = .ok (.ldc 219, 2) := by decide +kernel
theorem dX7_yards_16 : decode cX7_yards 16 = .ok (.ireturn, 1) := by decide +kernel
theorem dX7_yards_17 : decode cX7_yards 17 = .ok (.iload_n 2, 1) := by decide +kernel
theorem dX7_yards_18 : decode cX7_yards 18 = .ok (.iconst 0, 1) := by decide +kernel
theorem dX7_yards_19 : decode cX7_yards 19 = .ok (.iconst 1, 1) := by decide +kernel
theorem dX7_yards_20 : decode cX7_yards 20 = .ok (.invokestatic 85, 3) := by decide +kernel
theorem dX7_yards_23 : decode cX7_yards 23 = .ok (.ifCond .ne 6, 3) := by decide +kernel
theorem dX7_yards_26 : decode cX7_yards 26 = .ok (.ldc 89, 2) := by decide +kernel
theorem dX7_yards_28 : decode cX7_yards 28 = .ok (.ireturn, 1) := by decide +kernel
theorem dX7_yards_29 : decode cX7_yards 29 = .ok (.iconst (-1), 1) := by decide +kernel
theorem dX7_yards_30 : decode cX7_yards 30 = .ok (.istore_n 3, 1) := by decide +kernel
theorem dX7_yards_31 : decode cX7_yards 31 = .ok (.ldc_w 324, 3) := by decide +kernel
theorem dX7_yards_34 : decode cX7_yards 34 = .ok (.istore 4, 2) := by decide +kernel
theorem dX7_yards_36 : decode cX7_yards 36 = .ok (.iconst 0, 1) := by decide +kernel
theorem dX7_yards_37 : decode cX7_yards 37 = .ok (.istore 5, 2) := by decide +kernel
theorem dX7_yards_39 : decode cX7_yards 39 = .ok (.iload 5, 2) := by decide +kernel
theorem dX7_yards_41 : decode cX7_yards 41 = .ok (.aload_n 0, 1) := by decide +kernel
theorem dX7_yards_42 : decode cX7_yards 42 = .ok (.getfield 173, 3) := by decide +kernel
theorem dX7_yards_45 : decode cX7_yards 45 = .ok (.if_icmp .ge 120, 3) := by decide +kernel
theorem dX7_yards_48 : decode cX7_yards 48 = .ok (.aload_n 0, 1) := by decide +kernel
theorem dX7_yards_49 : decode cX7_yards 49 = .ok (.aload_n 0, 1) := by decide +kernel
theorem dX7_yards_50 : decode cX7_yards 50 = .ok (.getfield 53, 3) := by decide +kernel
theorem dX7_yards_53 : decode cX7_yards 53 = .ok (.iload 5, 2) := by decide +kernel
theorem dX7_yards_55 : decode cX7_yards 55 = .ok (.invokevirtual 233, 3) := by decide +kernel
theorem dX7_yards_58 : decode cX7_yards 58 = .ok (.istore 6, 2) := by decide +kernel
theorem dX7_yards_60 : decode cX7_yards 60 = .ok (.iload 5, 2) := by decide +kernel
theorem dX7_yards_62 : decode cX7_yards 62 = .ok (.aload_n 0, 1) := by decide +kernel
theorem dX7_yards_63 : decode cX7_yards 63 = .ok (.getfield 44, 3) := by decide +kernel
theorem dX7_yards_66 : decode cX7_yards 66 = .ok (.iconst 2, 1) := by decide +kernel
theorem dX7_yards_67 : decode cX7_yards 67 = .ok (.iload_n 1, 1) := by decide +kernel
theorem dX7_yards_68 : decode cX7_yards 68 = .ok (.imul, 1) := by decide +kernel
theorem dX7_yards_69 : decode cX7_yards 69 = .ok (.iaload, 1) := by decide +kernel
theorem dX7_yards_70 : decode cX7_yards 70 = .ok (.if_icmp .ge 17, 3) := by decide +kernel
theorem dX7_yards_73 : decode cX7_yards 73 = .ok (.aload_n 0, 1) := by decide +kernel
theorem dX7_yards_74 : decode cX7_yards 74 = .ok (.getfield 44, 3) := by decide +kernel
theorem dX7_yards_77 : decode cX7_yards 77 = .ok (.iconst 2, 1) := by decide +kernel
theorem dX7_yards_78 : decode cX7_yards 78 = .ok (.iload_n 1, 1) := by decide +kernel
theorem dX7_yards_79 : decode cX7_yards 79 = .ok (.imul, 1) := by decide +kernel
theorem dX7_yards_80 : decode cX7_yards 80 = .ok (.iaload, 1) := by decide +kernel
theorem dX7_yards_81 : decode cX7_yards 81 = .ok (.iload 5, 2) := by decide +kernel
theorem dX7_yards_83 : decode cX7_yards 83 = .ok (.isub, 1) := by decide +kernel
theorem dX7_yards_84 : decode cX7_yards 84 = .ok (.goto 14, 3) := by decide +kernel
theorem dX7_yards_87 : decode cX7_yards 87 = .ok (.iload 5, 2) := by decide +kernel
theorem dX7_yards_89 : decode cX7_yards 89 = .ok (.aload_n 0, 1) := by decide +kernel
theorem dX7_yards_90 : decode cX7_yards 90 = .ok (.getfield 44, 3) := by decide +kernel
theorem dX7_yards_93 : decode cX7_yards 93 = .ok (.iconst 2, 1) := by decide +kernel
theorem dX7_yards_94 : decode cX7_yards 94 = .ok (.iload_n 1, 1) := by decide +kernel
