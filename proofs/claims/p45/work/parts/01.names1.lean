theorem dX0_init_0 : decode cX0_init 0 = .ok (.aload_n 0, 1) := by decide +kernel
theorem dX0_init_1 : decode cX0_init 1 = .ok (.invokespecial 3, 3) := by decide +kernel
theorem dX0_init_4 : decode cX0_init 4 = .ok (.aload_n 0, 1) := by decide +kernel
theorem dX0_init_5 : decode cX0_init 5 = .ok (.bipush 12, 2) := by decide +kernel
theorem dX0_init_7 : decode cX0_init 7 = .ok (.newarray .int, 2) := by decide +kernel
theorem dX0_init_9 : decode cX0_init 9 = .ok (.putfield 9, 3) := by decide +kernel
theorem dX0_init_12 : decode cX0_init 12 = .ok (.aload_n 0, 1) := by decide +kernel
theorem dX0_init_13 : decode cX0_init 13 = .ok (.bipush 12, 2) := by decide +kernel
theorem dX0_init_15 : decode cX0_init 15 = .ok (.newarray .int, 2) := by decide +kernel
theorem dX0_init_17 : decode cX0_init 17 = .ok (.putfield 15, 3) := by decide +kernel
theorem dX0_init_20 : decode cX0_init 20 = .ok (.aload_n 0, 1) := by decide +kernel
theorem dX0_init_21 : decode cX0_init 21 = .ok (.bipush 6, 2) := by decide +kernel
theorem dX0_init_23 : decode cX0_init 23 = .ok (.newarray .int, 2) := by decide +kernel
theorem dX0_init_25 : decode cX0_init 25 = .ok (.putfield 18, 3) := by decide +kernel
theorem dX0_init_28 : decode cX0_init 28 = .ok (.aload_n 0, 1) := by decide +kernel
theorem dX0_init_29 : decode cX0_init 29 = .ok (.bipush 6, 2) := by decide +kernel
theorem dX0_init_31 : decode cX0_init 31 = .ok (.newarray .int, 2) := by decide +kernel
theorem dX0_init_33 : decode cX0_init 33 = .ok (.putfield 21, 3) := by decide +kernel
theorem dX0_init_36 : decode cX0_init 36 = .ok (.aload_n 0, 1) := by decide +kernel
theorem dX0_init_37 : decode cX0_init 37 = .ok (.bipush 6, 2) := by decide +kernel
theorem dX0_init_39 : decode cX0_init 39 = .ok (.newarray .int, 2) := by decide +kernel
theorem dX0_init_41 : decode cX0_init 41 = .ok (.putfield 24, 3) := by decide +kernel
theorem dX0_init_44 : decode cX0_init 44 = .ok (.aload_n 0, 1) := by decide +kernel
theorem dX0_init_45 : decode cX0_init 45 = .ok (.bipush 6, 2) := by decide +kernel
theorem dX0_init_47 : decode cX0_init 47 = .ok (.newarray .int, 2) := by decide +kernel
theorem dX0_init_49 : decode cX0_init 49 = .ok (.putfield 27, 3) := by decide +kernel
theorem dX0_init_52 : decode cX0_init 52 = .ok (.aload_n 0, 1) := by decide +kernel
theorem dX0_init_53 : decode cX0_init 53 = .ok (.iconst 2, 1) := by decide +kernel
theorem dX0_init_54 : decode cX0_init 54 = .ok (.newarray .int, 2) := by decide +kernel
theorem dX0_init_56 : decode cX0_init 56 = .ok (.dup, 1) := by decide +kernel
theorem dX0_init_57 : decode cX0_init 57 = .ok (.iconst 0, 1) := by decide +kernel
theorem dX0_init_58 : decode cX0_init 58 = .ok (.bipush 127, 2) := by decide +kernel
theorem dX0_init_60 : decode cX0_init 60 = .ok (.iastore, 1) := by decide +kernel
theorem dX0_init_61 : decode cX0_init 61 = .ok (.dup, 1) := by decide +kernel
theorem dX0_init_62 : decode cX0_init 62 = .ok (.iconst 1, 1) := by decide +kernel
theorem dX0_init_63 : decode cX0_init 63 = .ok (.bipush 127, 2) := by decide +kernel
theorem dX0_init_65 : decode cX0_init 65 = .ok (.iastore, 1) := by decide +kernel
theorem dX0_init_66 : decode cX0_init 66 = .ok (.putfield 30, 3) := by decide +kernel
theorem dX0_init_69 : decode cX0_init 69 = .ok (.aload_n 0, 1) := by decide +kernel
theorem dX0_init_70 : decode cX0_init 70 = .ok (.iconst 2, 1) := by decide +kernel
theorem dX0_init_71 : decode cX0_init 71 = .ok (.newarray .int, 2) := by decide +kernel
theorem dX0_init_73 : decode cX0_init 73 = .ok (.putfield 33, 3) := by decide +kernel
theorem dX0_init_76 : decode cX0_init 76 = .ok (.aload_n 0, 1) := by decide +kernel
theorem dX0_init_77 : decode cX0_init 77 = .ok (.iconst 4, 1) := by decide +kernel
theorem dX0_init_78 : decode cX0_init 78 = .ok (.newarray .int, 2) := by decide +kernel
theorem dX0_init_80 : decode cX0_init 80 = .ok (.putfield 36, 3) := by decide +kernel
theorem dX0_init_83 : decode cX0_init 83 = .ok (.aload_n 0, 1) := by decide +kernel
theorem dX0_init_84 : decode cX0_init 84 = .ok (.iconst 4, 1) := by decide +kernel
theorem dX0_init_85 : decode cX0_init 85 = .ok (.newarray .int, 2) := by decide +kernel
theorem dX0_init_87 : decode cX0_init 87 = .ok (.putfield 39, 3) := by decide +kernel
theorem dX0_init_90 : decode cX0_init 90 = .ok (.return_, 1) := by decide +kernel
theorem dX0_wipe_0 : decode cX0_wipe 0 = .ok (.aload_n 0, 1) := by decide +kernel
theorem dX0_wipe_1 : decode cX0_wipe 1 = .ok (.iconst 0, 1) := by decide +kernel
theorem dX0_wipe_2 : decode cX0_wipe 2 = .ok (.putfield 42, 3) := by decide +kernel
theorem dX0_wipe_5 : decode cX0_wipe 5 = .ok (.aload_n 0, 1) := by decide +kernel
theorem dX0_wipe_6 : decode cX0_wipe 6 = .ok (.iconst 0, 1) := by decide +kernel
theorem dX0_wipe_7 : decode cX0_wipe 7 = .ok (.putfield 46, 3) := by decide +kernel
theorem dX0_wipe_10 : decode cX0_wipe 10 = .ok (.aload_n 0, 1) := by decide +kernel
theorem dX0_wipe_11 : decode cX0_wipe 11 = .ok (.iconst 0, 1) := by decide +kernel
theorem dX0_wipe_12 : decode cX0_wipe 12 = .ok (.putfield 49, 3) := by decide +kernel
theorem dX0_wipe_15 : decode cX0_wipe 15 = .ok (.aload_n 0, 1) := by decide +kernel
theorem dX0_wipe_16 : decode cX0_wipe 16 = .ok (.iconst 0, 1) := by decide +kernel
theorem dX0_wipe_17 : decode cX0_wipe 17 = .ok (.putfield 52, 3) := by decide +kernel
theorem dX0_wipe_20 : decode cX0_wipe 20 = .ok (.aload_n 0, 1) := by decide +kernel
theorem dX0_wipe_21 : decode cX0_wipe 21 = .ok (.iconst 0, 1) := by decide +kernel
theorem dX0_wipe_22 : decode cX0_wipe 22 = .ok (.putfield 55, 3) := by decide +kernel
theorem dX0_wipe_25 : decode cX0_wipe 25 = .ok (.aload_n 0, 1) := by decide +kernel
theorem dX0_wipe_26 : decode cX0_wipe 26 = .ok (.getfield 9, 3) := by decide +kernel
theorem dX0_wipe_29 : decode cX0_wipe 29 = .ok (.iconst 0, 1) := by decide +kernel
theorem dX0_wipe_30 : decode cX0_wipe 30 = .ok (.iconst 0, 1) := by decide +kernel
theorem dX0_wipe_31 : decode cX0_wipe 31 = .ok (.iastore, 1) := by decide +kernel
theorem dX0_wipe_32 : decode cX0_wipe 32 = .ok (.aload_n 0, 1) := by decide +kernel
theorem dX0_wipe_33 : decode cX0_wipe 33 = .ok (.getfield 15, 3) := by decide +kernel
theorem dX0_wipe_36 : decode cX0_wipe 36 = .ok (.iconst 0, 1) := by decide +kernel
theorem dX0_wipe_37 : decode cX0_wipe 37 = .ok (.iconst 0, 1) := by decide +kernel
theorem dX0_wipe_38 : decode cX0_wipe 38 = .ok (.iastore, 1) := by decide +kernel
theorem dX0_wipe_39 : decode cX0_wipe 39 = .ok (.iconst 0, 1) := by decide +kernel
theorem dX0_wipe_40 : decode cX0_wipe 40 = .ok (.istore_n 1, 1) := by decide +kernel
theorem dX0_wipe_41 : decode cX0_wipe 41 = .ok (.iload_n 1, 1) := by decide +kernel
theorem dX0_wipe_42 : decode cX0_wipe 42 = .ok (.bipush 6, 2) := by decide +kernel
theorem dX0_wipe_44 : decode cX0_wipe 44 = .ok (.if_icmp .ge 23, 3) := by decide +kernel
theorem dX0_wipe_47 : decode cX0_wipe 47 = .ok (.aload_n 0, 1) := by decide +kernel
theorem dX0_wipe_48 : decode cX0_wipe 48 = .ok (.getfield 18, 3) := by decide +kernel
theorem dX0_wipe_51 : decode cX0_wipe 51 = .ok (.iload_n 1, 1) := by decide +kernel
theorem dX0_wipe_52 : decode cX0_wipe 52 = .ok (.iconst (-1), 1) := by decide +kernel
theorem dX0_wipe_53 : decode cX0_wipe 53 = .ok (.iastore, 1) := by decide +kernel
theorem dX0_wipe_54 : decode cX0_wipe 54 = .ok (.aload_n 0, 1) := by decide +kernel
theorem dX0_wipe_55 : decode cX0_wipe 55 = .ok (.getfield 27, 3) := by decide +kernel
theorem dX0_wipe_58 : decode cX0_wipe 58 = .ok (.iload_n 1, 1) := by decide +kernel
theorem dX0_wipe_59 : decode cX0_wipe 59 = .ok (.iconst (-1), 1) := by decide +kernel
theorem dX0_wipe_60 : decode cX0_wipe 60 = .ok (.iastore, 1) := by decide +kernel
theorem dX0_wipe_61 : decode cX0_wipe 61 = .ok (.iinc 1 1, 3) := by decide +kernel
theorem dX0_wipe_64 : decode cX0_wipe 64 = .ok (.goto (-23), 3) := by decide +kernel
theorem dX0_wipe_67 : decode cX0_wipe 67 = .ok (.iconst 0, 1) := by decide +kernel
theorem dX0_wipe_68 : decode cX0_wipe 68 = .ok (.istore_n 1, 1) := by decide +kernel
theorem dX0_wipe_69 : decode cX0_wipe 69 = .ok (.iload_n 1, 1) := by decide +kernel
theorem dX0_wipe_70 : decode cX0_wipe 70 = .ok (.iconst 2, 1) := by decide +kernel
theorem dX0_wipe_71 : decode cX0_wipe 71 = .ok (.if_icmp .ge 24, 3) := by decide +kernel
theorem dX0_wipe_74 : decode cX0_wipe 74 = .ok (.aload_n 0, 1) := by decide +kernel
theorem dX0_wipe_75 : decode cX0_wipe 75 = .ok (.getfield 30, 3) := by decide +kernel
theorem dX0_wipe_78 : decode cX0_wipe 78 = .ok (.iload_n 1, 1) := by decide +kernel
theorem dX0_wipe_79 : decode cX0_wipe 79 = .ok (.bipush 127, 2) := by decide +kernel
theorem dX0_wipe_81 : decode cX0_wipe 81 = .ok (.iastore, 1) := by decide +kernel
theorem dX0_wipe_82 : decode cX0_wipe 82 = .ok (.aload_n 0, 1) := by decide +kernel
theorem dX0_wipe_83 : decode cX0_wipe 83 = .ok (.getfield 33, 3) := by decide +kernel
theorem dX0_wipe_86 : decode cX0_wipe 86 = .ok (.iload_n 1, 1) := by decide +kernel
theorem dX0_wipe_87 : decode cX0_wipe 87 = .ok (.iconst 0, 1) := by decide +kernel
theorem dX0_wipe_88 : decode cX0_wipe 88 = .ok (.iastore, 1) := by decide +kernel
theorem dX0_wipe_89 : decode cX0_wipe 89 = .ok (.iinc 1 1, 3) := by decide +kernel
theorem dX0_wipe_92 : decode cX0_wipe 92 = .ok (.goto (-23), 3) := by decide +kernel
theorem dX0_wipe_95 : decode cX0_wipe 95 = .ok (.return_, 1) := by decide +kernel
theorem dX0_hoursOfDay_0 : decode cX0_hoursOfDay 0 = .ok (.aload_n 0, 1) := by decide +kernel
theorem dX0_hoursOfDay_1 : decode cX0_hoursOfDay 1 = .ok (.getfield 42, 3) := by decide +kernel
theorem dX0_hoursOfDay_4 : decode cX0_hoursOfDay 4 = .ok (.ifCond .ne 7, 3) := by decide +kernel
theorem dX0_hoursOfDay_7 : decode cX0_hoursOfDay 7 = .ok (.iconst 0, 1) := by decide +kernel
theorem dX0_hoursOfDay_8 : decode cX0_hoursOfDay 8 = .ok (.goto 11, 3) := by decide +kernel
theorem dX0_hoursOfDay_11 : decode cX0_hoursOfDay 11 = .ok (.aload_n 0, 1) := by decide +kernel
theorem dX0_hoursOfDay_12 : decode cX0_hoursOfDay 12 = .ok (.getfield 49, 3) := by decide +kernel
theorem dX0_hoursOfDay_15 : decode cX0_hoursOfDay 15 = .ok (.iconst 1, 1) := by decide +kernel
theorem dX0_hoursOfDay_16 : decode cX0_hoursOfDay 16 = .ok (.invokestatic 58, 3) := by decide +kernel
theorem dX0_hoursOfDay_19 : decode cX0_hoursOfDay 19 = .ok (.ireturn, 1) := by decide +kernel
theorem dX0_sideAt_0 : decode cX0_sideAt 0 = .ok (.aload_n 0, 1) := by decide +kernel
theorem dX0_sideAt_1 : decode cX0_sideAt 1 = .ok (.getfield 9, 3) := by decide +kernel
theorem dX0_sideAt_4 : decode cX0_sideAt 4 = .ok (.iload_n 1, 1) := by decide +kernel
theorem dX0_sideAt_5 : decode cX0_sideAt 5 = .ok (.invokestatic 64, 3) := by decide +kernel
theorem dX0_sideAt_8 : decode cX0_sideAt 8 = .ok (.ireturn, 1) := by decide +kernel
theorem dX0_fogAt_0 : decode cX0_fogAt 0 = .ok (.aload_n 0, 1) := by decide +kernel
theorem dX0_fogAt_1 : decode cX0_fogAt 1 = .ok (.getfield 15, 3) := by decide +kernel
theorem dX0_fogAt_4 : decode cX0_fogAt 4 = .ok (.iload_n 1, 1) := by decide +kernel
theorem dX0_fogAt_5 : decode cX0_fogAt 5 = .ok (.invokestatic 64, 3) := by decide +kernel
theorem dX0_fogAt_8 : decode cX0_fogAt 8 = .ok (.ireturn, 1) := by decide +kernel
theorem dX0_hangsOn_0 : decode cX0_hangsOn 0 = .ok (.aload_n 0, 1) := by decide +kernel
theorem dX0_hangsOn_1 : decode cX0_hangsOn 1 = .ok (.getfield 30, 3) := by decide +kernel
theorem dX0_hangsOn_4 : decode cX0_hangsOn 4 = .ok (.iload_n 1, 1) := by decide +kernel
theorem dX0_hangsOn_5 : decode cX0_hangsOn 5 = .ok (.invokestatic 64, 3) := by decide +kernel
theorem dX0_hangsOn_8 : decode cX0_hangsOn 8 = .ok (.iload_n 2, 1) := by decide +kernel
theorem dX0_hangsOn_9 : decode cX0_hangsOn 9 = .ok (.bipush 7, 2) := by decide +kernel
theorem dX0_hangsOn_11 : decode cX0_hangsOn 11 = .ok (.irem, 1) := by decide +kernel
theorem dX0_hangsOn_12 : decode cX0_hangsOn 12 = .ok (.ishr, 1) := by decide +kernel
theorem dX0_hangsOn_13 : decode cX0_hangsOn 13 = .ok (.iconst 1, 1) := by decide +kernel
theorem dX0_hangsOn_14 : decode cX0_hangsOn 14 = .ok (.iand, 1) := by decide +kernel
theorem dX0_hangsOn_15 : decode cX0_hangsOn 15 = .ok (.iconst 1, 1) := by decide +kernel
theorem dX0_hangsOn_16 : decode cX0_hangsOn 16 = .ok (.if_icmp .ne 7, 3) := by decide +kernel
theorem dX0_hangsOn_19 : decode cX0_hangsOn 19 = .ok (.iconst 1, 1) := by decide +kernel
theorem dX0_hangsOn_20 : decode cX0_hangsOn 20 = .ok (.goto 4, 3) := by decide +kernel
theorem dX0_hangsOn_23 : decode cX0_hangsOn 23 = .ok (.iconst 0, 1) := by decide +kernel
theorem dX0_hangsOn_24 : decode cX0_hangsOn 24 = .ok (.ireturn, 1) := by decide +kernel
theorem dX0_postsOf_0 : decode cX0_postsOf 0 = .ok (.iconst 0, 1) := by decide +kernel
theorem dX0_postsOf_1 : decode cX0_postsOf 1 = .ok (.istore_n 2, 1) := by decide +kernel
theorem dX0_postsOf_2 : decode cX0_postsOf 2 = .ok (.iconst 0, 1) := by decide +kernel
theorem dX0_postsOf_3 : decode cX0_postsOf 3 = .ok (.istore_n 3, 1) := by decide +kernel
theorem dX0_postsOf_4 : decode cX0_postsOf 4 = .ok (.iload_n 3, 1) := by decide +kernel
theorem dX0_postsOf_5 : decode cX0_postsOf 5 = .ok (.aload_n 0, 1) := by decide +kernel
theorem dX0_postsOf_6 : decode cX0_postsOf 6 = .ok (.getfield 52, 3) := by decide +kernel
theorem dX0_postsOf_9 : decode cX0_postsOf 9 = .ok (.if_icmp .ge 31, 3) := by decide +kernel
theorem dX0_postsOf_12 : decode cX0_postsOf 12 = .ok (.iload_n 3, 1) := by decide +kernel
theorem dX0_postsOf_13 : decode cX0_postsOf 13 = .ok (.bipush 6, 2) := by decide +kernel
theorem dX0_postsOf_15 : decode cX0_postsOf 15 = .ok (.if_icmp .ge 25, 3) := by decide +kernel
theorem dX0_postsOf_18 : decode cX0_postsOf 18 = .ok (.aload_n 0, 1) := by decide +kernel
theorem dX0_postsOf_19 : decode cX0_postsOf 19 = .ok (.getfield 27, 3) := by decide +kernel
theorem dX0_postsOf_22 : decode cX0_postsOf 22 = .ok (.iload_n 3, 1) := by decide +kernel
theorem dX0_postsOf_23 : decode cX0_postsOf 23 = .ok (.iaload, 1) := by decide +kernel
theorem dX0_postsOf_24 : decode cX0_postsOf 24 = .ok (.iload_n 1, 1) := by decide +kernel
theorem dX0_postsOf_25 : decode cX0_postsOf 25 = .ok (.if_icmp .ne 9, 3) := by decide +kernel
theorem dX0_postsOf_28 : decode cX0_postsOf 28 = .ok (.iload_n 2, 1) := by decide +kernel
theorem dX0_postsOf_29 : decode cX0_postsOf 29 = .ok (.iconst 1, 1) := by decide +kernel
theorem dX0_postsOf_30 : decode cX0_postsOf 30 = .ok (.iload_n 3, 1) := by decide +kernel
theorem dX0_postsOf_31 : decode cX0_postsOf 31 = .ok (.ishl, 1) := by decide +kernel
theorem dX0_postsOf_32 : decode cX0_postsOf 32 = .ok (.ior, 1) := by decide +kernel
theorem dX0_postsOf_33 : decode cX0_postsOf 33 = .ok (.istore_n 2, 1) := by decide +kernel
theorem dX0_postsOf_34 : decode cX0_postsOf 34 = .ok (.iinc 3 1, 3) := by decide +kernel
theorem dX0_postsOf_37 : decode cX0_postsOf 37 = .ok (.goto (-33), 3) := by decide +kernel
theorem dX0_postsOf_40 : decode cX0_postsOf 40 = .ok (.iload_n 2, 1) := by decide +kernel
theorem dX0_postsOf_41 : decode cX0_postsOf 41 = .ok (.ireturn, 1) := by decide +kernel
theorem dX0_hasPostIn_0 : decode cX0_hasPostIn 0 = .ok (.iconst 0, 1) := by decide +kernel
theorem dX0_hasPostIn_1 : decode cX0_hasPostIn 1 = .ok (.istore_n 2, 1) := by decide +kernel
theorem dX0_hasPostIn_2 : decode cX0_hasPostIn 2 = .ok (.iload_n 2, 1) := by decide +kernel
theorem dX0_hasPostIn_3 : decode cX0_hasPostIn 3 = .ok (.aload_n 0, 1) := by decide +kernel
theorem dX0_hasPostIn_4 : decode cX0_hasPostIn 4 = .ok (.getfield 52, 3) := by decide +kernel
theorem dX0_hasPostIn_7 : decode cX0_hasPostIn 7 = .ok (.if_icmp .ge 27, 3) := by decide +kernel
theorem dX0_hasPostIn_10 : decode cX0_hasPostIn 10 = .ok (.iload_n 2, 1) := by decide +kernel
theorem dX0_hasPostIn_11 : decode cX0_hasPostIn 11 = .ok (.bipush 6, 2) := by decide +kernel
theorem dX0_hasPostIn_13 : decode cX0_hasPostIn 13 = .ok (.if_icmp .ge 21, 3) := by decide +kernel
theorem dX0_hasPostIn_16 : decode cX0_hasPostIn 16 = .ok (.aload_n 0, 1) := by decide +kernel
theorem dX0_hasPostIn_17 : decode cX0_hasPostIn 17 = .ok (.getfield 18, 3) := by decide +kernel
theorem dX0_hasPostIn_20 : decode cX0_hasPostIn 20 = .ok (.iload_n 2, 1) := by decide +kernel
theorem dX0_hasPostIn_21 : decode cX0_hasPostIn 21 = .ok (.iaload, 1) := by decide +kernel
theorem dX0_hasPostIn_22 : decode cX0_hasPostIn 22 = .ok (.iload_n 1, 1) := by decide +kernel
theorem dX0_hasPostIn_23 : decode cX0_hasPostIn 23 = .ok (.if_icmp .ne 5, 3) := by decide +kernel
theorem dX0_hasPostIn_26 : decode cX0_hasPostIn 26 = .ok (.iconst 1, 1) := by decide +kernel
theorem dX0_hasPostIn_27 : decode cX0_hasPostIn 27 = .ok (.ireturn, 1) := by decide +kernel
theorem dX0_hasPostIn_28 : decode cX0_hasPostIn 28 = .ok (.iinc 2 1, 3) := by decide +kernel
theorem dX0_hasPostIn_31 : decode cX0_hasPostIn 31 = .ok (.goto (-29), 3) := by decide +kernel
theorem dX0_hasPostIn_34 : decode cX0_hasPostIn 34 = .ok (.iconst 0, 1) := by decide +kernel
theorem dX0_hasPostIn_35 : decode cX0_hasPostIn 35 = .ok (.ireturn, 1) := by decide +kernel
theorem dX1_init_0 : decode cX1_init 0 = .ok (.aload_n 0, 1) := by decide +kernel
theorem dX1_init_1 : decode cX1_init 1 = .ok (.invokespecial 1, 3) := by decide +kernel
theorem dX1_init_4 : decode cX1_init 4 = .ok (.aload_n 0, 1) := by decide +kernel
theorem dX1_init_5 : decode cX1_init 5 = .ok (.iconst 0, 1) := by decide +kernel
theorem dX1_init_6 : decode cX1_init 6 = .ok (.putfield 7, 3) := by decide +kernel
theorem dX1_init_9 : decode cX1_init 9 = .ok (.iload_n 1, 1) := by decide +kernel
theorem dX1_init_10 : decode cX1_init 10 = .ok (.iconst 0, 1) := by decide +kernel
theorem dX1_init_11 : decode cX1_init 11 = .ok (.invokestatic 13, 3) := by decide +kernel
theorem dX1_init_14 : decode cX1_init 14 = .ok (.istore_n 2, 1) := by decide +kernel
theorem dX1_init_15 : decode cX1_init 15 = .ok (.aload_n 0, 1) := by decide +kernel
theorem dX1_init_16 : decode cX1_init 16 = .ok (.iload_n 2, 1) := by decide +kernel
theorem dX1_init_17 : decode cX1_init 17 = .ok (.newarray .int, 2) := by decide +kernel
theorem dX1_init_19 : decode cX1_init 19 = .ok (.putfield 19, 3) := by decide +kernel
theorem dX1_init_22 : decode cX1_init 22 = .ok (.aload_n 0, 1) := by decide +kernel
theorem dX1_init_23 : decode cX1_init 23 = .ok (.iload_n 2, 1) := by decide +kernel
theorem dX1_init_24 : decode cX1_init 24 = .ok (.newarray .int, 2) := by decide +kernel
theorem dX1_init_26 : decode cX1_init 26 = .ok (.putfield 23, 3) := by decide +kernel
theorem dX1_init_29 : decode cX1_init 29 = .ok (.aload_n 0, 1) := by decide +kernel
theorem dX1_init_30 : decode cX1_init 30 = .ok (.iload_n 2, 1) := by decide +kernel
theorem dX1_init_31 : decode cX1_init 31 = .ok (.newarray .int, 2) := by decide +kernel
theorem dX1_init_33 : decode cX1_init 33 = .ok (.putfield 26, 3) := by decide +kernel
theorem dX1_init_36 : decode cX1_init 36 = .ok (.return_, 1) := by decide +kernel
theorem dX1_note_0 : decode cX1_note 0 = .ok (.aload_n 0, 1) := by decide +kernel
theorem dX1_note_1 : decode cX1_note 1 = .ok (.getfield 19, 3) := by decide +kernel
theorem dX1_note_4 : decode cX1_note 4 = .ok (.aload_n 0, 1) := by decide +kernel
theorem dX1_note_5 : decode cX1_note 5 = .ok (.getfield 7, 3) := by decide +kernel
theorem dX1_note_8 : decode cX1_note 8 = .ok (.iload_n 1, 1) := by decide +kernel
theorem dX1_note_9 : decode cX1_note 9 = .ok (.invokestatic 29, 3) := by decide +kernel
theorem dX1_note_12 : decode cX1_note 12 = .ok (.aload_n 0, 1) := by decide +kernel
theorem dX1_note_13 : decode cX1_note 13 = .ok (.getfield 23, 3) := by decide +kernel
theorem dX1_note_16 : decode cX1_note 16 = .ok (.aload_n 0, 1) := by decide +kernel
theorem dX1_note_17 : decode cX1_note 17 = .ok (.getfield 7, 3) := by decide +kernel
theorem dX1_note_20 : decode cX1_note 20 = .ok (.iload_n 2, 1) := by decide +kernel
theorem dX1_note_21 : decode cX1_note 21 = .ok (.invokestatic 29, 3) := by decide +kernel
theorem dX1_note_24 : decode cX1_note 24 = .ok (.aload_n 0, 1) := by decide +kernel
theorem dX1_note_25 : decode cX1_note 25 = .ok (.getfield 26, 3) := by decide +kernel
theorem dX1_note_28 : decode cX1_note 28 = .ok (.aload_n 0, 1) := by decide +kernel
theorem dX1_note_29 : decode cX1_note 29 = .ok (.getfield 7, 3) := by decide +kernel
theorem dX1_note_32 : decode cX1_note 32 = .ok (.iload_n 3, 1) := by decide +kernel
theorem dX1_note_33 : decode cX1_note 33 = .ok (.invokestatic 29, 3) := by decide +kernel
theorem dX1_note_36 : decode cX1_note 36 = .ok (.aload_n 0, 1) := by decide +kernel
theorem dX1_note_37 : decode cX1_note 37 = .ok (.dup, 1) := by decide +kernel
theorem dX1_note_38 : decode cX1_note 38 = .ok (.getfield 7, 3) := by decide +kernel
theorem dX1_note_41 : decode cX1_note 41 = .ok (.iconst 1, 1) := by decide +kernel
theorem dX1_note_42 : decode cX1_note 42 = .ok (.iadd, 1) := by decide +kernel
theorem dX1_note_43 : decode cX1_note 43 = .ok (.putfield 7, 3) := by decide +kernel
theorem dX1_note_46 : decode cX1_note 46 = .ok (.aload_n 0, 1) := by decide +kernel
theorem dX1_note_47 : decode cX1_note 47 = .ok (.getfield 7, 3) := by decide +kernel
theorem dX1_note_50 : decode cX1_note 50 = .ok (.ireturn, 1) := by decide +kernel
theorem dX2_init_0 : decode cX2_init 0 = .ok (.aload_n 0, 1) := by decide +kernel
theorem dX2_init_1 : decode cX2_init 1 = .ok (.invokespecial 3, 3) := by decide +kernel
theorem dX2_init_4 : decode cX2_init 4 = .ok (.aload_n 0, 1) := by decide +kernel
theorem dX2_init_5 : decode cX2_init 5 = .ok (.bipush 30, 2) := by decide +kernel
theorem dX2_init_7 : decode cX2_init 7 = .ok (.anewarray 9, 3) := by decide +kernel
theorem dX2_init_10 : decode cX2_init 10 = .ok (.putfield 11, 3) := by decide +kernel
theorem dX2_init_13 : decode cX2_init 13 = .ok (.aload_n 0, 1) := by decide +kernel
theorem dX2_init_14 : decode cX2_init 14 = .ok (.iconst 0, 1) := by decide +kernel
theorem dX2_init_15 : decode cX2_init 15 = .ok (.putfield 17, 3) := by decide +kernel
theorem dX2_init_18 : decode cX2_init 18 = .ok (.aload_n 0, 1) := by decide +kernel
theorem dX2_init_19 : decode cX2_init 19 = .ok (.iconst 0, 1) := by decide +kernel
theorem dX2_init_20 : decode cX2_init 20 = .ok (.putfield 21, 3) := by decide +kernel
theorem dX2_init_23 : decode cX2_init 23 = .ok (.iconst 0, 1) := by decide +kernel
theorem dX2_init_24 : decode cX2_init 24 = .ok (.istore_n 1, 1) := by decide +kernel
theorem dX2_init_25 : decode cX2_init 25 = .ok (.iload_n 1, 1) := by decide +kernel
theorem dX2_init_26 : decode cX2_init 26 = .ok (.bipush 30, 2) := by decide +kernel
theorem dX2_init_28 : decode cX2_init 28 = .ok (.if_icmp .ge 22, 3) := by decide +kernel
theorem dX2_init_31 : decode cX2_init 31 = .ok (.aload_n 0, 1) := by decide +kernel
theorem dX2_init_32 : decode cX2_init 32 = .ok (.getfield 11, 3) := by decide +kernel
theorem dX2_init_35 : decode cX2_init 35 = .ok (.iload_n 1, 1) := by decide +kernel
theorem dX2_init_36 : decode cX2_init 36 = .ok (.new 9, 3) := by decide +kernel
theorem dX2_init_39 : decode cX2_init 39 = .ok (.dup, 1) := by decide +kernel
theorem dX2_init_40 : decode cX2_init 40 = .ok (.invokespecial 24, 3) := by decide +kernel
theorem dX2_init_43 : decode cX2_init 43 = .ok (.aastore, 1) := by decide +kernel
theorem dX2_init_44 : decode cX2_init 44 = .ok (.iinc 1 1, 3) := by decide +kernel
theorem dX2_init_47 : decode cX2_init 47 = .ok (.goto (-22), 3) := by decide +kernel
theorem dX2_init_50 : decode cX2_init 50 = .ok (.return_, 1) := by decide +kernel
theorem dX2_remember_0 : decode cX2_remember 0 = .ok (.aload_n 0, 1) := by decide +kernel
theorem dX2_remember_1 : decode cX2_remember 1 = .ok (.getfield 21, 3) := by decide +kernel
theorem dX2_remember_4 : decode cX2_remember 4 = .ok (.bipush 30, 2) := by decide +kernel
theorem dX2_remember_6 : decode cX2_remember 6 = .ok (.if_icmp .ge 16, 3) := by decide +kernel
theorem dX2_remember_9 : decode cX2_remember 9 = .ok (.aload_n 0, 1) := by decide +kernel
theorem dX2_remember_10 : decode cX2_remember 10 = .ok (.dup, 1) := by decide +kernel
theorem dX2_remember_11 : decode cX2_remember 11 = .ok (.getfield 21, 3) := by decide +kernel
theorem dX2_remember_14 : decode cX2_remember 14 = .ok (.iconst 1, 1) := by decide +kernel
theorem dX2_remember_15 : decode cX2_remember 15 = .ok (.iadd, 1) := by decide +kernel
theorem dX2_remember_16 : decode cX2_remember 16 = .ok (.putfield 21, 3) := by decide +kernel
theorem dX2_remember_19 : decode cX2_remember 19 = .ok (.goto 16, 3) := by decide +kernel
theorem dX2_remember_22 : decode cX2_remember 22 = .ok (.aload_n 0, 1) := by decide +kernel
theorem dX2_remember_23 : decode cX2_remember 23 = .ok (.aload_n 0, 1) := by decide +kernel
theorem dX2_remember_24 : decode cX2_remember 24 = .ok (.getfield 17, 3) := by decide +kernel
theorem dX2_remember_27 : decode cX2_remember 27 = .ok (.iconst 1, 1) := by decide +kernel
theorem dX2_remember_28 : decode cX2_remember 28 = .ok (.iadd, 1) := by decide +kernel
theorem dX2_remember_29 : decode cX2_remember 29 = .ok (.bipush 30, 2) := by decide +kernel
theorem dX2_remember_31 : decode cX2_remember 31 = .ok (.irem, 1) := by decide +kernel
theorem dX2_remember_32 : decode cX2_remember 32 = .ok (.putfield 17, 3) := by decide +kernel
theorem dX2_remember_35 : decode cX2_remember 35 = .ok (.aload_n 0, 1) := by decide +kernel
theorem dX2_remember_36 : decode cX2_remember 36 = .ok (.aload_n 0, 1) := by decide +kernel
theorem dX2_remember_37 : decode cX2_remember 37 = .ok (.getfield 21, 3) := by decide +kernel
theorem dX2_remember_40 : decode cX2_remember 40 = .ok (.iconst 1, 1) := by decide +kernel
theorem dX2_remember_41 : decode cX2_remember 41 = .ok (.isub, 1) := by decide +kernel
theorem dX2_remember_42 : decode cX2_remember 42 = .ok (.invokevirtual 25, 3) := by decide +kernel
theorem dX2_remember_45 : decode cX2_remember 45 = .ok (.astore_n 2, 1) := by decide +kernel
theorem dX2_remember_46 : decode cX2_remember 46 = .ok (.aload_n 2, 1) := by decide +kernel
theorem dX2_remember_47 : decode cX2_remember 47 = .ok (.ifnull 8, 3) := by decide +kernel
theorem dX2_remember_50 : decode cX2_remember 50 = .ok (.aload_n 2, 1) := by decide +kernel
theorem dX2_remember_51 : decode cX2_remember 51 = .ok (.aload_n 1, 1) := by decide +kernel
theorem dX2_remember_52 : decode cX2_remember 52 = .ok (.invokevirtual 29, 3) := by decide +kernel
theorem dX2_remember_55 : decode cX2_remember 55 = .ok (.return_, 1) := by decide +kernel
theorem dX2_takeBack_0 : decode cX2_takeBack 0 = .ok (.aload_n 0, 1) := by decide +kernel
theorem dX2_takeBack_1 : decode cX2_takeBack 1 = .ok (.aload_n 0, 1) := by decide +kernel
theorem dX2_takeBack_2 : decode cX2_takeBack 2 = .ok (.getfield 21, 3) := by decide +kernel
theorem dX2_takeBack_5 : decode cX2_takeBack 5 = .ok (.iload_n 2, 1) := by decide +kernel
theorem dX2_takeBack_6 : decode cX2_takeBack 6 = .ok (.isub, 1) := by decide +kernel
theorem dX2_takeBack_7 : decode cX2_takeBack 7 = .ok (.invokevirtual 25, 3) := by decide +kernel
theorem dX2_takeBack_10 : decode cX2_takeBack 10 = .ok (.astore_n 3, 1) := by decide +kernel
theorem dX2_takeBack_11 : decode cX2_takeBack 11 = .ok (.aload_n 3, 1) := by decide +kernel
theorem dX2_takeBack_12 : decode cX2_takeBack 12 = .ok (.ifnonnull 4, 3) := by decide +kernel
theorem dX2_takeBack_15 : decode cX2_takeBack 15 = .ok (.return_, 1) := by decide +kernel
theorem dX2_takeBack_16 : decode cX2_takeBack 16 = .ok (.aload_n 1, 1) := by decide +kernel
theorem dX2_takeBack_17 : decode cX2_takeBack 17 = .ok (.aload_n 3, 1) := by decide +kernel
theorem dX2_takeBack_18 : decode cX2_takeBack 18 = .ok (.invokevirtual 29, 3) := by decide +kernel
theorem dX2_takeBack_21 : decode cX2_takeBack 21 = .ok (.aload_n 0, 1) := by decide +kernel
theorem dX2_takeBack_22 : decode cX2_takeBack 22 = .ok (.dup, 1) := by decide +kernel
theorem dX2_takeBack_23 : decode cX2_takeBack 23 = .ok (.getfield 21, 3) := by decide +kernel
theorem dX2_takeBack_26 : decode cX2_takeBack 26 = .ok (.iload_n 2, 1) := by decide +kernel
theorem dX2_takeBack_27 : decode cX2_takeBack 27 = .ok (.isub, 1) := by decide +kernel
theorem dX2_takeBack_28 : decode cX2_takeBack 28 = .ok (.putfield 21, 3) := by decide +kernel
theorem dX2_takeBack_31 : decode cX2_takeBack 31 = .ok (.return_, 1) := by decide +kernel
theorem dX2_stateAt_0 : decode cX2_stateAt 0 = .ok (.aload_n 0, 1) := by decide +kernel
theorem dX2_stateAt_1 : decode cX2_stateAt 1 = .ok (.getfield 17, 3) := by decide +kernel
theorem dX2_stateAt_4 : decode cX2_stateAt 4 = .ok (.iload_n 1, 1) := by decide +kernel
theorem dX2_stateAt_5 : decode cX2_stateAt 5 = .ok (.iadd, 1) := by decide +kernel
theorem dX2_stateAt_6 : decode cX2_stateAt 6 = .ok (.bipush 30, 2) := by decide +kernel
theorem dX2_stateAt_8 : decode cX2_stateAt 8 = .ok (.irem, 1) := by decide +kernel
theorem dX2_stateAt_9 : decode cX2_stateAt 9 = .ok (.istore_n 2, 1) := by decide +kernel
theorem dX2_stateAt_10 : decode cX2_stateAt 10 = .ok (.iload_n 1, 1) := by decide +kernel
theorem dX2_stateAt_11 : decode cX2_stateAt 11 = .ok (.ifCond .lt 22, 3) := by decide +kernel
theorem dX2_stateAt_14 : decode cX2_stateAt 14 = .ok (.iload_n 2, 1) := by decide +kernel
theorem dX2_stateAt_15 : decode cX2_stateAt 15 = .ok (.ifCond .lt 18, 3) := by decide +kernel
theorem dX2_stateAt_18 : decode cX2_stateAt 18 = .ok (.iload_n 2, 1) := by decide +kernel
theorem dX2_stateAt_19 : decode cX2_stateAt 19 = .ok (.bipush 30, 2) := by decide +kernel
theorem dX2_stateAt_21 : decode cX2_stateAt 21 = .ok (.if_icmp .ge 12, 3) := by decide +kernel
theorem dX2_stateAt_24 : decode cX2_stateAt 24 = .ok (.aload_n 0, 1) := by decide +kernel
theorem dX2_stateAt_25 : decode cX2_stateAt 25 = .ok (.getfield 11, 3) := by decide +kernel
theorem dX2_stateAt_28 : decode cX2_stateAt 28 = .ok (.iload_n 2, 1) := by decide +kernel
theorem dX2_stateAt_29 : decode cX2_stateAt 29 = .ok (.aaload, 1) := by decide +kernel
theorem dX2_stateAt_30 : decode cX2_stateAt 30 = .ok (.goto 4, 3) := by decide +kernel
theorem dX2_stateAt_33 : decode cX2_stateAt 33 = .ok (.aconst_null, 1) := by decide +kernel
theorem dX2_stateAt_34 : decode cX2_stateAt 34 = .ok (.areturn, 1) := by decide +kernel
theorem dX3_init_0 : decode cX3_init 0 = .ok (.aload_n 0, 1) := by decide +kernel
theorem dX3_init_1 : decode cX3_init 1 = .ok (.invokespecial 3, 3) := by decide +kernel
theorem dX3_init_4 : decode cX3_init 4 = .ok (.aload_n 0, 1) := by decide +kernel
theorem dX3_init_5 : decode cX3_init 5 = .ok (.sipush 240, 3) := by decide +kernel
theorem dX3_init_8 : decode cX3_init 8 = .ok (.newarray .int, 2) := by decide +kernel
theorem dX3_init_10 : decode cX3_init 10 = .ok (.putfield 9, 3) := by decide +kernel
theorem dX3_init_13 : decode cX3_init 13 = .ok (.aload_n 0, 1) := by decide +kernel
theorem dX3_init_14 : decode cX3_init 14 = .ok (.iconst 0, 1) := by decide +kernel
theorem dX3_init_15 : decode cX3_init 15 = .ok (.putfield 15, 3) := by decide +kernel
theorem dX3_init_18 : decode cX3_init 18 = .ok (.aload_n 0, 1) := by decide +kernel
theorem dX3_init_19 : decode cX3_init 19 = .ok (.iconst 0, 1) := by decide +kernel
theorem dX3_init_20 : decode cX3_init 20 = .ok (.putfield 19, 3) := by decide +kernel
theorem dX3_init_23 : decode cX3_init 23 = .ok (.aload_n 0, 1) := by decide +kernel
theorem dX3_init_24 : decode cX3_init 24 = .ok (.iconst 0, 1) := by decide +kernel
theorem dX3_init_25 : decode cX3_init 25 = .ok (.putfield 22, 3) := by decide +kernel
theorem dX3_init_28 : decode cX3_init 28 = .ok (.aload_n 0, 1) := by decide +kernel
theorem dX3_init_29 : decode cX3_init 29 = .ok (.iconst 0, 1) := by decide +kernel
theorem dX3_init_30 : decode cX3_init 30 = .ok (.putfield 25, 3) := by decide +kernel
theorem dX3_init_33 : decode cX3_init 33 = .ok (.aload_n 0, 1) := by decide +kernel
theorem dX3_init_34 : decode cX3_init 34 = .ok (.iconst (-1), 1) := by decide +kernel
theorem dX3_init_35 : decode cX3_init 35 = .ok (.putfield 28, 3) := by decide +kernel
theorem dX3_init_38 : decode cX3_init 38 = .ok (.aload_n 0, 1) := by decide +kernel
theorem dX3_init_39 : decode cX3_init 39 = .ok (.iconst 0, 1) := by decide +kernel
theorem dX3_init_40 : decode cX3_init 40 = .ok (.putfield 31, 3) := by decide +kernel
theorem dX3_init_43 : decode cX3_init 43 = .ok (.aload_n 0, 1) := by decide +kernel
theorem dX3_init_44 : decode cX3_init 44 = .ok (.iconst 0, 1) := by decide +kernel
theorem dX3_init_45 : decode cX3_init 45 = .ok (.putfield 35, 3) := by decide +kernel
theorem dX3_init_48 : decode cX3_init 48 = .ok (.return_, 1) := by decide +kernel
theorem dX3_append_0 : decode cX3_append 0 = .ok (.aload_n 0, 1) := by decide +kernel
theorem dX3_append_1 : decode cX3_append 1 = .ok (.getfield 9, 3) := by decide +kernel
theorem dX3_append_4 : decode cX3_append 4 = .ok (.aload_n 0, 1) := by decide +kernel
theorem dX3_append_5 : decode cX3_append 5 = .ok (.getfield 15, 3) := by decide +kernel
theorem dX3_append_8 : decode cX3_append 8 = .ok (.iload_n 1, 1) := by decide +kernel
theorem dX3_append_9 : decode cX3_append 9 = .ok (.invokestatic 38, 3) := by decide +kernel
theorem dX3_append_12 : decode cX3_append 12 = .ok (.aload_n 0, 1) := by decide +kernel
theorem dX3_append_13 : decode cX3_append 13 = .ok (.dup, 1) := by decide +kernel
theorem dX3_append_14 : decode cX3_append 14 = .ok (.getfield 15, 3) := by decide +kernel
theorem dX3_append_17 : decode cX3_append 17 = .ok (.iconst 1, 1) := by decide +kernel
theorem dX3_append_18 : decode cX3_append 18 = .ok (.iadd, 1) := by decide +kernel
theorem dX3_append_19 : decode cX3_append 19 = .ok (.putfield 15, 3) := by decide +kernel
theorem dX3_append_22 : decode cX3_append 22 = .ok (.aload_n 0, 1) := by decide +kernel
theorem dX3_append_23 : decode cX3_append 23 = .ok (.getfield 15, 3) := by decide +kernel
theorem dX3_append_26 : decode cX3_append 26 = .ok (.ireturn, 1) := by decide +kernel
theorem dX3_readAll_0 : decode cX3_readAll 0 = .ok (.aload_n 1, 1) := by decide +kernel
theorem dX3_readAll_1 : decode cX3_readAll 1 = .ok (.invokevirtual 42, 3) := by decide +kernel
theorem dX3_readAll_4 : decode cX3_readAll 4 = .ok (.aload_n 0, 1) := by decide +kernel
theorem dX3_readAll_5 : decode cX3_readAll 5 = .ok (.iconst 0, 1) := by decide +kernel
theorem dX3_readAll_6 : decode cX3_readAll 6 = .ok (.putfield 19, 3) := by decide +kernel
theorem dX3_readAll_9 : decode cX3_readAll 9 = .ok (.aload_n 0, 1) := by decide +kernel
theorem dX3_readAll_10 : decode cX3_readAll 10 = .ok (.iconst 0, 1) := by decide +kernel
theorem dX3_readAll_11 : decode cX3_readAll 11 = .ok (.putfield 25, 3) := by decide +kernel
theorem dX3_readAll_14 : decode cX3_readAll 14 = .ok (.aload_n 0, 1) := by decide +kernel
theorem dX3_readAll_15 : decode cX3_readAll 15 = .ok (.iconst (-1), 1) := by decide +kernel
theorem dX3_readAll_16 : decode cX3_readAll 16 = .ok (.putfield 28, 3) := by decide +kernel
theorem dX3_readAll_19 : decode cX3_readAll 19 = .ok (.aload_n 0, 1) := by decide +kernel
theorem dX3_readAll_20 : decode cX3_readAll 20 = .ok (.iconst 0, 1) := by decide +kernel
theorem dX3_readAll_21 : decode cX3_readAll 21 = .ok (.putfield 31, 3) := by decide +kernel
theorem dX3_readAll_24 : decode cX3_readAll 24 = .ok (.aload_n 0, 1) := by decide +kernel
theorem dX3_readAll_25 : decode cX3_readAll 25 = .ok (.iconst 0, 1) := by decide +kernel
theorem dX3_readAll_26 : decode cX3_readAll 26 = .ok (.putfield 35, 3) := by decide +kernel
theorem dX3_readAll_29 : decode cX3_readAll 29 = .ok (.iconst 0, 1) := by decide +kernel
theorem dX3_readAll_30 : decode cX3_readAll 30 = .ok (.istore_n 2, 1) := by decide +kernel
theorem dX3_readAll_31 : decode cX3_readAll 31 = .ok (.iload_n 2, 1) := by decide +kernel
theorem dX3_readAll_32 : decode cX3_readAll 32 = .ok (.sipush 240, 3) := by decide +kernel
theorem dX3_readAll_35 : decode cX3_readAll 35 = .ok (.if_icmp .ge 35, 3) := by decide +kernel
theorem dX3_readAll_38 : decode cX3_readAll 38 = .ok (.aload_n 0, 1) := by decide +kernel
theorem dX3_readAll_39 : decode cX3_readAll 39 = .ok (.getfield 25, 3) := by decide +kernel
theorem dX3_readAll_42 : decode cX3_readAll 42 = .ok (.ifCond .ne 28, 3) := by decide +kernel
theorem dX3_readAll_45 : decode cX3_readAll 45 = .ok (.aload_n 0, 1) := by decide +kernel
theorem dX3_readAll_46 : decode cX3_readAll 46 = .ok (.invokevirtual 47, 3) := by decide +kernel
theorem dX3_readAll_49 : decode cX3_readAll 49 = .ok (.istore_n 3, 1) := by decide +kernel
theorem dX3_readAll_50 : decode cX3_readAll 50 = .ok (.iload_n 3, 1) := by decide +kernel
theorem dX3_readAll_51 : decode cX3_readAll 51 = .ok (.iconst (-1), 1) := by decide +kernel
theorem dX3_readAll_52 : decode cX3_readAll 52 = .ok (.if_icmp .ne 6, 3) := by decide +kernel
theorem dX3_readAll_55 : decode cX3_readAll 55 = .ok (.goto 15, 3) := by decide +kernel
theorem dX3_readAll_58 : decode cX3_readAll 58 = .ok (.aload_n 0, 1) := by decide +kernel
theorem dX3_readAll_59 : decode cX3_readAll 59 = .ok (.aload_n 1, 1) := by decide +kernel
theorem dX3_readAll_60 : decode cX3_readAll 60 = .ok (.iload_n 3, 1) := by decide +kernel
theorem dX3_readAll_61 : decode cX3_readAll 61 = .ok (.invokevirtual 51, 3) := by decide +kernel
theorem dX3_readAll_64 : decode cX3_readAll 64 = .ok (.iinc 2 1, 3) := by decide +kernel
theorem dX3_readAll_67 : decode cX3_readAll 67 = .ok (.goto (-36), 3) := by decide +kernel
theorem dX3_readAll_70 : decode cX3_readAll 70 = .ok (.aload_n 0, 1) := by decide +kernel
theorem dX3_readAll_71 : decode cX3_readAll 71 = .ok (.iconst 0, 1) := by decide +kernel
theorem dX3_readAll_72 : decode cX3_readAll 72 = .ok (.putfield 15, 3) := by decide +kernel
theorem dX3_readAll_75 : decode cX3_readAll 75 = .ok (.aload_n 0, 1) := by decide +kernel
theorem dX3_readAll_76 : decode cX3_readAll 76 = .ok (.getfield 25, 3) := by decide +kernel
theorem dX3_readAll_79 : decode cX3_readAll 79 = .ok (.ireturn, 1) := by decide +kernel
theorem dX3_letterAt_0 : decode cX3_letterAt 0 = .ok (.iload_n 1, 1) := by decide +kernel
theorem dX3_letterAt_1 : decode cX3_letterAt 1 = .ok (.ifCond .lt 27, 3) := by decide +kernel
theorem dX3_letterAt_4 : decode cX3_letterAt 4 = .ok (.iload_n 1, 1) := by decide +kernel
theorem dX3_letterAt_5 : decode cX3_letterAt 5 = .ok (.aload_n 0, 1) := by decide +kernel
theorem dX3_letterAt_6 : decode cX3_letterAt 6 = .ok (.getfield 15, 3) := by decide +kernel
theorem dX3_letterAt_9 : decode cX3_letterAt 9 = .ok (.if_icmp .ge 19, 3) := by decide +kernel
theorem dX3_letterAt_12 : decode cX3_letterAt 12 = .ok (.iload_n 1, 1) := by decide +kernel
theorem dX3_letterAt_13 : decode cX3_letterAt 13 = .ok (.sipush 240, 3) := by decide +kernel
theorem dX3_letterAt_16 : decode cX3_letterAt 16 = .ok (.if_icmp .ge 12, 3) := by decide +kernel
theorem dX3_letterAt_19 : decode cX3_letterAt 19 = .ok (.aload_n 0, 1) := by decide +kernel
theorem dX3_letterAt_20 : decode cX3_letterAt 20 = .ok (.getfield 9, 3) := by decide +kernel
theorem dX3_letterAt_23 : decode cX3_letterAt 23 = .ok (.iload_n 1, 1) := by decide +kernel
theorem dX3_letterAt_24 : decode cX3_letterAt 24 = .ok (.iaload, 1) := by decide +kernel
theorem dX3_letterAt_25 : decode cX3_letterAt 25 = .ok (.goto 4, 3) := by decide +kernel
theorem dX3_letterAt_28 : decode cX3_letterAt 28 = .ok (.iconst (-1), 1) := by decide +kernel
theorem dX3_letterAt_29 : decode cX3_letterAt 29 = .ok (.ireturn, 1) := by decide +kernel
theorem dX3_nextLetter_0 : decode cX3_nextLetter 0 = .ok (.aload_n 0, 1) := by decide +kernel
theorem dX3_nextLetter_1 : decode cX3_nextLetter 1 = .ok (.getfield 19, 3) := by decide +kernel
theorem dX3_nextLetter_4 : decode cX3_nextLetter 4 = .ok (.aload_n 0, 1) := by decide +kernel
theorem dX3_nextLetter_5 : decode cX3_nextLetter 5 = .ok (.getfield 15, 3) := by decide +kernel
theorem dX3_nextLetter_8 : decode cX3_nextLetter 8 = .ok (.if_icmp .ge 29, 3) := by decide +kernel
theorem dX3_nextLetter_11 : decode cX3_nextLetter 11 = .ok (.aload_n 0, 1) := by decide +kernel
theorem dX3_nextLetter_12 : decode cX3_nextLetter 12 = .ok (.aload_n 0, 1) := by decide +kernel
theorem dX3_nextLetter_13 : decode cX3_nextLetter 13 = .ok (.getfield 19, 3) := by decide +kernel
theorem dX3_nextLetter_16 : decode cX3_nextLetter 16 = .ok (.invokevirtual 55, 3) := by decide +kernel
theorem dX3_nextLetter_19 : decode cX3_nextLetter 19 = .ok (.bipush 32, 2) := by decide +kernel
theorem dX3_nextLetter_21 : decode cX3_nextLetter 21 = .ok (.if_icmp .ne 16, 3) := by decide +kernel
theorem dX3_nextLetter_24 : decode cX3_nextLetter 24 = .ok (.aload_n 0, 1) := by decide +kernel
theorem dX3_nextLetter_25 : decode cX3_nextLetter 25 = .ok (.dup, 1) := by decide +kernel
theorem dX3_nextLetter_26 : decode cX3_nextLetter 26 = .ok (.getfield 19, 3) := by decide +kernel
theorem dX3_nextLetter_29 : decode cX3_nextLetter 29 = .ok (.iconst 1, 1) := by decide +kernel
theorem dX3_nextLetter_30 : decode cX3_nextLetter 30 = .ok (.iadd, 1) := by decide +kernel
theorem dX3_nextLetter_31 : decode cX3_nextLetter 31 = .ok (.putfield 19, 3) := by decide +kernel
theorem dX3_nextLetter_34 : decode cX3_nextLetter 34 = .ok (.goto (-34), 3) := by decide +kernel
theorem dX3_nextLetter_37 : decode cX3_nextLetter 37 = .ok (.aload_n 0, 1) := by decide +kernel
theorem dX3_nextLetter_38 : decode cX3_nextLetter 38 = .ok (.aload_n 0, 1) := by decide +kernel
theorem dX3_nextLetter_39 : decode cX3_nextLetter 39 = .ok (.getfield 19, 3) := by decide +kernel
theorem dX3_nextLetter_42 : decode cX3_nextLetter 42 = .ok (.invokevirtual 55, 3) := by decide +kernel
theorem dX3_nextLetter_45 : decode cX3_nextLetter 45 = .ok (.ireturn, 1) := by decide +kernel
theorem dX3_fail_0 : decode cX3_fail 0 = .ok (.aload_n 0, 1) := by decide +kernel
theorem dX3_fail_1 : decode cX3_fail 1 = .ok (.getfield 25, 3) := by decide +kernel
theorem dX3_fail_4 : decode cX3_fail 4 = .ok (.ifCond .eq 4, 3) := by decide +kernel
theorem dX3_fail_7 : decode cX3_fail 7 = .ok (.return_, 1) := by decide +kernel
theorem dX3_fail_8 : decode cX3_fail 8 = .ok (.aload_n 0, 1) := by decide +kernel
theorem dX3_fail_9 : decode cX3_fail 9 = .ok (.iload_n 1, 1) := by decide +kernel
theorem dX3_fail_10 : decode cX3_fail 10 = .ok (.putfield 25, 3) := by decide +kernel
theorem dX3_fail_13 : decode cX3_fail 13 = .ok (.aload_n 0, 1) := by decide +kernel
theorem dX3_fail_14 : decode cX3_fail 14 = .ok (.iload_n 2, 1) := by decide +kernel
theorem dX3_fail_15 : decode cX3_fail 15 = .ok (.putfield 28, 3) := by decide +kernel
theorem dX3_fail_18 : decode cX3_fail 18 = .ok (.return_, 1) := by decide +kernel
theorem dX3_readClause_0 : decode cX3_readClause 0 = .ok (.aload_n 0, 1) := by decide +kernel
theorem dX3_readClause_1 : decode cX3_readClause 1 = .ok (.aload_n 1, 1) := by decide +kernel
theorem dX3_readClause_2 : decode cX3_readClause 2 = .ok (.iload_n 2, 1) := by decide +kernel
theorem dX3_readClause_3 : decode cX3_readClause 3 = .ok (.invokevirtual 59, 3) := by decide +kernel
theorem dX3_readClause_6 : decode cX3_readClause 6 = .ok (.istore_n 3, 1) := by decide +kernel
theorem dX3_readClause_7 : decode cX3_readClause 7 = .ok (.iload_n 3, 1) := by decide +kernel
theorem dX3_readClause_8 : decode cX3_readClause 8 = .ok (.ifCond .eq 13, 3) := by decide +kernel
theorem dX3_readClause_11 : decode cX3_readClause 11 = .ok (.aload_n 0, 1) := by decide +kernel
theorem dX3_readClause_12 : decode cX3_readClause 12 = .ok (.iload_n 3, 1) := by decide +kernel
theorem dX3_readClause_13 : decode cX3_readClause 13 = .ok (.aload_n 0, 1) := by decide +kernel
theorem dX3_readClause_14 : decode cX3_readClause 14 = .ok (.getfield 19, 3) := by decide +kernel
theorem dX3_readClause_17 : decode cX3_readClause 17 = .ok (.invokevirtual 63, 3) := by decide +kernel
theorem dX3_readClause_20 : decode cX3_readClause 20 = .ok (.return_, 1) := by decide +kernel
theorem dX3_readClause_21 : decode cX3_readClause 21 = .ok (.aload_n 0, 1) := by decide +kernel
theorem dX3_readClause_22 : decode cX3_readClause 22 = .ok (.dup, 1) := by decide +kernel
theorem dX3_readClause_23 : decode cX3_readClause 23 = .ok (.getfield 19, 3) := by decide +kernel
theorem dX3_readClause_26 : decode cX3_readClause 26 = .ok (.iconst 1, 1) := by decide +kernel
theorem dX3_readClause_27 : decode cX3_readClause 27 = .ok (.iadd, 1) := by decide +kernel
theorem dX3_readClause_28 : decode cX3_readClause 28 = .ok (.putfield 19, 3) := by decide +kernel
theorem dX3_readClause_31 : decode cX3_readClause 31 = .ok (.iload_n 2, 1) := by decide +kernel
theorem dX3_readClause_32 : decode cX3_readClause 32 = .ok (.lookupswitch 112 #[(100, 76), (102, 52), (104, 60), (112, 68), (117, 94)], 52) := by decide +kernel
theorem dX3_readClause_84 : decode cX3_readClause 84 = .ok (.aload_n 0, 1) := by decide +kernel
theorem dX3_readClause_85 : decode cX3_readClause 85 = .ok (.aload_n 1, 1) := by decide +kernel
theorem dX3_readClause_86 : decode cX3_readClause 86 = .ok (.invokevirtual 67, 3) := by decide +kernel
theorem dX3_readClause_89 : decode cX3_readClause 89 = .ok (.goto 60, 3) := by decide +kernel
theorem dX3_readClause_92 : decode cX3_readClause 92 = .ok (.aload_n 0, 1) := by decide +kernel
theorem dX3_readClause_93 : decode cX3_readClause 93 = .ok (.aload_n 1, 1) := by decide +kernel
theorem dX3_readClause_94 : decode cX3_readClause 94 = .ok (.invokevirtual 71, 3) := by decide +kernel
theorem dX3_readClause_97 : decode cX3_readClause 97 = .ok (.goto 52, 3) := by decide +kernel
theorem dX3_readClause_100 : decode cX3_readClause 100 = .ok (.aload_n 0, 1) := by decide +kernel
theorem dX3_readClause_101 : decode cX3_readClause 101 = .ok (.aload_n 1, 1) := by decide +kernel
theorem dX3_readClause_102 : decode cX3_readClause 102 = .ok (.invokevirtual 74, 3) := by decide +kernel
theorem dX3_readClause_105 : decode cX3_readClause 105 = .ok (.goto 44, 3) := by decide +kernel
theorem dX3_readClause_108 : decode cX3_readClause 108 = .ok (.aload_n 0, 1) := by decide +kernel
theorem dX3_readClause_109 : decode cX3_readClause 109 = .ok (.aload_n 1, 1) := by decide +kernel
theorem dX3_readClause_110 : decode cX3_readClause 110 = .ok (.getfield 77, 3) := by decide +kernel
theorem dX3_readClause_113 : decode cX3_readClause 113 = .ok (.bipush 127, 2) := by decide +kernel
theorem dX3_readClause_115 : decode cX3_readClause 115 = .ok (.invokevirtual 80, 3) := by decide +kernel
theorem dX3_readClause_118 : decode cX3_readClause 118 = .ok (.aload_n 0, 1) := by decide +kernel
theorem dX3_readClause_119 : decode cX3_readClause 119 = .ok (.iconst 1, 1) := by decide +kernel
theorem dX3_readClause_120 : decode cX3_readClause 120 = .ok (.putfield 31, 3) := by decide +kernel
theorem dX3_readClause_123 : decode cX3_readClause 123 = .ok (.goto 26, 3) := by decide +kernel
theorem dX3_readClause_126 : decode cX3_readClause 126 = .ok (.aload_n 0, 1) := by decide +kernel
theorem dX3_readClause_127 : decode cX3_readClause 127 = .ok (.aload_n 1, 1) := by decide +kernel
theorem dX3_readClause_128 : decode cX3_readClause 128 = .ok (.getfield 84, 3) := by decide +kernel
theorem dX3_readClause_131 : decode cX3_readClause 131 = .ok (.bipush 99, 2) := by decide +kernel
theorem dX3_readClause_133 : decode cX3_readClause 133 = .ok (.invokevirtual 80, 3) := by decide +kernel
theorem dX3_readClause_136 : decode cX3_readClause 136 = .ok (.aload_n 0, 1) := by decide +kernel
theorem dX3_readClause_137 : decode cX3_readClause 137 = .ok (.iconst 1, 1) := by decide +kernel
theorem dX3_readClause_138 : decode cX3_readClause 138 = .ok (.putfield 35, 3) := by decide +kernel
theorem dX3_readClause_141 : decode cX3_readClause 141 = .ok (.goto 8, 3) := by decide +kernel
theorem dX3_readClause_144 : decode cX3_readClause 144 = .ok (.aload_n 0, 1) := by decide +kernel
theorem dX3_readClause_145 : decode cX3_readClause 145 = .ok (.aload_n 1, 1) := by decide +kernel
theorem dX3_readClause_146 : decode cX3_readClause 146 = .ok (.invokevirtual 87, 3) := by decide +kernel
theorem dX3_readClause_149 : decode cX3_readClause 149 = .ok (.return_, 1) := by decide +kernel
theorem dX3_faultOfWord_0 : decode cX3_faultOfWord 0 = .ok (.aload_n 1, 1) := by decide +kernel
theorem dX3_faultOfWord_1 : decode cX3_faultOfWord 1 = .ok (.getfield 90, 3) := by decide +kernel
theorem dX3_faultOfWord_4 : decode cX3_faultOfWord 4 = .ok (.ifCond .ne 15, 3) := by decide +kernel
theorem dX3_faultOfWord_7 : decode cX3_faultOfWord 7 = .ok (.iload_n 2, 1) := by decide +kernel
theorem dX3_faultOfWord_8 : decode cX3_faultOfWord 8 = .ok (.bipush 102, 2) := by decide +kernel
theorem dX3_faultOfWord_10 : decode cX3_faultOfWord 10 = .ok (.if_icmp .ne 7, 3) := by decide +kernel
theorem dX3_faultOfWord_13 : decode cX3_faultOfWord 13 = .ok (.iconst 0, 1) := by decide +kernel
theorem dX3_faultOfWord_14 : decode cX3_faultOfWord 14 = .ok (.goto 4, 3) := by decide +kernel
theorem dX3_faultOfWord_17 : decode cX3_faultOfWord 17 = .ok (.iconst 1, 1) := by decide +kernel
theorem dX3_faultOfWord_18 : decode cX3_faultOfWord 18 = .ok (.ireturn, 1) := by decide +kernel
theorem dX3_faultOfWord_19 : decode cX3_faultOfWord 19 = .ok (.iload_n 2, 1) := by decide +kernel
theorem dX3_faultOfWord_20 : decode cX3_faultOfWord 20 = .ok (.tableswitch 160 100 117 #[120, 160, 88, 146, 90, 160, 160, 160, 160, 160, 160, 160, 105, 160, 160, 160, 160, 133], 88) := by decide +kernel
theorem dX3_faultOfWord_108 : decode cX3_faultOfWord 108 = .ok (.iconst 3, 1) := by decide +kernel
theorem dX3_faultOfWord_109 : decode cX3_faultOfWord 109 = .ok (.ireturn, 1) := by decide +kernel
theorem dX3_faultOfWord_110 : decode cX3_faultOfWord 110 = .ok (.aload_n 1, 1) := by decide +kernel
theorem dX3_faultOfWord_111 : decode cX3_faultOfWord 111 = .ok (.getfield 93, 3) := by decide +kernel
theorem dX3_faultOfWord_114 : decode cX3_faultOfWord 114 = .ok (.bipush 12, 2) := by decide +kernel
theorem dX3_faultOfWord_116 : decode cX3_faultOfWord 116 = .ok (.if_icmp .ge 7, 3) := by decide +kernel
theorem dX3_faultOfWord_119 : decode cX3_faultOfWord 119 = .ok (.iconst 0, 1) := by decide +kernel
theorem dX3_faultOfWord_120 : decode cX3_faultOfWord 120 = .ok (.goto 4, 3) := by decide +kernel
theorem dX3_faultOfWord_123 : decode cX3_faultOfWord 123 = .ok (.iconst 3, 1) := by decide +kernel
theorem dX3_faultOfWord_124 : decode cX3_faultOfWord 124 = .ok (.ireturn, 1) := by decide +kernel
theorem dX3_faultOfWord_125 : decode cX3_faultOfWord 125 = .ok (.aload_n 1, 1) := by decide +kernel
theorem dX3_faultOfWord_126 : decode cX3_faultOfWord 126 = .ok (.getfield 96, 3) := by decide +kernel
theorem dX3_faultOfWord_129 : decode cX3_faultOfWord 129 = .ok (.bipush 6, 2) := by decide +kernel
theorem dX3_faultOfWord_131 : decode cX3_faultOfWord 131 = .ok (.if_icmp .ge 7, 3) := by decide +kernel
theorem dX3_faultOfWord_134 : decode cX3_faultOfWord 134 = .ok (.iconst 0, 1) := by decide +kernel
theorem dX3_faultOfWord_135 : decode cX3_faultOfWord 135 = .ok (.goto 4, 3) := by decide +kernel
theorem dX3_faultOfWord_138 : decode cX3_faultOfWord 138 = .ok (.iconst 3, 1) := by decide +kernel
theorem dX3_faultOfWord_139 : decode cX3_faultOfWord 139 = .ok (.ireturn, 1) := by decide +kernel
theorem dX3_faultOfWord_140 : decode cX3_faultOfWord 140 = .ok (.aload_n 0, 1) := by decide +kernel
theorem dX3_faultOfWord_141 : decode cX3_faultOfWord 141 = .ok (.getfield 31, 3) := by decide +kernel
theorem dX3_faultOfWord_144 : decode cX3_faultOfWord 144 = .ok (.ifCond .eq 7, 3) := by decide +kernel
theorem dX3_faultOfWord_147 : decode cX3_faultOfWord 147 = .ok (.iconst 3, 1) := by decide +kernel
theorem dX3_faultOfWord_148 : decode cX3_faultOfWord 148 = .ok (.goto 4, 3) := by decide +kernel
theorem dX3_faultOfWord_151 : decode cX3_faultOfWord 151 = .ok (.iconst 0, 1) := by decide +kernel
theorem dX3_faultOfWord_152 : decode cX3_faultOfWord 152 = .ok (.ireturn, 1) := by decide +kernel
theorem dX3_faultOfWord_153 : decode cX3_faultOfWord 153 = .ok (.aload_n 0, 1) := by decide +kernel
theorem dX3_faultOfWord_154 : decode cX3_faultOfWord 154 = .ok (.getfield 35, 3) := by decide +kernel
theorem dX3_faultOfWord_157 : decode cX3_faultOfWord 157 = .ok (.ifCond .eq 7, 3) := by decide +kernel
theorem dX3_faultOfWord_160 : decode cX3_faultOfWord 160 = .ok (.iconst 3, 1) := by decide +kernel
theorem dX3_faultOfWord_161 : decode cX3_faultOfWord 161 = .ok (.goto 4, 3) := by decide +kernel
theorem dX3_faultOfWord_164 : decode cX3_faultOfWord 164 = .ok (.iconst 0, 1) := by decide +kernel
theorem dX3_faultOfWord_165 : decode cX3_faultOfWord 165 = .ok (.ireturn, 1) := by decide +kernel
theorem dX3_faultOfWord_166 : decode cX3_faultOfWord 166 = .ok (.aload_n 1, 1) := by decide +kernel
theorem dX3_faultOfWord_167 : decode cX3_faultOfWord 167 = .ok (.getfield 99, 3) := by decide +kernel
theorem dX3_faultOfWord_170 : decode cX3_faultOfWord 170 = .ok (.iconst 4, 1) := by decide +kernel
theorem dX3_faultOfWord_171 : decode cX3_faultOfWord 171 = .ok (.if_icmp .ge 7, 3) := by decide +kernel
theorem dX3_faultOfWord_174 : decode cX3_faultOfWord 174 = .ok (.iconst 0, 1) := by decide +kernel
theorem dX3_faultOfWord_175 : decode cX3_faultOfWord 175 = .ok (.goto 4, 3) := by decide +kernel
theorem dX3_faultOfWord_178 : decode cX3_faultOfWord 178 = .ok (.iconst 3, 1) := by decide +kernel
theorem dX3_faultOfWord_179 : decode cX3_faultOfWord 179 = .ok (.ireturn, 1) := by decide +kernel
theorem dX3_faultOfWord_180 : decode cX3_faultOfWord 180 = .ok (.iconst 1, 1) := by decide +kernel
theorem dX3_faultOfWord_181 : decode cX3_faultOfWord 181 = .ok (.ireturn, 1) := by decide +kernel
theorem dX3_readCells_0 : decode cX3_readCells 0 = .ok (.aload_n 0, 1) := by decide +kernel
theorem dX3_readCells_1 : decode cX3_readCells 1 = .ok (.iconst 1, 1) := by decide +kernel
theorem dX3_readCells_2 : decode cX3_readCells 2 = .ok (.bipush 12, 2) := by decide +kernel
theorem dX3_readCells_4 : decode cX3_readCells 4 = .ok (.invokevirtual 102, 3) := by decide +kernel
theorem dX3_readCells_7 : decode cX3_readCells 7 = .ok (.istore_n 2, 1) := by decide +kernel
theorem dX3_readCells_8 : decode cX3_readCells 8 = .ok (.aload_n 0, 1) := by decide +kernel
theorem dX3_readCells_9 : decode cX3_readCells 9 = .ok (.iconst 0, 1) := by decide +kernel
theorem dX3_readCells_10 : decode cX3_readCells 10 = .ok (.bipush 20, 2) := by decide +kernel
theorem dX3_readCells_12 : decode cX3_readCells 12 = .ok (.invokevirtual 102, 3) := by decide +kernel
theorem dX3_readCells_15 : decode cX3_readCells 15 = .ok (.istore_n 3, 1) := by decide +kernel
theorem dX3_readCells_16 : decode cX3_readCells 16 = .ok (.aload_n 0, 1) := by decide +kernel
theorem dX3_readCells_17 : decode cX3_readCells 17 = .ok (.invokevirtual 106, 3) := by decide +kernel
theorem dX3_readCells_20 : decode cX3_readCells 20 = .ok (.aload_n 1, 1) := by decide +kernel
theorem dX3_readCells_21 : decode cX3_readCells 21 = .ok (.iload_n 2, 1) := by decide +kernel
theorem dX3_readCells_22 : decode cX3_readCells 22 = .ok (.putfield 90, 3) := by decide +kernel
theorem dX3_readCells_25 : decode cX3_readCells 25 = .ok (.aload_n 1, 1) := by decide +kernel
theorem dX3_readCells_26 : decode cX3_readCells 26 = .ok (.iload_n 3, 1) := by decide +kernel
theorem dX3_readCells_27 : decode cX3_readCells 27 = .ok (.putfield 109, 3) := by decide +kernel
theorem dX3_readCells_30 : decode cX3_readCells 30 = .ok (.return_, 1) := by decide +kernel
theorem dX3_readHour_0 : decode cX3_readHour 0 = .ok (.aload_n 0, 1) := by decide +kernel
theorem dX3_readHour_1 : decode cX3_readHour 1 = .ok (.iconst 0, 1) := by decide +kernel
theorem dX3_readHour_2 : decode cX3_readHour 2 = .ok (.iconst 1, 1) := by decide +kernel
theorem dX3_readHour_3 : decode cX3_readHour 3 = .ok (.invokevirtual 102, 3) := by decide +kernel
theorem dX3_readHour_6 : decode cX3_readHour 6 = .ok (.istore_n 2, 1) := by decide +kernel
theorem dX3_readHour_7 : decode cX3_readHour 7 = .ok (.aload_n 0, 1) := by decide +kernel
theorem dX3_readHour_8 : decode cX3_readHour 8 = .ok (.iconst 0, 1) := by decide +kernel
theorem dX3_readHour_9 : decode cX3_readHour 9 = .ok (.bipush 40, 2) := by decide +kernel
theorem dX3_readHour_11 : decode cX3_readHour 11 = .ok (.invokevirtual 102, 3) := by decide +kernel
theorem dX3_readHour_14 : decode cX3_readHour 14 = .ok (.istore_n 3, 1) := by decide +kernel
theorem dX3_readHour_15 : decode cX3_readHour 15 = .ok (.aload_n 0, 1) := by decide +kernel
theorem dX3_readHour_16 : decode cX3_readHour 16 = .ok (.invokevirtual 106, 3) := by decide +kernel
theorem dX3_readHour_19 : decode cX3_readHour 19 = .ok (.aload_n 1, 1) := by decide +kernel
theorem dX3_readHour_20 : decode cX3_readHour 20 = .ok (.getfield 112, 3) := by decide +kernel
theorem dX3_readHour_23 : decode cX3_readHour 23 = .ok (.aload_n 1, 1) := by decide +kernel
theorem dX3_readHour_24 : decode cX3_readHour 24 = .ok (.getfield 93, 3) := by decide +kernel
theorem dX3_readHour_27 : decode cX3_readHour 27 = .ok (.iload_n 2, 1) := by decide +kernel
theorem dX3_readHour_28 : decode cX3_readHour 28 = .ok (.invokestatic 38, 3) := by decide +kernel
theorem dX3_readHour_31 : decode cX3_readHour 31 = .ok (.aload_n 1, 1) := by decide +kernel
theorem dX3_readHour_32 : decode cX3_readHour 32 = .ok (.getfield 115, 3) := by decide +kernel
theorem dX3_readHour_35 : decode cX3_readHour 35 = .ok (.aload_n 1, 1) := by decide +kernel
theorem dX3_readHour_36 : decode cX3_readHour 36 = .ok (.getfield 93, 3) := by decide +kernel
theorem dX3_readHour_39 : decode cX3_readHour 39 = .ok (.iload_n 3, 1) := by decide +kernel
theorem dX3_readHour_40 : decode cX3_readHour 40 = .ok (.invokestatic 38, 3) := by decide +kernel
theorem dX3_readHour_43 : decode cX3_readHour 43 = .ok (.aload_n 1, 1) := by decide +kernel
theorem dX3_readHour_44 : decode cX3_readHour 44 = .ok (.dup, 1) := by decide +kernel
theorem dX3_readHour_45 : decode cX3_readHour 45 = .ok (.getfield 93, 3) := by decide +kernel
theorem dX3_readHour_48 : decode cX3_readHour 48 = .ok (.iconst 1, 1) := by decide +kernel
theorem dX3_readHour_49 : decode cX3_readHour 49 = .ok (.iadd, 1) := by decide +kernel
theorem dX3_readHour_50 : decode cX3_readHour 50 = .ok (.putfield 93, 3) := by decide +kernel
theorem dX3_readHour_53 : decode cX3_readHour 53 = .ok (.return_, 1) := by decide +kernel
theorem dX3_readPost_0 : decode cX3_readPost 0 = .ok (.aload_n 0, 1) := by decide +kernel
theorem dX3_readPost_1 : decode cX3_readPost 1 = .ok (.iconst 0, 1) := by decide +kernel
theorem dX3_readPost_2 : decode cX3_readPost 2 = .ok (.aload_n 1, 1) := by decide +kernel
theorem dX3_readPost_3 : decode cX3_readPost 3 = .ok (.getfield 90, 3) := by decide +kernel
theorem dX3_readPost_6 : decode cX3_readPost 6 = .ok (.iconst 1, 1) := by decide +kernel
theorem dX3_readPost_7 : decode cX3_readPost 7 = .ok (.isub, 1) := by decide +kernel
theorem dX3_readPost_8 : decode cX3_readPost 8 = .ok (.invokevirtual 102, 3) := by decide +kernel
theorem dX3_readPost_11 : decode cX3_readPost 11 = .ok (.istore_n 2, 1) := by decide +kernel
theorem dX3_readPost_12 : decode cX3_readPost 12 = .ok (.aload_n 1, 1) := by decide +kernel
theorem dX3_readPost_13 : decode cX3_readPost 13 = .ok (.iload_n 2, 1) := by decide +kernel
theorem dX3_readPost_14 : decode cX3_readPost 14 = .ok (.invokevirtual 118, 3) := by decide +kernel
theorem dX3_readPost_17 : decode cX3_readPost 17 = .ok (.ifCond .eq 12, 3) := by decide +kernel
theorem dX3_readPost_20 : decode cX3_readPost 20 = .ok (.aload_n 0, 1) := by decide +kernel
theorem dX3_readPost_21 : decode cX3_readPost 21 = .ok (.iconst 4, 1) := by decide +kernel
theorem dX3_readPost_22 : decode cX3_readPost 22 = .ok (.aload_n 0, 1) := by decide +kernel
theorem dX3_readPost_23 : decode cX3_readPost 23 = .ok (.getfield 22, 3) := by decide +kernel
theorem dX3_readPost_26 : decode cX3_readPost 26 = .ok (.invokevirtual 63, 3) := by decide +kernel
theorem dX3_readPost_29 : decode cX3_readPost 29 = .ok (.aload_n 0, 1) := by decide +kernel
theorem dX3_readPost_30 : decode cX3_readPost 30 = .ok (.iconst 0, 1) := by decide +kernel
theorem dX3_readPost_31 : decode cX3_readPost 31 = .ok (.bipush 9, 2) := by decide +kernel
theorem dX3_readPost_33 : decode cX3_readPost 33 = .ok (.invokevirtual 102, 3) := by decide +kernel
theorem dX3_readPost_36 : decode cX3_readPost 36 = .ok (.istore_n 3, 1) := by decide +kernel
theorem dX3_readPost_37 : decode cX3_readPost 37 = .ok (.aload_n 0, 1) := by decide +kernel
theorem dX3_readPost_38 : decode cX3_readPost 38 = .ok (.iconst 1, 1) := by decide +kernel
theorem dX3_readPost_39 : decode cX3_readPost 39 = .ok (.bipush 99, 2) := by decide +kernel
theorem dX3_readPost_41 : decode cX3_readPost 41 = .ok (.invokevirtual 102, 3) := by decide +kernel
theorem dX3_readPost_44 : decode cX3_readPost 44 = .ok (.istore 4, 2) := by decide +kernel
theorem dX3_readPost_46 : decode cX3_readPost 46 = .ok (.aload_n 0, 1) := by decide +kernel
theorem dX3_readPost_47 : decode cX3_readPost 47 = .ok (.iconst 0, 1) := by decide +kernel
theorem dX3_readPost_48 : decode cX3_readPost 48 = .ok (.iconst 1, 1) := by decide +kernel
theorem dX3_readPost_49 : decode cX3_readPost 49 = .ok (.invokevirtual 102, 3) := by decide +kernel
theorem dX3_readPost_52 : decode cX3_readPost 52 = .ok (.istore 5, 2) := by decide +kernel
theorem dX3_readPost_54 : decode cX3_readPost 54 = .ok (.aload_n 0, 1) := by decide +kernel
theorem dX3_readPost_55 : decode cX3_readPost 55 = .ok (.invokevirtual 106, 3) := by decide +kernel
theorem dX3_readPost_58 : decode cX3_readPost 58 = .ok (.aload_n 1, 1) := by decide +kernel
theorem dX3_readPost_59 : decode cX3_readPost 59 = .ok (.getfield 122, 3) := by decide +kernel
theorem dX3_readPost_62 : decode cX3_readPost 62 = .ok (.aload_n 1, 1) := by decide +kernel
theorem dX3_readPost_63 : decode cX3_readPost 63 = .ok (.getfield 96, 3) := by decide +kernel
theorem dX3_readPost_66 : decode cX3_readPost 66 = .ok (.iload_n 2, 1) := by decide +kernel
theorem dX3_readPost_67 : decode cX3_readPost 67 = .ok (.invokestatic 38, 3) := by decide +kernel
theorem dX3_readPost_70 : decode cX3_readPost 70 = .ok (.aload_n 1, 1) := by decide +kernel
theorem dX3_readPost_71 : decode cX3_readPost 71 = .ok (.getfield 125, 3) := by decide +kernel
theorem dX3_readPost_74 : decode cX3_readPost 74 = .ok (.aload_n 1, 1) := by decide +kernel
theorem dX3_readPost_75 : decode cX3_readPost 75 = .ok (.getfield 96, 3) := by decide +kernel
theorem dX3_readPost_78 : decode cX3_readPost 78 = .ok (.iload_n 3, 1) := by decide +kernel
theorem dX3_readPost_79 : decode cX3_readPost 79 = .ok (.invokestatic 38, 3) := by decide +kernel
theorem dX3_readPost_82 : decode cX3_readPost 82 = .ok (.aload_n 1, 1) := by decide +kernel
theorem dX3_readPost_83 : decode cX3_readPost 83 = .ok (.getfield 128, 3) := by decide +kernel
theorem dX3_readPost_86 : decode cX3_readPost 86 = .ok (.aload_n 1, 1) := by decide +kernel
theorem dX3_readPost_87 : decode cX3_readPost 87 = .ok (.getfield 96, 3) := by decide +kernel
theorem dX3_readPost_90 : decode cX3_readPost 90 = .ok (.iload 4, 2) := by decide +kernel
theorem dX3_readPost_92 : decode cX3_readPost 92 = .ok (.invokestatic 38, 3) := by decide +kernel
theorem dX3_readPost_95 : decode cX3_readPost 95 = .ok (.aload_n 1, 1) := by decide +kernel
theorem dX3_readPost_96 : decode cX3_readPost 96 = .ok (.getfield 131, 3) := by decide +kernel
theorem dX3_readPost_99 : decode cX3_readPost 99 = .ok (.aload_n 1, 1) := by decide +kernel
theorem dX3_readPost_100 : decode cX3_readPost 100 = .ok (.getfield 96, 3) := by decide +kernel
theorem dX3_readPost_103 : decode cX3_readPost 103 = .ok (.iload 5, 2) := by decide +kernel
theorem dX3_readPost_105 : decode cX3_readPost 105 = .ok (.invokestatic 38, 3) := by decide +kernel
theorem dX3_readPost_108 : decode cX3_readPost 108 = .ok (.aload_n 1, 1) := by decide +kernel
theorem dX3_readPost_109 : decode cX3_readPost 109 = .ok (.dup, 1) := by decide +kernel
theorem dX3_readPost_110 : decode cX3_readPost 110 = .ok (.getfield 96, 3) := by decide +kernel
theorem dX3_readPost_113 : decode cX3_readPost 113 = .ok (.iconst 1, 1) := by decide +kernel
theorem dX3_readPost_114 : decode cX3_readPost 114 = .ok (.iadd, 1) := by decide +kernel
theorem dX3_readPost_115 : decode cX3_readPost 115 = .ok (.putfield 96, 3) := by decide +kernel
theorem dX3_readPost_118 : decode cX3_readPost 118 = .ok (.return_, 1) := by decide +kernel
theorem dX3_readPair_0 : decode cX3_readPair 0 = .ok (.aload_n 1, 1) := by decide +kernel
theorem dX3_readPair_1 : decode cX3_readPair 1 = .ok (.iconst 0, 1) := by decide +kernel
theorem dX3_readPair_2 : decode cX3_readPair 2 = .ok (.aload_n 0, 1) := by decide +kernel
theorem dX3_readPair_3 : decode cX3_readPair 3 = .ok (.iconst 0, 1) := by decide +kernel
theorem dX3_readPair_4 : decode cX3_readPair 4 = .ok (.iload_n 2, 1) := by decide +kernel
theorem dX3_readPair_5 : decode cX3_readPair 5 = .ok (.invokevirtual 102, 3) := by decide +kernel
theorem dX3_readPair_8 : decode cX3_readPair 8 = .ok (.invokestatic 38, 3) := by decide +kernel
theorem dX3_readPair_11 : decode cX3_readPair 11 = .ok (.aload_n 1, 1) := by decide +kernel
theorem dX3_readPair_12 : decode cX3_readPair 12 = .ok (.iconst 1, 1) := by decide +kernel
theorem dX3_readPair_13 : decode cX3_readPair 13 = .ok (.aload_n 0, 1) := by decide +kernel
theorem dX3_readPair_14 : decode cX3_readPair 14 = .ok (.iconst 0, 1) := by decide +kernel
theorem dX3_readPair_15 : decode cX3_readPair 15 = .ok (.iload_n 2, 1) := by decide +kernel
theorem dX3_readPair_16 : decode cX3_readPair 16 = .ok (.invokevirtual 102, 3) := by decide +kernel
theorem dX3_readPair_19 : decode cX3_readPair 19 = .ok (.invokestatic 38, 3) := by decide +kernel
theorem dX3_readPair_22 : decode cX3_readPair 22 = .ok (.aload_n 0, 1) := by decide +kernel
theorem dX3_readPair_23 : decode cX3_readPair 23 = .ok (.invokevirtual 106, 3) := by decide +kernel
theorem dX3_readPair_26 : decode cX3_readPair 26 = .ok (.return_, 1) := by decide +kernel
theorem dX3_readGoat_0 : decode cX3_readGoat 0 = .ok (.aload_n 0, 1) := by decide +kernel
theorem dX3_readGoat_1 : decode cX3_readGoat 1 = .ok (.iconst 0, 1) := by decide +kernel
theorem dX3_readGoat_2 : decode cX3_readGoat 2 = .ok (.aload_n 1, 1) := by decide +kernel
theorem dX3_readGoat_3 : decode cX3_readGoat 3 = .ok (.getfield 90, 3) := by decide +kernel
theorem dX3_readGoat_6 : decode cX3_readGoat 6 = .ok (.iconst 1, 1) := by decide +kernel
theorem dX3_readGoat_7 : decode cX3_readGoat 7 = .ok (.isub, 1) := by decide +kernel
theorem dX3_readGoat_8 : decode cX3_readGoat 8 = .ok (.invokevirtual 102, 3) := by decide +kernel
theorem dX3_readGoat_11 : decode cX3_readGoat 11 = .ok (.istore_n 2, 1) := by decide +kernel
theorem dX3_readGoat_12 : decode cX3_readGoat 12 = .ok (.aload_n 0, 1) := by decide +kernel
theorem dX3_readGoat_13 : decode cX3_readGoat 13 = .ok (.iconst 1, 1) := by decide +kernel
theorem dX3_readGoat_14 : decode cX3_readGoat 14 = .ok (.bipush 20, 2) := by decide +kernel
theorem dX3_readGoat_16 : decode cX3_readGoat 16 = .ok (.invokevirtual 102, 3) := by decide +kernel
theorem dX3_readGoat_19 : decode cX3_readGoat 19 = .ok (.istore_n 3, 1) := by decide +kernel
theorem dX3_readGoat_20 : decode cX3_readGoat 20 = .ok (.aload_n 0, 1) := by decide +kernel
theorem dX3_readGoat_21 : decode cX3_readGoat 21 = .ok (.invokevirtual 106, 3) := by decide +kernel
theorem dX3_readGoat_24 : decode cX3_readGoat 24 = .ok (.aload_n 1, 1) := by decide +kernel
theorem dX3_readGoat_25 : decode cX3_readGoat 25 = .ok (.getfield 134, 3) := by decide +kernel
theorem dX3_readGoat_28 : decode cX3_readGoat 28 = .ok (.aload_n 1, 1) := by decide +kernel
theorem dX3_readGoat_29 : decode cX3_readGoat 29 = .ok (.getfield 99, 3) := by decide +kernel
theorem dX3_readGoat_32 : decode cX3_readGoat 32 = .ok (.iload_n 2, 1) := by decide +kernel
theorem dX3_readGoat_33 : decode cX3_readGoat 33 = .ok (.invokestatic 38, 3) := by decide +kernel
theorem dX3_readGoat_36 : decode cX3_readGoat 36 = .ok (.aload_n 1, 1) := by decide +kernel
theorem dX3_readGoat_37 : decode cX3_readGoat 37 = .ok (.getfield 137, 3) := by decide +kernel
theorem dX3_readGoat_40 : decode cX3_readGoat 40 = .ok (.aload_n 1, 1) := by decide +kernel
theorem dX3_readGoat_41 : decode cX3_readGoat 41 = .ok (.getfield 99, 3) := by decide +kernel
theorem dX3_readGoat_44 : decode cX3_readGoat 44 = .ok (.iload_n 3, 1) := by decide +kernel
theorem dX3_readGoat_45 : decode cX3_readGoat 45 = .ok (.invokestatic 38, 3) := by decide +kernel
theorem dX3_readGoat_48 : decode cX3_readGoat 48 = .ok (.aload_n 1, 1) := by decide +kernel
theorem dX3_readGoat_49 : decode cX3_readGoat 49 = .ok (.dup, 1) := by decide +kernel
theorem dX3_readGoat_50 : decode cX3_readGoat 50 = .ok (.getfield 99, 3) := by decide +kernel
theorem dX3_readGoat_53 : decode cX3_readGoat 53 = .ok (.iconst 1, 1) := by decide +kernel
theorem dX3_readGoat_54 : decode cX3_readGoat 54 = .ok (.iadd, 1) := by decide +kernel
theorem dX3_readGoat_55 : decode cX3_readGoat 55 = .ok (.putfield 99, 3) := by decide +kernel
theorem dX3_readGoat_58 : decode cX3_readGoat 58 = .ok (.return_, 1) := by decide +kernel
theorem dX3_readNumber_0 : decode cX3_readNumber 0 = .ok (.aload_n 0, 1) := by decide +kernel
theorem dX3_readNumber_1 : decode cX3_readNumber 1 = .ok (.getfield 25, 3) := by decide +kernel
theorem dX3_readNumber_4 : decode cX3_readNumber 4 = .ok (.ifCond .eq 5, 3) := by decide +kernel
theorem dX3_readNumber_7 : decode cX3_readNumber 7 = .ok (.iload_n 1, 1) := by decide +kernel
theorem dX3_readNumber_8 : decode cX3_readNumber 8 = .ok (.ireturn, 1) := by decide +kernel
theorem dX3_readNumber_9 : decode cX3_readNumber 9 = .ok (.aload_n 0, 1) := by decide +kernel
theorem dX3_readNumber_10 : decode cX3_readNumber 10 = .ok (.invokevirtual 47, 3) := by decide +kernel
theorem dX3_readNumber_13 : decode cX3_readNumber 13 = .ok (.istore_n 3, 1) := by decide +kernel
theorem dX3_readNumber_14 : decode cX3_readNumber 14 = .ok (.aload_n 0, 1) := by decide +kernel
theorem dX3_readNumber_15 : decode cX3_readNumber 15 = .ok (.aload_n 0, 1) := by decide +kernel
theorem dX3_readNumber_16 : decode cX3_readNumber 16 = .ok (.getfield 19, 3) := by decide +kernel
theorem dX3_readNumber_19 : decode cX3_readNumber 19 = .ok (.putfield 22, 3) := by decide +kernel
theorem dX3_readNumber_22 : decode cX3_readNumber 22 = .ok (.iconst 0, 1) := by decide +kernel
theorem dX3_readNumber_23 : decode cX3_readNumber 23 = .ok (.istore 4, 2) := by decide +kernel
theorem dX3_readNumber_25 : decode cX3_readNumber 25 = .ok (.iconst 0, 1) := by decide +kernel
theorem dX3_readNumber_26 : decode cX3_readNumber 26 = .ok (.istore 5, 2) := by decide +kernel
theorem dX3_readNumber_28 : decode cX3_readNumber 28 = .ok (.aload_n 0, 1) := by decide +kernel
theorem dX3_readNumber_29 : decode cX3_readNumber 29 = .ok (.getfield 19, 3) := by decide +kernel
theorem dX3_readNumber_32 : decode cX3_readNumber 32 = .ok (.aload_n 0, 1) := by decide +kernel
theorem dX3_readNumber_33 : decode cX3_readNumber 33 = .ok (.getfield 15, 3) := by decide +kernel
theorem dX3_readNumber_36 : decode cX3_readNumber 36 = .ok (.if_icmp .ge 57, 3) := by decide +kernel
theorem dX3_readNumber_39 : decode cX3_readNumber 39 = .ok (.iload_n 3, 1) := by decide +kernel
theorem dX3_readNumber_40 : decode cX3_readNumber 40 = .ok (.bipush 48, 2) := by decide +kernel
theorem dX3_readNumber_42 : decode cX3_readNumber 42 = .ok (.bipush 57, 2) := by decide +kernel
theorem dX3_readNumber_44 : decode cX3_readNumber 44 = .ok (.invokestatic 140, 3) := by decide +kernel
theorem dX3_readNumber_47 : decode cX3_readNumber 47 = .ok (.ifCond .eq 46, 3) := by decide +kernel
theorem dX3_readNumber_50 : decode cX3_readNumber 50 = .ok (.iload 4, 2) := by decide +kernel
theorem dX3_readNumber_52 : decode cX3_readNumber 52 = .ok (.iconst 3, 1) := by decide +kernel
theorem dX3_readNumber_53 : decode cX3_readNumber 53 = .ok (.if_icmp .ge 15, 3) := by decide +kernel
theorem dX3_readNumber_56 : decode cX3_readNumber 56 = .ok (.bipush 10, 2) := by decide +kernel
theorem dX3_readNumber_58 : decode cX3_readNumber 58 = .ok (.iload 5, 2) := by decide +kernel
theorem dX3_readNumber_60 : decode cX3_readNumber 60 = .ok (.imul, 1) := by decide +kernel
theorem dX3_readNumber_61 : decode cX3_readNumber 61 = .ok (.iload_n 3, 1) := by decide +kernel
theorem dX3_readNumber_62 : decode cX3_readNumber 62 = .ok (.iadd, 1) := by decide +kernel
theorem dX3_readNumber_63 : decode cX3_readNumber 63 = .ok (.bipush 48, 2) := by decide +kernel
theorem dX3_readNumber_65 : decode cX3_readNumber 65 = .ok (.isub, 1) := by decide +kernel
theorem dX3_readNumber_66 : decode cX3_readNumber 66 = .ok (.istore 5, 2) := by decide +kernel
theorem dX3_readNumber_68 : decode cX3_readNumber 68 = .ok (.iinc 4 1, 3) := by decide +kernel
theorem dX3_readNumber_71 : decode cX3_readNumber 71 = .ok (.aload_n 0, 1) := by decide +kernel
theorem dX3_readNumber_72 : decode cX3_readNumber 72 = .ok (.dup, 1) := by decide +kernel
theorem dX3_readNumber_73 : decode cX3_readNumber 73 = .ok (.getfield 19, 3) := by decide +kernel
theorem dX3_readNumber_76 : decode cX3_readNumber 76 = .ok (.iconst 1, 1) := by decide +kernel
theorem dX3_readNumber_77 : decode cX3_readNumber 77 = .ok (.iadd, 1) := by decide +kernel
theorem dX3_readNumber_78 : decode cX3_readNumber 78 = .ok (.putfield 19, 3) := by decide +kernel
theorem dX3_readNumber_81 : decode cX3_readNumber 81 = .ok (.aload_n 0, 1) := by decide +kernel
theorem dX3_readNumber_82 : decode cX3_readNumber 82 = .ok (.aload_n 0, 1) := by decide +kernel
theorem dX3_readNumber_83 : decode cX3_readNumber 83 = .ok (.getfield 19, 3) := by decide +kernel
theorem dX3_readNumber_86 : decode cX3_readNumber 86 = .ok (.invokevirtual 55, 3) := by decide +kernel
theorem dX3_readNumber_89 : decode cX3_readNumber 89 = .ok (.istore_n 3, 1) := by decide +kernel
theorem dX3_readNumber_90 : decode cX3_readNumber 90 = .ok (.goto (-62), 3) := by decide +kernel
theorem dX3_readNumber_93 : decode cX3_readNumber 93 = .ok (.iload 4, 2) := by decide +kernel
theorem dX3_readNumber_95 : decode cX3_readNumber 95 = .ok (.ifCond .ne 15, 3) := by decide +kernel
theorem dX3_readNumber_98 : decode cX3_readNumber 98 = .ok (.aload_n 0, 1) := by decide +kernel
theorem dX3_readNumber_99 : decode cX3_readNumber 99 = .ok (.iconst 1, 1) := by decide +kernel
theorem dX3_readNumber_100 : decode cX3_readNumber 100 = .ok (.aload_n 0, 1) := by decide +kernel
theorem dX3_readNumber_101 : decode cX3_readNumber 101 = .ok (.getfield 22, 3) := by decide +kernel
theorem dX3_readNumber_104 : decode cX3_readNumber 104 = .ok (.invokevirtual 63, 3) := by decide +kernel
theorem dX3_readNumber_107 : decode cX3_readNumber 107 = .ok (.goto 28, 3) := by decide +kernel
theorem dX3_readNumber_110 : decode cX3_readNumber 110 = .ok (.iload 4, 2) := by decide +kernel
theorem dX3_readNumber_112 : decode cX3_readNumber 112 = .ok (.iconst 3, 1) := by decide +kernel
theorem dX3_readNumber_113 : decode cX3_readNumber 113 = .ok (.if_icmp .gt 13, 3) := by decide +kernel
theorem dX3_readNumber_116 : decode cX3_readNumber 116 = .ok (.iload 5, 2) := by decide +kernel
theorem dX3_readNumber_118 : decode cX3_readNumber 118 = .ok (.iload_n 1, 1) := by decide +kernel
theorem dX3_readNumber_119 : decode cX3_readNumber 119 = .ok (.iload_n 2, 1) := by decide +kernel
theorem dX3_readNumber_120 : decode cX3_readNumber 120 = .ok (.invokestatic 140, 3) := by decide +kernel
theorem dX3_readNumber_123 : decode cX3_readNumber 123 = .ok (.ifCond .ne 12, 3) := by decide +kernel
theorem dX3_readNumber_126 : decode cX3_readNumber 126 = .ok (.aload_n 0, 1) := by decide +kernel
theorem dX3_readNumber_127 : decode cX3_readNumber 127 = .ok (.iconst 2, 1) := by decide +kernel
theorem dX3_readNumber_128 : decode cX3_readNumber 128 = .ok (.aload_n 0, 1) := by decide +kernel
theorem dX3_readNumber_129 : decode cX3_readNumber 129 = .ok (.getfield 22, 3) := by decide +kernel
theorem dX3_readNumber_132 : decode cX3_readNumber 132 = .ok (.invokevirtual 63, 3) := by decide +kernel
theorem dX3_readNumber_135 : decode cX3_readNumber 135 = .ok (.iload 5, 2) := by decide +kernel
theorem dX3_readNumber_137 : decode cX3_readNumber 137 = .ok (.ireturn, 1) := by decide +kernel
theorem dX3_readEnd_0 : decode cX3_readEnd 0 = .ok (.aload_n 0, 1) := by decide +kernel
theorem dX3_readEnd_1 : decode cX3_readEnd 1 = .ok (.getfield 25, 3) := by decide +kernel
theorem dX3_readEnd_4 : decode cX3_readEnd 4 = .ok (.ifCond .eq 4, 3) := by decide +kernel
theorem dX3_readEnd_7 : decode cX3_readEnd 7 = .ok (.return_, 1) := by decide +kernel
theorem dX3_readEnd_8 : decode cX3_readEnd 8 = .ok (.aload_n 0, 1) := by decide +kernel
theorem dX3_readEnd_9 : decode cX3_readEnd 9 = .ok (.invokevirtual 47, 3) := by decide +kernel
theorem dX3_readEnd_12 : decode cX3_readEnd 12 = .ok (.bipush 59, 2) := by decide +kernel
theorem dX3_readEnd_14 : decode cX3_readEnd 14 = .ok (.if_icmp .ne 16, 3) := by decide +kernel
theorem dX3_readEnd_17 : decode cX3_readEnd 17 = .ok (.aload_n 0, 1) := by decide +kernel
theorem dX3_readEnd_18 : decode cX3_readEnd 18 = .ok (.dup, 1) := by decide +kernel
theorem dX3_readEnd_19 : decode cX3_readEnd 19 = .ok (.getfield 19, 3) := by decide +kernel
theorem dX3_readEnd_22 : decode cX3_readEnd 22 = .ok (.iconst 1, 1) := by decide +kernel
theorem dX3_readEnd_23 : decode cX3_readEnd 23 = .ok (.iadd, 1) := by decide +kernel
theorem dX3_readEnd_24 : decode cX3_readEnd 24 = .ok (.putfield 19, 3) := by decide +kernel
theorem dX3_readEnd_27 : decode cX3_readEnd 27 = .ok (.goto 12, 3) := by decide +kernel
theorem dX3_readEnd_30 : decode cX3_readEnd 30 = .ok (.aload_n 0, 1) := by decide +kernel
theorem dX3_readEnd_31 : decode cX3_readEnd 31 = .ok (.iconst 1, 1) := by decide +kernel
theorem dX3_readEnd_32 : decode cX3_readEnd 32 = .ok (.aload_n 0, 1) := by decide +kernel
theorem dX3_readEnd_33 : decode cX3_readEnd 33 = .ok (.getfield 19, 3) := by decide +kernel
theorem dX3_readEnd_36 : decode cX3_readEnd 36 = .ok (.invokevirtual 63, 3) := by decide +kernel
theorem dX3_readEnd_39 : decode cX3_readEnd 39 = .ok (.return_, 1) := by decide +kernel
theorem dX4_init_0 : decode cX4_init 0 = .ok (.aload_n 0, 1) := by decide +kernel
theorem dX4_init_1 : decode cX4_init 1 = .ok (.invokespecial 3, 3) := by decide +kernel
theorem dX4_init_4 : decode cX4_init 4 = .ok (.aload_n 0, 1) := by decide +kernel
theorem dX4_init_5 : decode cX4_init 5 = .ok (.iconst 0, 1) := by decide +kernel
theorem dX4_init_6 : decode cX4_init 6 = .ok (.putfield 9, 3) := by decide +kernel
theorem dX4_init_9 : decode cX4_init 9 = .ok (.aload_n 0, 1) := by decide +kernel
theorem dX4_init_10 : decode cX4_init 10 = .ok (.iconst 0, 1) := by decide +kernel
theorem dX4_init_11 : decode cX4_init 11 = .ok (.putfield 15, 3) := by decide +kernel
theorem dX4_init_14 : decode cX4_init 14 = .ok (.aload_n 0, 1) := by decide +kernel
theorem dX4_init_15 : decode cX4_init 15 = .ok (.iconst 0, 1) := by decide +kernel
theorem dX4_init_16 : decode cX4_init 16 = .ok (.putfield 18, 3) := by decide +kernel
theorem dX4_init_19 : decode cX4_init 19 = .ok (.aload_n 0, 1) := by decide +kernel
theorem dX4_init_20 : decode cX4_init 20 = .ok (.iconst 0, 1) := by decide +kernel
theorem dX4_init_21 : decode cX4_init 21 = .ok (.putfield 22, 3) := by decide +kernel
theorem dX4_init_24 : decode cX4_init 24 = .ok (.aload_n 0, 1) := by decide +kernel
theorem dX4_init_25 : decode cX4_init 25 = .ok (.iconst 0, 1) := by decide +kernel
theorem dX4_init_26 : decode cX4_init 26 = .ok (.putfield 25, 3) := by decide +kernel
theorem dX4_init_29 : decode cX4_init 29 = .ok (.aload_n 0, 1) := by decide +kernel
theorem dX4_init_30 : decode cX4_init 30 = .ok (.bipush 6, 2) := by decide +kernel
theorem dX4_init_32 : decode cX4_init 32 = .ok (.newarray .int, 2) := by decide +kernel
theorem dX4_init_34 : decode cX4_init 34 = .ok (.putfield 28, 3) := by decide +kernel
theorem dX4_init_37 : decode cX4_init 37 = .ok (.aload_n 0, 1) := by decide +kernel
theorem dX4_init_38 : decode cX4_init 38 = .ok (.bipush 6, 2) := by decide +kernel
theorem dX4_init_40 : decode cX4_init 40 = .ok (.newarray .int, 2) := by decide +kernel
theorem dX4_init_42 : decode cX4_init 42 = .ok (.putfield 32, 3) := by decide +kernel
theorem dX4_init_45 : decode cX4_init 45 = .ok (.aload_n 0, 1) := by decide +kernel
theorem dX4_init_46 : decode cX4_init 46 = .ok (.bipush 6, 2) := by decide +kernel
theorem dX4_init_48 : decode cX4_init 48 = .ok (.newarray .int, 2) := by decide +kernel
theorem dX4_init_50 : decode cX4_init 50 = .ok (.putfield 35, 3) := by decide +kernel
theorem dX4_init_53 : decode cX4_init 53 = .ok (.aload_n 0, 1) := by decide +kernel
theorem dX4_init_54 : decode cX4_init 54 = .ok (.iconst 2, 1) := by decide +kernel
theorem dX4_init_55 : decode cX4_init 55 = .ok (.newarray .int, 2) := by decide +kernel
theorem dX4_init_57 : decode cX4_init 57 = .ok (.putfield 38, 3) := by decide +kernel
theorem dX4_init_60 : decode cX4_init 60 = .ok (.aload_n 0, 1) := by decide +kernel
theorem dX4_init_61 : decode cX4_init 61 = .ok (.iconst 2, 1) := by decide +kernel
theorem dX4_init_62 : decode cX4_init 62 = .ok (.newarray .int, 2) := by decide +kernel
theorem dX4_init_64 : decode cX4_init 64 = .ok (.putfield 41, 3) := by decide +kernel
theorem dX4_init_67 : decode cX4_init 67 = .ok (.return_, 1) := by decide +kernel
theorem dX4_begin_0 : decode cX4_begin 0 = .ok (.aload_n 0, 1) := by decide +kernel
theorem dX4_begin_1 : decode cX4_begin 1 = .ok (.iconst 0, 1) := by decide +kernel
theorem dX4_begin_2 : decode cX4_begin 2 = .ok (.putfield 9, 3) := by decide +kernel
theorem dX4_begin_5 : decode cX4_begin 5 = .ok (.aload_n 0, 1) := by decide +kernel
theorem dX4_begin_6 : decode cX4_begin 6 = .ok (.iconst 0, 1) := by decide +kernel
theorem dX4_begin_7 : decode cX4_begin 7 = .ok (.putfield 15, 3) := by decide +kernel
theorem dX4_begin_10 : decode cX4_begin 10 = .ok (.aload_n 0, 1) := by decide +kernel
theorem dX4_begin_11 : decode cX4_begin 11 = .ok (.iconst 0, 1) := by decide +kernel
theorem dX4_begin_12 : decode cX4_begin 12 = .ok (.putfield 18, 3) := by decide +kernel
theorem dX4_begin_15 : decode cX4_begin 15 = .ok (.aload_n 0, 1) := by decide +kernel
theorem dX4_begin_16 : decode cX4_begin 16 = .ok (.iconst 0, 1) := by decide +kernel
theorem dX4_begin_17 : decode cX4_begin 17 = .ok (.putfield 22, 3) := by decide +kernel
theorem dX4_begin_20 : decode cX4_begin 20 = .ok (.aload_n 0, 1) := by decide +kernel
theorem dX4_begin_21 : decode cX4_begin 21 = .ok (.iconst 0, 1) := by decide +kernel
theorem dX4_begin_22 : decode cX4_begin 22 = .ok (.putfield 25, 3) := by decide +kernel
theorem dX4_begin_25 : decode cX4_begin 25 = .ok (.iconst 0, 1) := by decide +kernel
theorem dX4_begin_26 : decode cX4_begin 26 = .ok (.istore_n 2, 1) := by decide +kernel
theorem dX4_begin_27 : decode cX4_begin 27 = .ok (.iload_n 2, 1) := by decide +kernel
theorem dX4_begin_28 : decode cX4_begin 28 = .ok (.bipush 6, 2) := by decide +kernel
theorem dX4_begin_30 : decode cX4_begin 30 = .ok (.if_icmp .ge 40, 3) := by decide +kernel
theorem dX4_begin_33 : decode cX4_begin 33 = .ok (.aload_n 0, 1) := by decide +kernel
theorem dX4_begin_34 : decode cX4_begin 34 = .ok (.getfield 28, 3) := by decide +kernel
theorem dX4_begin_37 : decode cX4_begin 37 = .ok (.iload_n 2, 1) := by decide +kernel
theorem dX4_begin_38 : decode cX4_begin 38 = .ok (.aload_n 1, 1) := by decide +kernel
theorem dX4_begin_39 : decode cX4_begin 39 = .ok (.getfield 44, 3) := by decide +kernel
theorem dX4_begin_42 : decode cX4_begin 42 = .ok (.iload_n 2, 1) := by decide +kernel
theorem dX4_begin_43 : decode cX4_begin 43 = .ok (.iaload, 1) := by decide +kernel
theorem dX4_begin_44 : decode cX4_begin 44 = .ok (.iastore, 1) := by decide +kernel
theorem dX4_begin_45 : decode cX4_begin 45 = .ok (.aload_n 0, 1) := by decide +kernel
theorem dX4_begin_46 : decode cX4_begin 46 = .ok (.getfield 32, 3) := by decide +kernel
theorem dX4_begin_49 : decode cX4_begin 49 = .ok (.iload_n 2, 1) := by decide +kernel
theorem dX4_begin_50 : decode cX4_begin 50 = .ok (.aload_n 1, 1) := by decide +kernel
theorem dX4_begin_51 : decode cX4_begin 51 = .ok (.getfield 49, 3) := by decide +kernel
theorem dX4_begin_54 : decode cX4_begin 54 = .ok (.iload_n 2, 1) := by decide +kernel
theorem dX4_begin_55 : decode cX4_begin 55 = .ok (.iaload, 1) := by decide +kernel
theorem dX4_begin_56 : decode cX4_begin 56 = .ok (.iastore, 1) := by decide +kernel
theorem dX4_begin_57 : decode cX4_begin 57 = .ok (.aload_n 0, 1) := by decide +kernel
theorem dX4_begin_58 : decode cX4_begin 58 = .ok (.getfield 35, 3) := by decide +kernel
theorem dX4_begin_61 : decode cX4_begin 61 = .ok (.iload_n 2, 1) := by decide +kernel
theorem dX4_begin_62 : decode cX4_begin 62 = .ok (.iconst 0, 1) := by decide +kernel
theorem dX4_begin_63 : decode cX4_begin 63 = .ok (.iastore, 1) := by decide +kernel
theorem dX4_begin_64 : decode cX4_begin 64 = .ok (.iinc 2 1, 3) := by decide +kernel
theorem dX4_begin_67 : decode cX4_begin 67 = .ok (.goto (-40), 3) := by decide +kernel
theorem dX4_begin_70 : decode cX4_begin 70 = .ok (.iconst 0, 1) := by decide +kernel
theorem dX4_begin_71 : decode cX4_begin 71 = .ok (.istore_n 2, 1) := by decide +kernel
theorem dX4_begin_72 : decode cX4_begin 72 = .ok (.iload_n 2, 1) := by decide +kernel
theorem dX4_begin_73 : decode cX4_begin 73 = .ok (.iconst 2, 1) := by decide +kernel
theorem dX4_begin_74 : decode cX4_begin 74 = .ok (.if_icmp .ge 23, 3) := by decide +kernel
theorem dX4_begin_77 : decode cX4_begin 77 = .ok (.aload_n 0, 1) := by decide +kernel
theorem dX4_begin_78 : decode cX4_begin 78 = .ok (.getfield 38, 3) := by decide +kernel
theorem dX4_begin_81 : decode cX4_begin 81 = .ok (.iload_n 2, 1) := by decide +kernel
theorem dX4_begin_82 : decode cX4_begin 82 = .ok (.iconst 0, 1) := by decide +kernel
theorem dX4_begin_83 : decode cX4_begin 83 = .ok (.iastore, 1) := by decide +kernel
theorem dX4_begin_84 : decode cX4_begin 84 = .ok (.aload_n 0, 1) := by decide +kernel
theorem dX4_begin_85 : decode cX4_begin 85 = .ok (.getfield 41, 3) := by decide +kernel
theorem dX4_begin_88 : decode cX4_begin 88 = .ok (.iload_n 2, 1) := by decide +kernel
theorem dX4_begin_89 : decode cX4_begin 89 = .ok (.iconst 0, 1) := by decide +kernel
theorem dX4_begin_90 : decode cX4_begin 90 = .ok (.iastore, 1) := by decide +kernel
theorem dX4_begin_91 : decode cX4_begin 91 = .ok (.iinc 2 1, 3) := by decide +kernel
theorem dX4_begin_94 : decode cX4_begin 94 = .ok (.goto (-22), 3) := by decide +kernel
theorem dX4_begin_97 : decode cX4_begin 97 = .ok (.return_, 1) := by decide +kernel
theorem dX4_become_0 : decode cX4_become 0 = .ok (.aload_n 0, 1) := by decide +kernel
theorem dX4_become_1 : decode cX4_become 1 = .ok (.aload_n 1, 1) := by decide +kernel
theorem dX4_become_2 : decode cX4_become 2 = .ok (.getfield 9, 3) := by decide +kernel
theorem dX4_become_5 : decode cX4_become 5 = .ok (.putfield 9, 3) := by decide +kernel
theorem dX4_become_8 : decode cX4_become 8 = .ok (.aload_n 0, 1) := by decide +kernel
theorem dX4_become_9 : decode cX4_become 9 = .ok (.aload_n 1, 1) := by decide +kernel
theorem dX4_become_10 : decode cX4_become 10 = .ok (.getfield 15, 3) := by decide +kernel
theorem dX4_become_13 : decode cX4_become 13 = .ok (.putfield 15, 3) := by decide +kernel
theorem dX4_become_16 : decode cX4_become 16 = .ok (.aload_n 0, 1) := by decide +kernel
theorem dX4_become_17 : decode cX4_become 17 = .ok (.aload_n 1, 1) := by decide +kernel
theorem dX4_become_18 : decode cX4_become 18 = .ok (.getfield 18, 3) := by decide +kernel
theorem dX4_become_21 : decode cX4_become 21 = .ok (.putfield 18, 3) := by decide +kernel
theorem dX4_become_24 : decode cX4_become 24 = .ok (.aload_n 0, 1) := by decide +kernel
theorem dX4_become_25 : decode cX4_become 25 = .ok (.aload_n 1, 1) := by decide +kernel
theorem dX4_become_26 : decode cX4_become 26 = .ok (.getfield 22, 3) := by decide +kernel
theorem dX4_become_29 : decode cX4_become 29 = .ok (.putfield 22, 3) := by decide +kernel
theorem dX4_become_32 : decode cX4_become 32 = .ok (.aload_n 0, 1) := by decide +kernel
theorem dX4_become_33 : decode cX4_become 33 = .ok (.aload_n 1, 1) := by decide +kernel
theorem dX4_become_34 : decode cX4_become 34 = .ok (.getfield 25, 3) := by decide +kernel
theorem dX4_become_37 : decode cX4_become 37 = .ok (.putfield 25, 3) := by decide +kernel
theorem dX4_become_40 : decode cX4_become 40 = .ok (.aload_n 1, 1) := by decide +kernel
theorem dX4_become_41 : decode cX4_become 41 = .ok (.getfield 28, 3) := by decide +kernel
theorem dX4_become_44 : decode cX4_become 44 = .ok (.iconst 0, 1) := by decide +kernel
theorem dX4_become_45 : decode cX4_become 45 = .ok (.aload_n 0, 1) := by decide +kernel
theorem dX4_become_46 : decode cX4_become 46 = .ok (.getfield 28, 3) := by decide +kernel
theorem dX4_become_49 : decode cX4_become 49 = .ok (.iconst 0, 1) := by decide +kernel
theorem dX4_become_50 : decode cX4_become 50 = .ok (.bipush 6, 2) := by decide +kernel
theorem dX4_become_52 : decode cX4_become 52 = .ok (.invokestatic 52, 3) := by decide +kernel
theorem dX4_become_55 : decode cX4_become 55 = .ok (.aload_n 1, 1) := by decide +kernel
theorem dX4_become_56 : decode cX4_become 56 = .ok (.getfield 32, 3) := by decide +kernel
theorem dX4_become_59 : decode cX4_become 59 = .ok (.iconst 0, 1) := by decide +kernel
theorem dX4_become_60 : decode cX4_become 60 = .ok (.aload_n 0, 1) := by decide +kernel
theorem dX4_become_61 : decode cX4_become 61 = .ok (.getfield 32, 3) := by decide +kernel
theorem dX4_become_64 : decode cX4_become 64 = .ok (.iconst 0, 1) := by decide +kernel
theorem dX4_become_65 : decode cX4_become 65 = .ok (.bipush 6, 2) := by decide +kernel
theorem dX4_become_67 : decode cX4_become 67 = .ok (.invokestatic 52, 3) := by decide +kernel
theorem dX4_become_70 : decode cX4_become 70 = .ok (.aload_n 1, 1) := by decide +kernel
theorem dX4_become_71 : decode cX4_become 71 = .ok (.getfield 35, 3) := by decide +kernel
theorem dX4_become_74 : decode cX4_become 74 = .ok (.iconst 0, 1) := by decide +kernel
theorem dX4_become_75 : decode cX4_become 75 = .ok (.aload_n 0, 1) := by decide +kernel
theorem dX4_become_76 : decode cX4_become 76 = .ok (.getfield 35, 3) := by decide +kernel
theorem dX4_become_79 : decode cX4_become 79 = .ok (.iconst 0, 1) := by decide +kernel
theorem dX4_become_80 : decode cX4_become 80 = .ok (.bipush 6, 2) := by decide +kernel
theorem dX4_become_82 : decode cX4_become 82 = .ok (.invokestatic 52, 3) := by decide +kernel
theorem dX4_become_85 : decode cX4_become 85 = .ok (.aload_n 1, 1) := by decide +kernel
theorem dX4_become_86 : decode cX4_become 86 = .ok (.getfield 38, 3) := by decide +kernel
theorem dX4_become_89 : decode cX4_become 89 = .ok (.iconst 0, 1) := by decide +kernel
theorem dX4_become_90 : decode cX4_become 90 = .ok (.aload_n 0, 1) := by decide +kernel
theorem dX4_become_91 : decode cX4_become 91 = .ok (.getfield 38, 3) := by decide +kernel
theorem dX4_become_94 : decode cX4_become 94 = .ok (.iconst 0, 1) := by decide +kernel
theorem dX4_become_95 : decode cX4_become 95 = .ok (.iconst 2, 1) := by decide +kernel
theorem dX4_become_96 : decode cX4_become 96 = .ok (.invokestatic 52, 3) := by decide +kernel
theorem dX4_become_99 : decode cX4_become 99 = .ok (.aload_n 1, 1) := by decide +kernel
theorem dX4_become_100 : decode cX4_become 100 = .ok (.getfield 41, 3) := by decide +kernel
theorem dX4_become_103 : decode cX4_become 103 = .ok (.iconst 0, 1) := by decide +kernel
theorem dX4_become_104 : decode cX4_become 104 = .ok (.aload_n 0, 1) := by decide +kernel
theorem dX4_become_105 : decode cX4_become 105 = .ok (.getfield 41, 3) := by decide +kernel
theorem dX4_become_108 : decode cX4_become 108 = .ok (.iconst 0, 1) := by decide +kernel
theorem dX4_become_109 : decode cX4_become 109 = .ok (.iconst 2, 1) := by decide +kernel
theorem dX4_become_110 : decode cX4_become 110 = .ok (.invokestatic 52, 3) := by decide +kernel
theorem dX4_become_113 : decode cX4_become 113 = .ok (.return_, 1) := by decide +kernel
theorem dX4_hanging_0 : decode cX4_hanging 0 = .ok (.iconst 0, 1) := by decide +kernel
theorem dX4_hanging_1 : decode cX4_hanging 1 = .ok (.istore_n 2, 1) := by decide +kernel
theorem dX4_hanging_2 : decode cX4_hanging 2 = .ok (.iconst 0, 1) := by decide +kernel
theorem dX4_hanging_3 : decode cX4_hanging 3 = .ok (.istore_n 3, 1) := by decide +kernel
theorem dX4_hanging_4 : decode cX4_hanging 4 = .ok (.iload_n 3, 1) := by decide +kernel
theorem dX4_hanging_5 : decode cX4_hanging 5 = .ok (.iconst 2, 1) := by decide +kernel
theorem dX4_hanging_6 : decode cX4_hanging 6 = .ok (.if_icmp .ge 29, 3) := by decide +kernel
theorem dX4_hanging_9 : decode cX4_hanging 9 = .ok (.aload_n 1, 1) := by decide +kernel
theorem dX4_hanging_10 : decode cX4_hanging 10 = .ok (.iload_n 3, 1) := by decide +kernel
theorem dX4_hanging_11 : decode cX4_hanging 11 = .ok (.aload_n 0, 1) := by decide +kernel
theorem dX4_hanging_12 : decode cX4_hanging 12 = .ok (.getfield 9, 3) := by decide +kernel
theorem dX4_hanging_15 : decode cX4_hanging 15 = .ok (.invokevirtual 58, 3) := by decide +kernel
theorem dX4_hanging_18 : decode cX4_hanging 18 = .ok (.ifCond .eq 11, 3) := by decide +kernel
theorem dX4_hanging_21 : decode cX4_hanging 21 = .ok (.iload_n 2, 1) := by decide +kernel
theorem dX4_hanging_22 : decode cX4_hanging 22 = .ok (.aload_n 1, 1) := by decide +kernel
theorem dX4_hanging_23 : decode cX4_hanging 23 = .ok (.iload_n 3, 1) := by decide +kernel
theorem dX4_hanging_24 : decode cX4_hanging 24 = .ok (.invokevirtual 62, 3) := by decide +kernel
theorem dX4_hanging_27 : decode cX4_hanging 27 = .ok (.ior, 1) := by decide +kernel
theorem dX4_hanging_28 : decode cX4_hanging 28 = .ok (.istore_n 2, 1) := by decide +kernel
theorem dX4_hanging_29 : decode cX4_hanging 29 = .ok (.iinc 3 1, 3) := by decide +kernel
theorem dX4_hanging_32 : decode cX4_hanging 32 = .ok (.goto (-28), 3) := by decide +kernel
theorem dX4_hanging_35 : decode cX4_hanging 35 = .ok (.iload_n 2, 1) := by decide +kernel
theorem dX4_hanging_36 : decode cX4_hanging 36 = .ok (.ireturn, 1) := by decide +kernel
theorem dX4_postIn_0 : decode cX4_postIn 0 = .ok (.iconst 0, 1) := by decide +kernel
theorem dX4_postIn_1 : decode cX4_postIn 1 = .ok (.istore_n 2, 1) := by decide +kernel
theorem dX4_postIn_2 : decode cX4_postIn 2 = .ok (.iload_n 2, 1) := by decide +kernel
theorem dX4_postIn_3 : decode cX4_postIn 3 = .ok (.bipush 6, 2) := by decide +kernel
theorem dX4_postIn_5 : decode cX4_postIn 5 = .ok (.if_icmp .ge 21, 3) := by decide +kernel
theorem dX4_postIn_8 : decode cX4_postIn 8 = .ok (.aload_n 0, 1) := by decide +kernel
theorem dX4_postIn_9 : decode cX4_postIn 9 = .ok (.getfield 28, 3) := by decide +kernel
theorem dX4_postIn_12 : decode cX4_postIn 12 = .ok (.iload_n 2, 1) := by decide +kernel
theorem dX4_postIn_13 : decode cX4_postIn 13 = .ok (.iaload, 1) := by decide +kernel
theorem dX4_postIn_14 : decode cX4_postIn 14 = .ok (.iload_n 1, 1) := by decide +kernel
theorem dX4_postIn_15 : decode cX4_postIn 15 = .ok (.if_icmp .ne 5, 3) := by decide +kernel
theorem dX4_postIn_18 : decode cX4_postIn 18 = .ok (.iload_n 2, 1) := by decide +kernel
theorem dX4_postIn_19 : decode cX4_postIn 19 = .ok (.ireturn, 1) := by decide +kernel
theorem dX4_postIn_20 : decode cX4_postIn 20 = .ok (.iinc 2 1, 3) := by decide +kernel
theorem dX4_postIn_23 : decode cX4_postIn 23 = .ok (.goto (-21), 3) := by decide +kernel
theorem dX4_postIn_26 : decode cX4_postIn 26 = .ok (.iconst (-1), 1) := by decide +kernel
theorem dX4_postIn_27 : decode cX4_postIn 27 = .ok (.ireturn, 1) := by decide +kernel
theorem dX4_inJars_0 : decode cX4_inJars 0 = .ok (.iconst 0, 1) := by decide +kernel
theorem dX4_inJars_1 : decode cX4_inJars 1 = .ok (.istore_n 1, 1) := by decide +kernel
theorem dX4_inJars_2 : decode cX4_inJars 2 = .ok (.iconst 0, 1) := by decide +kernel
theorem dX4_inJars_3 : decode cX4_inJars 3 = .ok (.istore_n 2, 1) := by decide +kernel
theorem dX4_inJars_4 : decode cX4_inJars 4 = .ok (.iload_n 2, 1) := by decide +kernel
theorem dX4_inJars_5 : decode cX4_inJars 5 = .ok (.bipush 6, 2) := by decide +kernel
theorem dX4_inJars_7 : decode cX4_inJars 7 = .ok (.if_icmp .ge 18, 3) := by decide +kernel
theorem dX4_inJars_10 : decode cX4_inJars 10 = .ok (.iload_n 1, 1) := by decide +kernel
theorem dX4_inJars_11 : decode cX4_inJars 11 = .ok (.aload_n 0, 1) := by decide +kernel
theorem dX4_inJars_12 : decode cX4_inJars 12 = .ok (.getfield 35, 3) := by decide +kernel
theorem dX4_inJars_15 : decode cX4_inJars 15 = .ok (.iload_n 2, 1) := by decide +kernel
theorem dX4_inJars_16 : decode cX4_inJars 16 = .ok (.iaload, 1) := by decide +kernel
theorem dX4_inJars_17 : decode cX4_inJars 17 = .ok (.iadd, 1) := by decide +kernel
theorem dX4_inJars_18 : decode cX4_inJars 18 = .ok (.istore_n 1, 1) := by decide +kernel
theorem dX4_inJars_19 : decode cX4_inJars 19 = .ok (.iinc 2 1, 3) := by decide +kernel
theorem dX4_inJars_22 : decode cX4_inJars 22 = .ok (.goto (-18), 3) := by decide +kernel
theorem dX4_inJars_25 : decode cX4_inJars 25 = .ok (.iload_n 1, 1) := by decide +kernel
theorem dX4_inJars_26 : decode cX4_inJars 26 = .ok (.ireturn, 1) := by decide +kernel
theorem dX4_lampedFog_0 : decode cX4_lampedFog 0 = .ok (.aload_n 0, 1) := by decide +kernel
theorem dX4_lampedFog_1 : decode cX4_lampedFog 1 = .ok (.getfield 18, 3) := by decide +kernel
theorem dX4_lampedFog_4 : decode cX4_lampedFog 4 = .ok (.ifCond .eq 16, 3) := by decide +kernel
theorem dX4_lampedFog_7 : decode cX4_lampedFog 7 = .ok (.iload_n 2, 1) := by decide +kernel
theorem dX4_lampedFog_8 : decode cX4_lampedFog 8 = .ok (.aload_n 1, 1) := by decide +kernel
theorem dX4_lampedFog_9 : decode cX4_lampedFog 9 = .ok (.getfield 66, 3) := by decide +kernel
theorem dX4_lampedFog_12 : decode cX4_lampedFog 12 = .ok (.isub, 1) := by decide +kernel
theorem dX4_lampedFog_13 : decode cX4_lampedFog 13 = .ok (.iconst 0, 1) := by decide +kernel
theorem dX4_lampedFog_14 : decode cX4_lampedFog 14 = .ok (.invokestatic 69, 3) := by decide +kernel
theorem dX4_lampedFog_17 : decode cX4_lampedFog 17 = .ok (.goto 4, 3) := by decide +kernel
theorem dX4_lampedFog_20 : decode cX4_lampedFog 20 = .ok (.iload_n 2, 1) := by decide +kernel
theorem dX4_lampedFog_21 : decode cX4_lampedFog 21 = .ok (.ireturn, 1) := by decide +kernel
theorem dX4_passHour_0 : decode cX4_passHour 0 = .ok (.aload_n 2, 1) := by decide +kernel
theorem dX4_passHour_1 : decode cX4_passHour 1 = .ok (.aload_n 0, 1) := by decide +kernel
theorem dX4_passHour_2 : decode cX4_passHour 2 = .ok (.aload_n 1, 1) := by decide +kernel
theorem dX4_passHour_3 : decode cX4_passHour 3 = .ok (.getfield 75, 3) := by decide +kernel
theorem dX4_passHour_6 : decode cX4_passHour 6 = .ok (.aload_n 0, 1) := by decide +kernel
theorem dX4_passHour_7 : decode cX4_passHour 7 = .ok (.aload_n 1, 1) := by decide +kernel
theorem dX4_passHour_8 : decode cX4_passHour 8 = .ok (.invokevirtual 78, 3) := by decide +kernel
theorem dX4_passHour_11 : decode cX4_passHour 11 = .ok (.iload_n 3, 1) := by decide +kernel
theorem dX4_passHour_12 : decode cX4_passHour 12 = .ok (.aload_n 0, 1) := by decide +kernel
theorem dX4_passHour_13 : decode cX4_passHour 13 = .ok (.aload_n 1, 1) := by decide +kernel
theorem dX4_passHour_14 : decode cX4_passHour 14 = .ok (.iload 4, 2) := by decide +kernel
theorem dX4_passHour_16 : decode cX4_passHour 16 = .ok (.invokevirtual 82, 3) := by decide +kernel
theorem dX4_passHour_19 : decode cX4_passHour 19 = .ok (.invokevirtual 86, 3) := by decide +kernel
theorem dX4_passHour_22 : decode cX4_passHour 22 = .ok (.iconst 0, 1) := by decide +kernel
theorem dX4_passHour_23 : decode cX4_passHour 23 = .ok (.istore 6, 2) := by decide +kernel
theorem dX4_passHour_25 : decode cX4_passHour 25 = .ok (.iconst 0, 1) := by decide +kernel
theorem dX4_passHour_26 : decode cX4_passHour 26 = .ok (.istore 7, 2) := by decide +kernel
theorem dX4_passHour_28 : decode cX4_passHour 28 = .ok (.iload 7, 2) := by decide +kernel
theorem dX4_passHour_30 : decode cX4_passHour 30 = .ok (.bipush 6, 2) := by decide +kernel
theorem dX4_passHour_32 : decode cX4_passHour 32 = .ok (.if_icmp .ge 85, 3) := by decide +kernel
theorem dX4_passHour_35 : decode cX4_passHour 35 = .ok (.aload_n 0, 1) := by decide +kernel
theorem dX4_passHour_36 : decode cX4_passHour 36 = .ok (.getfield 35, 3) := by decide +kernel
theorem dX4_passHour_39 : decode cX4_passHour 39 = .ok (.iload 7, 2) := by decide +kernel
theorem dX4_passHour_41 : decode cX4_passHour 41 = .ok (.dup2, 1) := by decide +kernel
theorem dX4_passHour_42 : decode cX4_passHour 42 = .ok (.iaload, 1) := by decide +kernel
theorem dX4_passHour_43 : decode cX4_passHour 43 = .ok (.aload_n 2, 1) := by decide +kernel
theorem dX4_passHour_44 : decode cX4_passHour 44 = .ok (.getfield 92, 3) := by decide +kernel
theorem dX4_passHour_47 : decode cX4_passHour 47 = .ok (.iload 7, 2) := by decide +kernel
theorem dX4_passHour_49 : decode cX4_passHour 49 = .ok (.iaload, 1) := by decide +kernel
theorem dX4_passHour_50 : decode cX4_passHour 50 = .ok (.iadd, 1) := by decide +kernel
theorem dX4_passHour_51 : decode cX4_passHour 51 = .ok (.iastore, 1) := by decide +kernel
theorem dX4_passHour_52 : decode cX4_passHour 52 = .ok (.aload_n 0, 1) := by decide +kernel
theorem dX4_passHour_53 : decode cX4_passHour 53 = .ok (.getfield 35, 3) := by decide +kernel
theorem dX4_passHour_56 : decode cX4_passHour 56 = .ok (.iload 7, 2) := by decide +kernel
theorem dX4_passHour_58 : decode cX4_passHour 58 = .ok (.iaload, 1) := by decide +kernel
theorem dX4_passHour_59 : decode cX4_passHour 59 = .ok (.aload_n 1, 1) := by decide +kernel
theorem dX4_passHour_60 : decode cX4_passHour 60 = .ok (.getfield 95, 3) := by decide +kernel
theorem dX4_passHour_63 : decode cX4_passHour 63 = .ok (.iload 7, 2) := by decide +kernel
theorem dX4_passHour_65 : decode cX4_passHour 65 = .ok (.iaload, 1) := by decide +kernel
theorem dX4_passHour_66 : decode cX4_passHour 66 = .ok (.isub, 1) := by decide +kernel
theorem dX4_passHour_67 : decode cX4_passHour 67 = .ok (.iconst 0, 1) := by decide +kernel
theorem dX4_passHour_68 : decode cX4_passHour 68 = .ok (.invokestatic 69, 3) := by decide +kernel
theorem dX4_passHour_71 : decode cX4_passHour 71 = .ok (.istore 8, 2) := by decide +kernel
theorem dX4_passHour_73 : decode cX4_passHour 73 = .ok (.aload_n 0, 1) := by decide +kernel
theorem dX4_passHour_74 : decode cX4_passHour 74 = .ok (.getfield 35, 3) := by decide +kernel
theorem dX4_passHour_77 : decode cX4_passHour 77 = .ok (.iload 7, 2) := by decide +kernel
theorem dX4_passHour_79 : decode cX4_passHour 79 = .ok (.dup2, 1) := by decide +kernel
theorem dX4_passHour_80 : decode cX4_passHour 80 = .ok (.iaload, 1) := by decide +kernel
theorem dX4_passHour_81 : decode cX4_passHour 81 = .ok (.iload 8, 2) := by decide +kernel
theorem dX4_passHour_83 : decode cX4_passHour 83 = .ok (.isub, 1) := by decide +kernel
theorem dX4_passHour_84 : decode cX4_passHour 84 = .ok (.iastore, 1) := by decide +kernel
theorem dX4_passHour_85 : decode cX4_passHour 85 = .ok (.aload_n 0, 1) := by decide +kernel
theorem dX4_passHour_86 : decode cX4_passHour 86 = .ok (.aload_n 0, 1) := by decide +kernel
theorem dX4_passHour_87 : decode cX4_passHour 87 = .ok (.getfield 22, 3) := by decide +kernel
theorem dX4_passHour_90 : decode cX4_passHour 90 = .ok (.iload 8, 2) := by decide +kernel
theorem dX4_passHour_92 : decode cX4_passHour 92 = .ok (.iadd, 1) := by decide +kernel
theorem dX4_passHour_93 : decode cX4_passHour 93 = .ok (.invokestatic 98, 3) := by decide +kernel
theorem dX4_passHour_96 : decode cX4_passHour 96 = .ok (.putfield 22, 3) := by decide +kernel
theorem dX4_passHour_99 : decode cX4_passHour 99 = .ok (.iload 6, 2) := by decide +kernel
theorem dX4_passHour_101 : decode cX4_passHour 101 = .ok (.aload_n 2, 1) := by decide +kernel
theorem dX4_passHour_102 : decode cX4_passHour 102 = .ok (.getfield 92, 3) := by decide +kernel
theorem dX4_passHour_105 : decode cX4_passHour 105 = .ok (.iload 7, 2) := by decide +kernel
theorem dX4_passHour_107 : decode cX4_passHour 107 = .ok (.iaload, 1) := by decide +kernel
theorem dX4_passHour_108 : decode cX4_passHour 108 = .ok (.iadd, 1) := by decide +kernel
theorem dX4_passHour_109 : decode cX4_passHour 109 = .ok (.istore 6, 2) := by decide +kernel
theorem dX4_passHour_111 : decode cX4_passHour 111 = .ok (.iinc 7 1, 3) := by decide +kernel
theorem dX4_passHour_114 : decode cX4_passHour 114 = .ok (.goto (-86), 3) := by decide +kernel
theorem dX4_passHour_117 : decode cX4_passHour 117 = .ok (.aload_n 0, 1) := by decide +kernel
theorem dX4_passHour_118 : decode cX4_passHour 118 = .ok (.dup, 1) := by decide +kernel
theorem dX4_passHour_119 : decode cX4_passHour 119 = .ok (.getfield 15, 3) := by decide +kernel
theorem dX4_passHour_122 : decode cX4_passHour 122 = .ok (.iconst 1, 1) := by decide +kernel
theorem dX4_passHour_123 : decode cX4_passHour 123 = .ok (.iadd, 1) := by decide +kernel
theorem dX4_passHour_124 : decode cX4_passHour 124 = .ok (.putfield 15, 3) := by decide +kernel
theorem dX4_passHour_127 : decode cX4_passHour 127 = .ok (.aload_n 0, 1) := by decide +kernel
theorem dX4_passHour_128 : decode cX4_passHour 128 = .ok (.getfield 15, 3) := by decide +kernel
theorem dX4_passHour_131 : decode cX4_passHour 131 = .ok (.aload_n 1, 1) := by decide +kernel
theorem dX4_passHour_132 : decode cX4_passHour 132 = .ok (.invokevirtual 101, 3) := by decide +kernel
theorem dX4_passHour_135 : decode cX4_passHour 135 = .ok (.if_icmp .lt 10, 3) := by decide +kernel
theorem dX4_passHour_138 : decode cX4_passHour 138 = .ok (.aload_n 0, 1) := by decide +kernel
theorem dX4_passHour_139 : decode cX4_passHour 139 = .ok (.aload_n 1, 1) := by decide +kernel
theorem dX4_passHour_140 : decode cX4_passHour 140 = .ok (.iload 5, 2) := by decide +kernel
theorem dX4_passHour_142 : decode cX4_passHour 142 = .ok (.invokevirtual 105, 3) := by decide +kernel
theorem dX4_passHour_145 : decode cX4_passHour 145 = .ok (.iload 6, 2) := by decide +kernel
theorem dX4_passHour_147 : decode cX4_passHour 147 = .ok (.ireturn, 1) := by decide +kernel
theorem dX4_endDay_0 : decode cX4_endDay 0 = .ok (.iload_n 2, 1) := by decide +kernel
theorem dX4_endDay_1 : decode cX4_endDay 1 = .ok (.ifCond .eq 17, 3) := by decide +kernel
theorem dX4_endDay_4 : decode cX4_endDay 4 = .ok (.aload_n 0, 1) := by decide +kernel
theorem dX4_endDay_5 : decode cX4_endDay 5 = .ok (.aload_n 1, 1) := by decide +kernel
theorem dX4_endDay_6 : decode cX4_endDay 6 = .ok (.iconst 0, 1) := by decide +kernel
theorem dX4_endDay_7 : decode cX4_endDay 7 = .ok (.invokevirtual 109, 3) := by decide +kernel
theorem dX4_endDay_10 : decode cX4_endDay 10 = .ok (.pop, 1) := by decide +kernel
theorem dX4_endDay_11 : decode cX4_endDay 11 = .ok (.aload_n 0, 1) := by decide +kernel
theorem dX4_endDay_12 : decode cX4_endDay 12 = .ok (.aload_n 1, 1) := by decide +kernel
theorem dX4_endDay_13 : decode cX4_endDay 13 = .ok (.iconst 1, 1) := by decide +kernel
theorem dX4_endDay_14 : decode cX4_endDay 14 = .ok (.invokevirtual 109, 3) := by decide +kernel
theorem dX4_endDay_17 : decode cX4_endDay 17 = .ok (.pop, 1) := by decide +kernel
theorem dX4_endDay_18 : decode cX4_endDay 18 = .ok (.iconst 0, 1) := by decide +kernel
theorem dX4_endDay_19 : decode cX4_endDay 19 = .ok (.istore_n 3, 1) := by decide +kernel
theorem dX4_endDay_20 : decode cX4_endDay 20 = .ok (.iload_n 3, 1) := by decide +kernel
theorem dX4_endDay_21 : decode cX4_endDay 21 = .ok (.aload_n 1, 1) := by decide +kernel
theorem dX4_endDay_22 : decode cX4_endDay 22 = .ok (.getfield 112, 3) := by decide +kernel
theorem dX4_endDay_25 : decode cX4_endDay 25 = .ok (.if_icmp .ge 68, 3) := by decide +kernel
theorem dX4_endDay_28 : decode cX4_endDay 28 = .ok (.iload_n 3, 1) := by decide +kernel
theorem dX4_endDay_29 : decode cX4_endDay 29 = .ok (.iconst 4, 1) := by decide +kernel
theorem dX4_endDay_30 : decode cX4_endDay 30 = .ok (.if_icmp .ge 63, 3) := by decide +kernel
theorem dX4_endDay_33 : decode cX4_endDay 33 = .ok (.aload_n 0, 1) := by decide +kernel
theorem dX4_endDay_34 : decode cX4_endDay 34 = .ok (.aload_n 1, 1) := by decide +kernel
theorem dX4_endDay_35 : decode cX4_endDay 35 = .ok (.getfield 115, 3) := by decide +kernel
theorem dX4_endDay_38 : decode cX4_endDay 38 = .ok (.iload_n 3, 1) := by decide +kernel
theorem dX4_endDay_39 : decode cX4_endDay 39 = .ok (.iaload, 1) := by decide +kernel
theorem dX4_endDay_40 : decode cX4_endDay 40 = .ok (.invokevirtual 118, 3) := by decide +kernel
theorem dX4_endDay_43 : decode cX4_endDay 43 = .ok (.istore 4, 2) := by decide +kernel
theorem dX4_endDay_45 : decode cX4_endDay 45 = .ok (.aload_n 0, 1) := by decide +kernel
theorem dX4_endDay_46 : decode cX4_endDay 46 = .ok (.getfield 35, 3) := by decide +kernel
theorem dX4_endDay_49 : decode cX4_endDay 49 = .ok (.iload 4, 2) := by decide +kernel
theorem dX4_endDay_51 : decode cX4_endDay 51 = .ok (.invokestatic 121, 3) := by decide +kernel
theorem dX4_endDay_54 : decode cX4_endDay 54 = .ok (.istore 5, 2) := by decide +kernel
theorem dX4_endDay_56 : decode cX4_endDay 56 = .ok (.aload_n 0, 1) := by decide +kernel
theorem dX4_endDay_57 : decode cX4_endDay 57 = .ok (.iload 4, 2) := by decide +kernel
theorem dX4_endDay_59 : decode cX4_endDay 59 = .ok (.aload_n 1, 1) := by decide +kernel
theorem dX4_endDay_60 : decode cX4_endDay 60 = .ok (.getfield 125, 3) := by decide +kernel
theorem dX4_endDay_63 : decode cX4_endDay 63 = .ok (.iload_n 3, 1) := by decide +kernel
theorem dX4_endDay_64 : decode cX4_endDay 64 = .ok (.iaload, 1) := by decide +kernel
theorem dX4_endDay_65 : decode cX4_endDay 65 = .ok (.invokevirtual 128, 3) := by decide +kernel
theorem dX4_endDay_68 : decode cX4_endDay 68 = .ok (.istore 6, 2) := by decide +kernel
theorem dX4_endDay_70 : decode cX4_endDay 70 = .ok (.aload_n 0, 1) := by decide +kernel
theorem dX4_endDay_71 : decode cX4_endDay 71 = .ok (.aload_n 0, 1) := by decide +kernel
theorem dX4_endDay_72 : decode cX4_endDay 72 = .ok (.getfield 25, 3) := by decide +kernel
theorem dX4_endDay_75 : decode cX4_endDay 75 = .ok (.iload 5, 2) := by decide +kernel
theorem dX4_endDay_77 : decode cX4_endDay 77 = .ok (.iadd, 1) := by decide +kernel
theorem dX4_endDay_78 : decode cX4_endDay 78 = .ok (.iload 6, 2) := by decide +kernel
theorem dX4_endDay_80 : decode cX4_endDay 80 = .ok (.isub, 1) := by decide +kernel
theorem dX4_endDay_81 : decode cX4_endDay 81 = .ok (.invokestatic 98, 3) := by decide +kernel
theorem dX4_endDay_84 : decode cX4_endDay 84 = .ok (.putfield 25, 3) := by decide +kernel
theorem dX4_endDay_87 : decode cX4_endDay 87 = .ok (.iinc 3 1, 3) := by decide +kernel
theorem dX4_endDay_90 : decode cX4_endDay 90 = .ok (.goto (-70), 3) := by decide +kernel
theorem dX4_endDay_93 : decode cX4_endDay 93 = .ok (.iconst 0, 1) := by decide +kernel
theorem dX4_endDay_94 : decode cX4_endDay 94 = .ok (.istore_n 3, 1) := by decide +kernel
theorem dX4_endDay_95 : decode cX4_endDay 95 = .ok (.iload_n 3, 1) := by decide +kernel
theorem dX4_endDay_96 : decode cX4_endDay 96 = .ok (.iconst 2, 1) := by decide +kernel
theorem dX4_endDay_97 : decode cX4_endDay 97 = .ok (.if_icmp .ge 62, 3) := by decide +kernel
theorem dX4_endDay_100 : decode cX4_endDay 100 = .ok (.aload_n 1, 1) := by decide +kernel
theorem dX4_endDay_101 : decode cX4_endDay 101 = .ok (.getfield 131, 3) := by decide +kernel
theorem dX4_endDay_104 : decode cX4_endDay 104 = .ok (.iload_n 3, 1) := by decide +kernel
theorem dX4_endDay_105 : decode cX4_endDay 105 = .ok (.iaload, 1) := by decide +kernel
theorem dX4_endDay_106 : decode cX4_endDay 106 = .ok (.aload_n 0, 1) := by decide +kernel
theorem dX4_endDay_107 : decode cX4_endDay 107 = .ok (.getfield 38, 3) := by decide +kernel
theorem dX4_endDay_110 : decode cX4_endDay 110 = .ok (.iload_n 3, 1) := by decide +kernel
theorem dX4_endDay_111 : decode cX4_endDay 111 = .ok (.iaload, 1) := by decide +kernel
theorem dX4_endDay_112 : decode cX4_endDay 112 = .ok (.invokestatic 134, 3) := by decide +kernel
theorem dX4_endDay_115 : decode cX4_endDay 115 = .ok (.istore 4, 2) := by decide +kernel
theorem dX4_endDay_117 : decode cX4_endDay 117 = .ok (.aload_n 0, 1) := by decide +kernel
theorem dX4_endDay_118 : decode cX4_endDay 118 = .ok (.getfield 38, 3) := by decide +kernel
theorem dX4_endDay_121 : decode cX4_endDay 121 = .ok (.iload_n 3, 1) := by decide +kernel
theorem dX4_endDay_122 : decode cX4_endDay 122 = .ok (.dup2, 1) := by decide +kernel
theorem dX4_endDay_123 : decode cX4_endDay 123 = .ok (.iaload, 1) := by decide +kernel
theorem dX4_endDay_124 : decode cX4_endDay 124 = .ok (.iload 4, 2) := by decide +kernel
theorem dX4_endDay_126 : decode cX4_endDay 126 = .ok (.isub, 1) := by decide +kernel
theorem dX4_endDay_127 : decode cX4_endDay 127 = .ok (.iastore, 1) := by decide +kernel
theorem dX4_endDay_128 : decode cX4_endDay 128 = .ok (.aload_n 0, 1) := by decide +kernel
theorem dX4_endDay_129 : decode cX4_endDay 129 = .ok (.getfield 41, 3) := by decide +kernel
theorem dX4_endDay_132 : decode cX4_endDay 132 = .ok (.iload_n 3, 1) := by decide +kernel
theorem dX4_endDay_133 : decode cX4_endDay 133 = .ok (.aload_n 0, 1) := by decide +kernel
theorem dX4_endDay_134 : decode cX4_endDay 134 = .ok (.getfield 41, 3) := by decide +kernel
theorem dX4_endDay_137 : decode cX4_endDay 137 = .ok (.iload_n 3, 1) := by decide +kernel
theorem dX4_endDay_138 : decode cX4_endDay 138 = .ok (.iaload, 1) := by decide +kernel
theorem dX4_endDay_139 : decode cX4_endDay 139 = .ok (.aload_n 1, 1) := by decide +kernel
theorem dX4_endDay_140 : decode cX4_endDay 140 = .ok (.getfield 131, 3) := by decide +kernel
theorem dX4_endDay_143 : decode cX4_endDay 143 = .ok (.iload_n 3, 1) := by decide +kernel
theorem dX4_endDay_144 : decode cX4_endDay 144 = .ok (.iaload, 1) := by decide +kernel
theorem dX4_endDay_145 : decode cX4_endDay 145 = .ok (.iadd, 1) := by decide +kernel
theorem dX4_endDay_146 : decode cX4_endDay 146 = .ok (.iload 4, 2) := by decide +kernel
theorem dX4_endDay_148 : decode cX4_endDay 148 = .ok (.isub, 1) := by decide +kernel
theorem dX4_endDay_149 : decode cX4_endDay 149 = .ok (.invokestatic 98, 3) := by decide +kernel
theorem dX4_endDay_152 : decode cX4_endDay 152 = .ok (.iastore, 1) := by decide +kernel
theorem dX4_endDay_153 : decode cX4_endDay 153 = .ok (.iinc 3 1, 3) := by decide +kernel
theorem dX4_endDay_156 : decode cX4_endDay 156 = .ok (.goto (-61), 3) := by decide +kernel
theorem dX4_endDay_159 : decode cX4_endDay 159 = .ok (.aload_n 0, 1) := by decide +kernel
theorem dX4_endDay_160 : decode cX4_endDay 160 = .ok (.dup, 1) := by decide +kernel
theorem dX4_endDay_161 : decode cX4_endDay 161 = .ok (.getfield 9, 3) := by decide +kernel
theorem dX4_endDay_164 : decode cX4_endDay 164 = .ok (.iconst 1, 1) := by decide +kernel
theorem dX4_endDay_165 : decode cX4_endDay 165 = .ok (.iadd, 1) := by decide +kernel
theorem dX4_endDay_166 : decode cX4_endDay 166 = .ok (.putfield 9, 3) := by decide +kernel
theorem dX4_endDay_169 : decode cX4_endDay 169 = .ok (.aload_n 0, 1) := by decide +kernel
theorem dX4_endDay_170 : decode cX4_endDay 170 = .ok (.iconst 0, 1) := by decide +kernel
theorem dX4_endDay_171 : decode cX4_endDay 171 = .ok (.putfield 15, 3) := by decide +kernel
theorem dX4_endDay_174 : decode cX4_endDay 174 = .ok (.return_, 1) := by decide +kernel
theorem dX4_emptyJarsOf_0 : decode cX4_emptyJarsOf 0 = .ok (.iconst 0, 1) := by decide +kernel
theorem dX4_emptyJarsOf_1 : decode cX4_emptyJarsOf 1 = .ok (.istore_n 3, 1) := by decide +kernel
theorem dX4_emptyJarsOf_2 : decode cX4_emptyJarsOf 2 = .ok (.iconst 0, 1) := by decide +kernel
theorem dX4_emptyJarsOf_3 : decode cX4_emptyJarsOf 3 = .ok (.istore 4, 2) := by decide +kernel
theorem dX4_emptyJarsOf_5 : decode cX4_emptyJarsOf 5 = .ok (.iload 4, 2) := by decide +kernel
theorem dX4_emptyJarsOf_7 : decode cX4_emptyJarsOf 7 = .ok (.bipush 6, 2) := by decide +kernel
theorem dX4_emptyJarsOf_9 : decode cX4_emptyJarsOf 9 = .ok (.if_icmp .ge 41, 3) := by decide +kernel
theorem dX4_emptyJarsOf_12 : decode cX4_emptyJarsOf 12 = .ok (.aload_n 1, 1) := by decide +kernel
theorem dX4_emptyJarsOf_13 : decode cX4_emptyJarsOf 13 = .ok (.getfield 137, 3) := by decide +kernel
theorem dX4_emptyJarsOf_16 : decode cX4_emptyJarsOf 16 = .ok (.iload 4, 2) := by decide +kernel
theorem dX4_emptyJarsOf_18 : decode cX4_emptyJarsOf 18 = .ok (.iaload, 1) := by decide +kernel
theorem dX4_emptyJarsOf_19 : decode cX4_emptyJarsOf 19 = .ok (.iload_n 2, 1) := by decide +kernel
theorem dX4_emptyJarsOf_20 : decode cX4_emptyJarsOf 20 = .ok (.if_icmp .eq 6, 3) := by decide +kernel
theorem dX4_emptyJarsOf_23 : decode cX4_emptyJarsOf 23 = .ok (.goto 21, 3) := by decide +kernel
theorem dX4_emptyJarsOf_26 : decode cX4_emptyJarsOf 26 = .ok (.iload_n 3, 1) := by decide +kernel
theorem dX4_emptyJarsOf_27 : decode cX4_emptyJarsOf 27 = .ok (.aload_n 0, 1) := by decide +kernel
theorem dX4_emptyJarsOf_28 : decode cX4_emptyJarsOf 28 = .ok (.getfield 35, 3) := by decide +kernel
theorem dX4_emptyJarsOf_31 : decode cX4_emptyJarsOf 31 = .ok (.iload 4, 2) := by decide +kernel
theorem dX4_emptyJarsOf_33 : decode cX4_emptyJarsOf 33 = .ok (.iaload, 1) := by decide +kernel
theorem dX4_emptyJarsOf_34 : decode cX4_emptyJarsOf 34 = .ok (.iadd, 1) := by decide +kernel
theorem dX4_emptyJarsOf_35 : decode cX4_emptyJarsOf 35 = .ok (.istore_n 3, 1) := by decide +kernel
theorem dX4_emptyJarsOf_36 : decode cX4_emptyJarsOf 36 = .ok (.aload_n 0, 1) := by decide +kernel
theorem dX4_emptyJarsOf_37 : decode cX4_emptyJarsOf 37 = .ok (.getfield 35, 3) := by decide +kernel
theorem dX4_emptyJarsOf_40 : decode cX4_emptyJarsOf 40 = .ok (.iload 4, 2) := by decide +kernel
theorem dX4_emptyJarsOf_42 : decode cX4_emptyJarsOf 42 = .ok (.iconst 0, 1) := by decide +kernel
theorem dX4_emptyJarsOf_43 : decode cX4_emptyJarsOf 43 = .ok (.iastore, 1) := by decide +kernel
theorem dX4_emptyJarsOf_44 : decode cX4_emptyJarsOf 44 = .ok (.iinc 4 1, 3) := by decide +kernel
theorem dX4_emptyJarsOf_47 : decode cX4_emptyJarsOf 47 = .ok (.goto (-42), 3) := by decide +kernel
theorem dX4_emptyJarsOf_50 : decode cX4_emptyJarsOf 50 = .ok (.aload_n 0, 1) := by decide +kernel
theorem dX4_emptyJarsOf_51 : decode cX4_emptyJarsOf 51 = .ok (.getfield 38, 3) := by decide +kernel
theorem dX4_emptyJarsOf_54 : decode cX4_emptyJarsOf 54 = .ok (.iload_n 2, 1) := by decide +kernel
theorem dX4_emptyJarsOf_55 : decode cX4_emptyJarsOf 55 = .ok (.aload_n 0, 1) := by decide +kernel
theorem dX4_emptyJarsOf_56 : decode cX4_emptyJarsOf 56 = .ok (.getfield 38, 3) := by decide +kernel
theorem dX4_emptyJarsOf_59 : decode cX4_emptyJarsOf 59 = .ok (.iload_n 2, 1) := by decide +kernel
theorem dX4_emptyJarsOf_60 : decode cX4_emptyJarsOf 60 = .ok (.invokestatic 121, 3) := by decide +kernel
theorem dX4_emptyJarsOf_63 : decode cX4_emptyJarsOf 63 = .ok (.iload_n 3, 1) := by decide +kernel
theorem dX4_emptyJarsOf_64 : decode cX4_emptyJarsOf 64 = .ok (.iadd, 1) := by decide +kernel
theorem dX4_emptyJarsOf_65 : decode cX4_emptyJarsOf 65 = .ok (.ldc 140, 2) := by decide +kernel
theorem dX4_emptyJarsOf_67 : decode cX4_emptyJarsOf 67 = .ok (.invokestatic 134, 3) := by decide +kernel
theorem dX4_emptyJarsOf_70 : decode cX4_emptyJarsOf 70 = .ok (.invokestatic 141, 3) := by decide +kernel
theorem dX4_emptyJarsOf_73 : decode cX4_emptyJarsOf 73 = .ok (.iload_n 3, 1) := by decide +kernel
theorem dX4_emptyJarsOf_74 : decode cX4_emptyJarsOf 74 = .ok (.ireturn, 1) := by decide +kernel
theorem dX4_loseFromJar_0 : decode cX4_loseFromJar 0 = .ok (.aload_n 0, 1) := by decide +kernel
theorem dX4_loseFromJar_1 : decode cX4_loseFromJar 1 = .ok (.getfield 35, 3) := by decide +kernel
theorem dX4_loseFromJar_4 : decode cX4_loseFromJar 4 = .ok (.iload_n 1, 1) := by decide +kernel
theorem dX4_loseFromJar_5 : decode cX4_loseFromJar 5 = .ok (.aload_n 0, 1) := by decide +kernel
theorem dX4_loseFromJar_6 : decode cX4_loseFromJar 6 = .ok (.getfield 35, 3) := by decide +kernel
theorem dX4_loseFromJar_9 : decode cX4_loseFromJar 9 = .ok (.iload_n 1, 1) := by decide +kernel
theorem dX4_loseFromJar_10 : decode cX4_loseFromJar 10 = .ok (.invokestatic 121, 3) := by decide +kernel
theorem dX4_loseFromJar_13 : decode cX4_loseFromJar 13 = .ok (.iload_n 2, 1) := by decide +kernel
theorem dX4_loseFromJar_14 : decode cX4_loseFromJar 14 = .ok (.isub, 1) := by decide +kernel
theorem dX4_loseFromJar_15 : decode cX4_loseFromJar 15 = .ok (.iconst 0, 1) := by decide +kernel
theorem dX4_loseFromJar_16 : decode cX4_loseFromJar 16 = .ok (.invokestatic 69, 3) := by decide +kernel
theorem dX4_loseFromJar_19 : decode cX4_loseFromJar 19 = .ok (.invokestatic 141, 3) := by decide +kernel
theorem dX4_loseFromJar_22 : decode cX4_loseFromJar 22 = .ok (.aload_n 0, 1) := by decide +kernel
theorem dX4_loseFromJar_23 : decode cX4_loseFromJar 23 = .ok (.getfield 35, 3) := by decide +kernel
theorem dX4_loseFromJar_26 : decode cX4_loseFromJar 26 = .ok (.iload_n 1, 1) := by decide +kernel
theorem dX4_loseFromJar_27 : decode cX4_loseFromJar 27 = .ok (.invokestatic 121, 3) := by decide +kernel
theorem dX4_loseFromJar_30 : decode cX4_loseFromJar 30 = .ok (.ireturn, 1) := by decide +kernel
theorem dX4_counted_0 : decode cX4_counted 0 = .ok (.iload_n 0, 1) := by decide +kernel
theorem dX4_counted_1 : decode cX4_counted 1 = .ok (.ldc 145, 2) := by decide +kernel
theorem dX4_counted_3 : decode cX4_counted 3 = .ok (.invokestatic 134, 3) := by decide +kernel
theorem dX4_counted_6 : decode cX4_counted 6 = .ok (.ireturn, 1) := by decide +kernel
theorem dX5_init_0 : decode cX5_init 0 = .ok (.aload_n 0, 1) := by decide +kernel
theorem dX5_init_1 : decode cX5_init 1 = .ok (.invokespecial 3, 3) := by decide +kernel
theorem dX5_init_4 : decode cX5_init 4 = .ok (.aload_n 0, 1) := by decide +kernel
theorem dX5_init_5 : decode cX5_init 5 = .ok (.bipush 6, 2) := by decide +kernel
theorem dX5_init_7 : decode cX5_init 7 = .ok (.newarray .int, 2) := by decide +kernel
theorem dX5_init_9 : decode cX5_init 9 = .ok (.putfield 9, 3) := by decide +kernel
theorem dX5_init_12 : decode cX5_init 12 = .ok (.aload_n 0, 1) := by decide +kernel
theorem dX5_init_13 : decode cX5_init 13 = .ok (.bipush 12, 2) := by decide +kernel
theorem dX5_init_15 : decode cX5_init 15 = .ok (.newarray .int, 2) := by decide +kernel
theorem dX5_init_17 : decode cX5_init 17 = .ok (.putfield 15, 3) := by decide +kernel
theorem dX5_init_20 : decode cX5_init 20 = .ok (.aload_n 0, 1) := by decide +kernel
theorem dX5_init_21 : decode cX5_init 21 = .ok (.iconst 0, 1) := by decide +kernel
theorem dX5_init_22 : decode cX5_init 22 = .ok (.putfield 18, 3) := by decide +kernel
theorem dX5_init_25 : decode cX5_init 25 = .ok (.return_, 1) := by decide +kernel
theorem dX5_blow_0 : decode cX5_blow 0 = .ok (.aload_n 0, 1) := by decide +kernel
theorem dX5_blow_1 : decode cX5_blow 1 = .ok (.aload_n 1, 1) := by decide +kernel
theorem dX5_blow_2 : decode cX5_blow 2 = .ok (.iload_n 2, 1) := by decide +kernel
theorem dX5_blow_3 : decode cX5_blow 3 = .ok (.iload_n 3, 1) := by decide +kernel
theorem dX5_blow_4 : decode cX5_blow 4 = .ok (.iload 4, 2) := by decide +kernel
theorem dX5_blow_6 : decode cX5_blow 6 = .ok (.invokevirtual 22, 3) := by decide +kernel
theorem dX5_blow_9 : decode cX5_blow 9 = .ok (.aload_n 0, 1) := by decide +kernel
theorem dX5_blow_10 : decode cX5_blow 10 = .ok (.iload 5, 2) := by decide +kernel
theorem dX5_blow_12 : decode cX5_blow 12 = .ok (.putfield 18, 3) := by decide +kernel
theorem dX5_blow_15 : decode cX5_blow 15 = .ok (.iconst 0, 1) := by decide +kernel
theorem dX5_blow_16 : decode cX5_blow 16 = .ok (.istore 6, 2) := by decide +kernel
theorem dX5_blow_18 : decode cX5_blow 18 = .ok (.iload 6, 2) := by decide +kernel
theorem dX5_blow_20 : decode cX5_blow 20 = .ok (.bipush 12, 2) := by decide +kernel
theorem dX5_blow_22 : decode cX5_blow 22 = .ok (.if_icmp .ge 97, 3) := by decide +kernel
theorem dX5_blow_25 : decode cX5_blow 25 = .ok (.aload_n 0, 1) := by decide +kernel
theorem dX5_blow_26 : decode cX5_blow 26 = .ok (.getfield 15, 3) := by decide +kernel
theorem dX5_blow_29 : decode cX5_blow 29 = .ok (.iload 6, 2) := by decide +kernel
theorem dX5_blow_31 : decode cX5_blow 31 = .ok (.iaload, 1) := by decide +kernel
theorem dX5_blow_32 : decode cX5_blow 32 = .ok (.istore 7, 2) := by decide +kernel
theorem dX5_blow_34 : decode cX5_blow 34 = .ok (.iload 7, 2) := by decide +kernel
theorem dX5_blow_36 : decode cX5_blow 36 = .ok (.ifCond .lt 77, 3) := by decide +kernel
theorem dX5_blow_39 : decode cX5_blow 39 = .ok (.iload 7, 2) := by decide +kernel
theorem dX5_blow_41 : decode cX5_blow 41 = .ok (.bipush 6, 2) := by decide +kernel
theorem dX5_blow_43 : decode cX5_blow 43 = .ok (.if_icmp .lt 6, 3) := by decide +kernel
theorem dX5_blow_46 : decode cX5_blow 46 = .ok (.goto 67, 3) := by decide +kernel
theorem dX5_blow_49 : decode cX5_blow 49 = .ok (.aload_n 0, 1) := by decide +kernel
theorem dX5_blow_50 : decode cX5_blow 50 = .ok (.getfield 18, 3) := by decide +kernel
theorem dX5_blow_53 : decode cX5_blow 53 = .ok (.bipush 20, 2) := by decide +kernel
theorem dX5_blow_55 : decode cX5_blow 55 = .ok (.if_icmp .lt 13, 3) := by decide +kernel
theorem dX5_blow_58 : decode cX5_blow 58 = .ok (.aload_n 1, 1) := by decide +kernel
theorem dX5_blow_59 : decode cX5_blow 59 = .ok (.getfield 26, 3) := by decide +kernel
theorem dX5_blow_62 : decode cX5_blow 62 = .ok (.iload 7, 2) := by decide +kernel
theorem dX5_blow_64 : decode cX5_blow 64 = .ok (.iaload, 1) := by decide +kernel
theorem dX5_blow_65 : decode cX5_blow 65 = .ok (.goto 13, 3) := by decide +kernel
theorem dX5_blow_68 : decode cX5_blow 68 = .ok (.bipush 9, 2) := by decide +kernel
theorem dX5_blow_70 : decode cX5_blow 70 = .ok (.aload_n 1, 1) := by decide +kernel
theorem dX5_blow_71 : decode cX5_blow 71 = .ok (.getfield 26, 3) := by decide +kernel
theorem dX5_blow_74 : decode cX5_blow 74 = .ok (.iload 7, 2) := by decide +kernel
theorem dX5_blow_76 : decode cX5_blow 76 = .ok (.iaload, 1) := by decide +kernel
theorem dX5_blow_77 : decode cX5_blow 77 = .ok (.isub, 1) := by decide +kernel
theorem dX5_blow_78 : decode cX5_blow 78 = .ok (.istore 8, 2) := by decide +kernel
theorem dX5_blow_80 : decode cX5_blow 80 = .ok (.aload_n 0, 1) := by decide +kernel
theorem dX5_blow_81 : decode cX5_blow 81 = .ok (.getfield 9, 3) := by decide +kernel
theorem dX5_blow_84 : decode cX5_blow 84 = .ok (.iload 7, 2) := by decide +kernel
theorem dX5_blow_86 : decode cX5_blow 86 = .ok (.aload_n 0, 1) := by decide +kernel
theorem dX5_blow_87 : decode cX5_blow 87 = .ok (.getfield 18, 3) := by decide +kernel
theorem dX5_blow_90 : decode cX5_blow 90 = .ok (.iload 8, 2) := by decide +kernel
theorem dX5_blow_92 : decode cX5_blow 92 = .ok (.imul, 1) := by decide +kernel
theorem dX5_blow_93 : decode cX5_blow 93 = .ok (.bipush 10, 2) := by decide +kernel
theorem dX5_blow_95 : decode cX5_blow 95 = .ok (.idiv, 1) := by decide +kernel
theorem dX5_blow_96 : decode cX5_blow 96 = .ok (.iastore, 1) := by decide +kernel
theorem dX5_blow_97 : decode cX5_blow 97 = .ok (.aload_n 0, 1) := by decide +kernel
theorem dX5_blow_98 : decode cX5_blow 98 = .ok (.dup, 1) := by decide +kernel
theorem dX5_blow_99 : decode cX5_blow 99 = .ok (.getfield 18, 3) := by decide +kernel
theorem dX5_blow_102 : decode cX5_blow 102 = .ok (.aload_n 0, 1) := by decide +kernel
theorem dX5_blow_103 : decode cX5_blow 103 = .ok (.getfield 9, 3) := by decide +kernel
theorem dX5_blow_106 : decode cX5_blow 106 = .ok (.iload 7, 2) := by decide +kernel
theorem dX5_blow_108 : decode cX5_blow 108 = .ok (.iaload, 1) := by decide +kernel
theorem dX5_blow_109 : decode cX5_blow 109 = .ok (.isub, 1) := by decide +kernel
theorem dX5_blow_110 : decode cX5_blow 110 = .ok (.putfield 18, 3) := by decide +kernel
theorem dX5_blow_113 : decode cX5_blow 113 = .ok (.iinc 6 1, 3) := by decide +kernel
theorem dX5_blow_116 : decode cX5_blow 116 = .ok (.goto (-98), 3) := by decide +kernel
theorem dX5_blow_119 : decode cX5_blow 119 = .ok (.return_, 1) := by decide +kernel
theorem dX5_takerOf_0 : decode cX5_takerOf 0 = .ok (.iconst 0, 1) := by decide +kernel
theorem dX5_takerOf_1 : decode cX5_takerOf 1 = .ok (.istore_n 2, 1) := by decide +kernel
theorem dX5_takerOf_2 : decode cX5_takerOf 2 = .ok (.iconst 0, 1) := by decide +kernel
theorem dX5_takerOf_3 : decode cX5_takerOf 3 = .ok (.istore_n 3, 1) := by decide +kernel
theorem dX5_takerOf_4 : decode cX5_takerOf 4 = .ok (.iload_n 3, 1) := by decide +kernel
theorem dX5_takerOf_5 : decode cX5_takerOf 5 = .ok (.bipush 12, 2) := by decide +kernel
theorem dX5_takerOf_7 : decode cX5_takerOf 7 = .ok (.if_icmp .ge 46, 3) := by decide +kernel
theorem dX5_takerOf_10 : decode cX5_takerOf 10 = .ok (.aload_n 0, 1) := by decide +kernel
theorem dX5_takerOf_11 : decode cX5_takerOf 11 = .ok (.getfield 15, 3) := by decide +kernel
theorem dX5_takerOf_14 : decode cX5_takerOf 14 = .ok (.iload_n 3, 1) := by decide +kernel
theorem dX5_takerOf_15 : decode cX5_takerOf 15 = .ok (.iaload, 1) := by decide +kernel
theorem dX5_takerOf_16 : decode cX5_takerOf 16 = .ok (.istore 4, 2) := by decide +kernel
theorem dX5_takerOf_18 : decode cX5_takerOf 18 = .ok (.iload 4, 2) := by decide +kernel
theorem dX5_takerOf_20 : decode cX5_takerOf 20 = .ok (.iconst (-1), 1) := by decide +kernel
theorem dX5_takerOf_21 : decode cX5_takerOf 21 = .ok (.if_icmp .ne 6, 3) := by decide +kernel
theorem dX5_takerOf_24 : decode cX5_takerOf 24 = .ok (.goto 23, 3) := by decide +kernel
theorem dX5_takerOf_27 : decode cX5_takerOf 27 = .ok (.iload_n 2, 1) := by decide +kernel
theorem dX5_takerOf_28 : decode cX5_takerOf 28 = .ok (.aload_n 0, 1) := by decide +kernel
theorem dX5_takerOf_29 : decode cX5_takerOf 29 = .ok (.getfield 9, 3) := by decide +kernel
theorem dX5_takerOf_32 : decode cX5_takerOf 32 = .ok (.iload 4, 2) := by decide +kernel
theorem dX5_takerOf_34 : decode cX5_takerOf 34 = .ok (.invokestatic 31, 3) := by decide +kernel
theorem dX5_takerOf_37 : decode cX5_takerOf 37 = .ok (.iadd, 1) := by decide +kernel
theorem dX5_takerOf_38 : decode cX5_takerOf 38 = .ok (.istore_n 2, 1) := by decide +kernel
theorem dX5_takerOf_39 : decode cX5_takerOf 39 = .ok (.iload_n 1, 1) := by decide +kernel
theorem dX5_takerOf_40 : decode cX5_takerOf 40 = .ok (.iload_n 2, 1) := by decide +kernel
theorem dX5_takerOf_41 : decode cX5_takerOf 41 = .ok (.if_icmp .ge 6, 3) := by decide +kernel
theorem dX5_takerOf_44 : decode cX5_takerOf 44 = .ok (.iload 4, 2) := by decide +kernel
theorem dX5_takerOf_46 : decode cX5_takerOf 46 = .ok (.ireturn, 1) := by decide +kernel
theorem dX5_takerOf_47 : decode cX5_takerOf 47 = .ok (.iinc 3 1, 3) := by decide +kernel
theorem dX5_takerOf_50 : decode cX5_takerOf 50 = .ok (.goto (-46), 3) := by decide +kernel
theorem dX5_takerOf_53 : decode cX5_takerOf 53 = .ok (.iconst (-1), 1) := by decide +kernel
theorem dX5_takerOf_54 : decode cX5_takerOf 54 = .ok (.ireturn, 1) := by decide +kernel
theorem dX5_lineUp_0 : decode cX5_lineUp 0 = .ok (.iconst 0, 1) := by decide +kernel
theorem dX5_lineUp_1 : decode cX5_lineUp 1 = .ok (.istore 5, 2) := by decide +kernel
theorem dX5_lineUp_3 : decode cX5_lineUp 3 = .ok (.iload 5, 2) := by decide +kernel
theorem dX5_lineUp_5 : decode cX5_lineUp 5 = .ok (.bipush 12, 2) := by decide +kernel
theorem dX5_lineUp_7 : decode cX5_lineUp 7 = .ok (.if_icmp .ge 17, 3) := by decide +kernel
theorem dX5_lineUp_10 : decode cX5_lineUp 10 = .ok (.aload_n 0, 1) := by decide +kernel
theorem dX5_lineUp_11 : decode cX5_lineUp 11 = .ok (.getfield 15, 3) := by decide +kernel
theorem dX5_lineUp_14 : decode cX5_lineUp 14 = .ok (.iload 5, 2) := by decide +kernel
theorem dX5_lineUp_16 : decode cX5_lineUp 16 = .ok (.iconst (-1), 1) := by decide +kernel
theorem dX5_lineUp_17 : decode cX5_lineUp 17 = .ok (.iastore, 1) := by decide +kernel
theorem dX5_lineUp_18 : decode cX5_lineUp 18 = .ok (.iinc 5 1, 3) := by decide +kernel
theorem dX5_lineUp_21 : decode cX5_lineUp 21 = .ok (.goto (-18), 3) := by decide +kernel
theorem dX5_lineUp_24 : decode cX5_lineUp 24 = .ok (.iconst 0, 1) := by decide +kernel
theorem dX5_lineUp_25 : decode cX5_lineUp 25 = .ok (.istore 5, 2) := by decide +kernel
theorem dX5_lineUp_27 : decode cX5_lineUp 27 = .ok (.iload 5, 2) := by decide +kernel
theorem dX5_lineUp_29 : decode cX5_lineUp 29 = .ok (.bipush 6, 2) := by decide +kernel
theorem dX5_lineUp_31 : decode cX5_lineUp 31 = .ok (.if_icmp .ge 62, 3) := by decide +kernel
theorem dX5_lineUp_34 : decode cX5_lineUp 34 = .ok (.aload_n 0, 1) := by decide +kernel
theorem dX5_lineUp_35 : decode cX5_lineUp 35 = .ok (.getfield 9, 3) := by decide +kernel
theorem dX5_lineUp_38 : decode cX5_lineUp 38 = .ok (.iload 5, 2) := by decide +kernel
theorem dX5_lineUp_40 : decode cX5_lineUp 40 = .ok (.iconst 0, 1) := by decide +kernel
theorem dX5_lineUp_41 : decode cX5_lineUp 41 = .ok (.iastore, 1) := by decide +kernel
theorem dX5_lineUp_42 : decode cX5_lineUp 42 = .ok (.iload_n 3, 1) := by decide +kernel
theorem dX5_lineUp_43 : decode cX5_lineUp 43 = .ok (.iload 5, 2) := by decide +kernel
theorem dX5_lineUp_45 : decode cX5_lineUp 45 = .ok (.ishr, 1) := by decide +kernel
theorem dX5_lineUp_46 : decode cX5_lineUp 46 = .ok (.iconst 1, 1) := by decide +kernel
theorem dX5_lineUp_47 : decode cX5_lineUp 47 = .ok (.iand, 1) := by decide +kernel
theorem dX5_lineUp_48 : decode cX5_lineUp 48 = .ok (.iconst 1, 1) := by decide +kernel
theorem dX5_lineUp_49 : decode cX5_lineUp 49 = .ok (.if_icmp .ne 38, 3) := by decide +kernel
theorem dX5_lineUp_52 : decode cX5_lineUp 52 = .ok (.aload_n 0, 1) := by decide +kernel
theorem dX5_lineUp_53 : decode cX5_lineUp 53 = .ok (.getfield 15, 3) := by decide +kernel
theorem dX5_lineUp_56 : decode cX5_lineUp 56 = .ok (.iload 4, 2) := by decide +kernel
theorem dX5_lineUp_58 : decode cX5_lineUp 58 = .ok (.ifCond .ne 13, 3) := by decide +kernel
theorem dX5_lineUp_61 : decode cX5_lineUp 61 = .ok (.aload_n 1, 1) := by decide +kernel
theorem dX5_lineUp_62 : decode cX5_lineUp 62 = .ok (.getfield 35, 3) := by decide +kernel
theorem dX5_lineUp_65 : decode cX5_lineUp 65 = .ok (.iload 5, 2) := by decide +kernel
theorem dX5_lineUp_67 : decode cX5_lineUp 67 = .ok (.iaload, 1) := by decide +kernel
theorem dX5_lineUp_68 : decode cX5_lineUp 68 = .ok (.goto 14, 3) := by decide +kernel
theorem dX5_lineUp_71 : decode cX5_lineUp 71 = .ok (.iload_n 2, 1) := by decide +kernel
theorem dX5_lineUp_72 : decode cX5_lineUp 72 = .ok (.iconst 1, 1) := by decide +kernel
theorem dX5_lineUp_73 : decode cX5_lineUp 73 = .ok (.isub, 1) := by decide +kernel
theorem dX5_lineUp_74 : decode cX5_lineUp 74 = .ok (.aload_n 1, 1) := by decide +kernel
theorem dX5_lineUp_75 : decode cX5_lineUp 75 = .ok (.getfield 35, 3) := by decide +kernel
theorem dX5_lineUp_78 : decode cX5_lineUp 78 = .ok (.iload 5, 2) := by decide +kernel
theorem dX5_lineUp_80 : decode cX5_lineUp 80 = .ok (.iaload, 1) := by decide +kernel
theorem dX5_lineUp_81 : decode cX5_lineUp 81 = .ok (.isub, 1) := by decide +kernel
theorem dX5_lineUp_82 : decode cX5_lineUp 82 = .ok (.iload 5, 2) := by decide +kernel
theorem dX5_lineUp_84 : decode cX5_lineUp 84 = .ok (.invokestatic 38, 3) := by decide +kernel
theorem dX5_lineUp_87 : decode cX5_lineUp 87 = .ok (.iinc 5 1, 3) := by decide +kernel
theorem dX5_lineUp_90 : decode cX5_lineUp 90 = .ok (.goto (-63), 3) := by decide +kernel
theorem dX5_lineUp_93 : decode cX5_lineUp 93 = .ok (.return_, 1) := by decide +kernel
theorem dX6_init_0 : decode cX6_init 0 = .ok (.aload_n 0, 1) := by decide +kernel
theorem dX6_init_1 : decode cX6_init 1 = .ok (.invokespecial 1, 3) := by decide +kernel
theorem dX6_init_4 : decode cX6_init 4 = .ok (.aload_n 0, 1) := by decide +kernel
theorem dX6_init_5 : decode cX6_init 5 = .ok (.new 7, 3) := by decide +kernel
theorem dX6_init_8 : decode cX6_init 8 = .ok (.dup, 1) := by decide +kernel
theorem dX6_init_9 : decode cX6_init 9 = .ok (.invokespecial 9, 3) := by decide +kernel
theorem dX6_init_12 : decode cX6_init 12 = .ok (.putfield 10, 3) := by decide +kernel
theorem dX6_init_15 : decode cX6_init 15 = .ok (.aload_n 0, 1) := by decide +kernel
theorem dX6_init_16 : decode cX6_init 16 = .ok (.new 16, 3) := by decide +kernel
theorem dX6_init_19 : decode cX6_init 19 = .ok (.dup, 1) := by decide +kernel
theorem dX6_init_20 : decode cX6_init 20 = .ok (.invokespecial 18, 3) := by decide +kernel
theorem dX6_init_23 : decode cX6_init 23 = .ok (.putfield 19, 3) := by decide +kernel
theorem dX6_init_26 : decode cX6_init 26 = .ok (.aload_n 0, 1) := by decide +kernel
theorem dX6_init_27 : decode cX6_init 27 = .ok (.new 16, 3) := by decide +kernel
theorem dX6_init_30 : decode cX6_init 30 = .ok (.dup, 1) := by decide +kernel
theorem dX6_init_31 : decode cX6_init 31 = .ok (.invokespecial 18, 3) := by decide +kernel
theorem dX6_init_34 : decode cX6_init 34 = .ok (.putfield 23, 3) := by decide +kernel
theorem dX6_init_37 : decode cX6_init 37 = .ok (.aload_n 0, 1) := by decide +kernel
theorem dX6_init_38 : decode cX6_init 38 = .ok (.new 26, 3) := by decide +kernel
theorem dX6_init_41 : decode cX6_init 41 = .ok (.dup, 1) := by decide +kernel
theorem dX6_init_42 : decode cX6_init 42 = .ok (.invokespecial 28, 3) := by decide +kernel
theorem dX6_init_45 : decode cX6_init 45 = .ok (.putfield 29, 3) := by decide +kernel
theorem dX6_init_48 : decode cX6_init 48 = .ok (.aload_n 0, 1) := by decide +kernel
theorem dX6_init_49 : decode cX6_init 49 = .ok (.new 26, 3) := by decide +kernel
theorem dX6_init_52 : decode cX6_init 52 = .ok (.dup, 1) := by decide +kernel
theorem dX6_init_53 : decode cX6_init 53 = .ok (.invokespecial 28, 3) := by decide +kernel
theorem dX6_init_56 : decode cX6_init 56 = .ok (.putfield 33, 3) := by decide +kernel
theorem dX6_init_59 : decode cX6_init 59 = .ok (.aload_n 0, 1) := by decide +kernel
theorem dX6_init_60 : decode cX6_init 60 = .ok (.bipush 6, 2) := by decide +kernel
theorem dX6_init_62 : decode cX6_init 62 = .ok (.newarray .int, 2) := by decide +kernel
theorem dX6_init_64 : decode cX6_init 64 = .ok (.putfield 36, 3) := by decide +kernel
theorem dX6_init_67 : decode cX6_init 67 = .ok (.aload_n 0, 1) := by decide +kernel
theorem dX6_init_68 : decode cX6_init 68 = .ok (.new 40, 3) := by decide +kernel
theorem dX6_init_71 : decode cX6_init 71 = .ok (.dup, 1) := by decide +kernel
theorem dX6_init_72 : decode cX6_init 72 = .ok (.invokespecial 42, 3) := by decide +kernel
theorem dX6_init_75 : decode cX6_init 75 = .ok (.putfield 43, 3) := by decide +kernel
theorem dX6_init_78 : decode cX6_init 78 = .ok (.aload_n 0, 1) := by decide +kernel
theorem dX6_init_79 : decode cX6_init 79 = .ok (.new 47, 3) := by decide +kernel
theorem dX6_init_82 : decode cX6_init 82 = .ok (.dup, 1) := by decide +kernel
theorem dX6_init_83 : decode cX6_init 83 = .ok (.invokespecial 49, 3) := by decide +kernel
theorem dX6_init_86 : decode cX6_init 86 = .ok (.putfield 50, 3) := by decide +kernel
theorem dX6_init_89 : decode cX6_init 89 = .ok (.aload_n 0, 1) := by decide +kernel
theorem dX6_init_90 : decode cX6_init 90 = .ok (.iconst 2, 1) := by decide +kernel
theorem dX6_init_91 : decode cX6_init 91 = .ok (.anewarray 26, 3) := by decide +kernel
theorem dX6_init_94 : decode cX6_init 94 = .ok (.dup, 1) := by decide +kernel
theorem dX6_init_95 : decode cX6_init 95 = .ok (.iconst 0, 1) := by decide +kernel
theorem dX6_init_96 : decode cX6_init 96 = .ok (.new 26, 3) := by decide +kernel
theorem dX6_init_99 : decode cX6_init 99 = .ok (.dup, 1) := by decide +kernel
theorem dX6_init_100 : decode cX6_init 100 = .ok (.invokespecial 28, 3) := by decide +kernel
theorem dX6_init_103 : decode cX6_init 103 = .ok (.aastore, 1) := by decide +kernel
theorem dX6_init_104 : decode cX6_init 104 = .ok (.dup, 1) := by decide +kernel
theorem dX6_init_105 : decode cX6_init 105 = .ok (.iconst 1, 1) := by decide +kernel
theorem dX6_init_106 : decode cX6_init 106 = .ok (.new 26, 3) := by decide +kernel
theorem dX6_init_109 : decode cX6_init 109 = .ok (.dup, 1) := by decide +kernel
theorem dX6_init_110 : decode cX6_init 110 = .ok (.invokespecial 28, 3) := by decide +kernel
theorem dX6_init_113 : decode cX6_init 113 = .ok (.aastore, 1) := by decide +kernel
theorem dX6_init_114 : decode cX6_init 114 = .ok (.putfield 54, 3) := by decide +kernel
theorem dX6_init_117 : decode cX6_init 117 = .ok (.aload_n 0, 1) := by decide +kernel
theorem dX6_init_118 : decode cX6_init 118 = .ok (.iconst 2, 1) := by decide +kernel
theorem dX6_init_119 : decode cX6_init 119 = .ok (.newarray .int, 2) := by decide +kernel
theorem dX6_init_121 : decode cX6_init 121 = .ok (.dup, 1) := by decide +kernel
theorem dX6_init_122 : decode cX6_init 122 = .ok (.iconst 0, 1) := by decide +kernel
theorem dX6_init_123 : decode cX6_init 123 = .ok (.iconst (-1), 1) := by decide +kernel
theorem dX6_init_124 : decode cX6_init 124 = .ok (.iastore, 1) := by decide +kernel
theorem dX6_init_125 : decode cX6_init 125 = .ok (.dup, 1) := by decide +kernel
theorem dX6_init_126 : decode cX6_init 126 = .ok (.iconst 1, 1) := by decide +kernel
theorem dX6_init_127 : decode cX6_init 127 = .ok (.iconst (-1), 1) := by decide +kernel
theorem dX6_init_128 : decode cX6_init 128 = .ok (.iastore, 1) := by decide +kernel
theorem dX6_init_129 : decode cX6_init 129 = .ok (.putfield 58, 3) := by decide +kernel
theorem dX6_init_132 : decode cX6_init 132 = .ok (.aload_n 0, 1) := by decide +kernel
theorem dX6_init_133 : decode cX6_init 133 = .ok (.iconst 0, 1) := by decide +kernel
theorem dX6_init_134 : decode cX6_init 134 = .ok (.putfield 61, 3) := by decide +kernel
theorem dX6_init_137 : decode cX6_init 137 = .ok (.aload_n 0, 1) := by decide +kernel
theorem dX6_init_138 : decode cX6_init 138 = .ok (.new 65, 3) := by decide +kernel
theorem dX6_init_141 : decode cX6_init 141 = .ok (.dup, 1) := by decide +kernel
theorem dX6_init_142 : decode cX6_init 142 = .ok (.bipush 6, 2) := by decide +kernel
theorem dX6_init_144 : decode cX6_init 144 = .ok (.invokespecial 67, 3) := by decide +kernel
theorem dX6_init_147 : decode cX6_init 147 = .ok (.putfield 70, 3) := by decide +kernel
theorem dX6_init_150 : decode cX6_init 150 = .ok (.aload_n 0, 1) := by decide +kernel
theorem dX6_init_151 : decode cX6_init 151 = .ok (.new 65, 3) := by decide +kernel
theorem dX6_init_154 : decode cX6_init 154 = .ok (.dup, 1) := by decide +kernel
theorem dX6_init_155 : decode cX6_init 155 = .ok (.bipush 20, 2) := by decide +kernel
theorem dX6_init_157 : decode cX6_init 157 = .ok (.invokespecial 67, 3) := by decide +kernel
theorem dX6_init_160 : decode cX6_init 160 = .ok (.putfield 74, 3) := by decide +kernel
theorem dX6_init_163 : decode cX6_init 163 = .ok (.aload_n 0, 1) := by decide +kernel
theorem dX6_init_164 : decode cX6_init 164 = .ok (.bipush 41, 2) := by decide +kernel
theorem dX6_init_166 : decode cX6_init 166 = .ok (.newarray .int, 2) := by decide +kernel
theorem dX6_init_168 : decode cX6_init 168 = .ok (.putfield 77, 3) := by decide +kernel
theorem dX6_init_171 : decode cX6_init 171 = .ok (.return_, 1) := by decide +kernel
theorem dX6_feed_0 : decode cX6_feed 0 = .ok (.iload_n 1, 1) := by decide +kernel
theorem dX6_feed_1 : decode cX6_feed 1 = .ok (.iconst 0, 1) := by decide +kernel
theorem dX6_feed_2 : decode cX6_feed 2 = .ok (.sipush 255, 3) := by decide +kernel
theorem dX6_feed_5 : decode cX6_feed 5 = .ok (.invokestatic 80, 3) := by decide +kernel
theorem dX6_feed_8 : decode cX6_feed 8 = .ok (.ifCond .ne 6, 3) := by decide +kernel
theorem dX6_feed_11 : decode cX6_feed 11 = .ok (.ldc 84, 2) := by decide +kernel
theorem dX6_feed_13 : decode cX6_feed 13 = .ok (.ireturn, 1) := by decide +kernel
theorem dX6_feed_14 : decode cX6_feed 14 = .ok (.aload_n 0, 1) := by decide +kernel
theorem dX6_feed_15 : decode cX6_feed 15 = .ok (.getfield 10, 3) := by decide +kernel
theorem dX6_feed_18 : decode cX6_feed 18 = .ok (.getfield 85, 3) := by decide +kernel
theorem dX6_feed_21 : decode cX6_feed 21 = .ok (.sipush 240, 3) := by decide +kernel
theorem dX6_feed_24 : decode cX6_feed 24 = .ok (.if_icmp .lt 6, 3) := by decide +kernel
theorem dX6_feed_27 : decode cX6_feed 27 = .ok (.ldc 88, 2) := by decide +kernel
theorem dX6_feed_29 : decode cX6_feed 29 = .ok (.ireturn, 1) := by decide +kernel
theorem dX6_feed_30 : decode cX6_feed 30 = .ok (.aload_n 0, 1) := by decide +kernel
theorem dX6_feed_31 : decode cX6_feed 31 = .ok (.getfield 10, 3) := by decide +kernel
theorem dX6_feed_34 : decode cX6_feed 34 = .ok (.iload_n 1, 1) := by decide +kernel
theorem dX6_feed_35 : decode cX6_feed 35 = .ok (.invokevirtual 89, 3) := by decide +kernel
theorem dX6_feed_38 : decode cX6_feed 38 = .ok (.ireturn, 1) := by decide +kernel
theorem dX6_coast_0 : decode cX6_coast 0 = .ok (.aload_n 0, 1) := by decide +kernel
theorem dX6_coast_1 : decode cX6_coast 1 = .ok (.getfield 10, 3) := by decide +kernel
theorem dX6_coast_4 : decode cX6_coast 4 = .ok (.aload_n 0, 1) := by decide +kernel
theorem dX6_coast_5 : decode cX6_coast 5 = .ok (.getfield 23, 3) := by decide +kernel
theorem dX6_coast_8 : decode cX6_coast 8 = .ok (.invokevirtual 93, 3) := by decide +kernel
theorem dX6_coast_11 : decode cX6_coast 11 = .ok (.istore_n 1, 1) := by decide +kernel
theorem dX6_coast_12 : decode cX6_coast 12 = .ok (.iload_n 1, 1) := by decide +kernel
theorem dX6_coast_13 : decode cX6_coast 13 = .ok (.ifCond .eq 8, 3) := by decide +kernel
theorem dX6_coast_16 : decode cX6_coast 16 = .ok (.bipush (-10), 2) := by decide +kernel
theorem dX6_coast_18 : decode cX6_coast 18 = .ok (.iload_n 1, 1) := by decide +kernel
theorem dX6_coast_19 : decode cX6_coast 19 = .ok (.isub, 1) := by decide +kernel
theorem dX6_coast_20 : decode cX6_coast 20 = .ok (.ireturn, 1) := by decide +kernel
theorem dX6_coast_21 : decode cX6_coast 21 = .ok (.aload_n 0, 1) := by decide +kernel
theorem dX6_coast_22 : decode cX6_coast 22 = .ok (.getfield 19, 3) := by decide +kernel
theorem dX6_coast_25 : decode cX6_coast 25 = .ok (.astore_n 2, 1) := by decide +kernel
theorem dX6_coast_26 : decode cX6_coast 26 = .ok (.aload_n 0, 1) := by decide +kernel
theorem dX6_coast_27 : decode cX6_coast 27 = .ok (.aload_n 0, 1) := by decide +kernel
theorem dX6_coast_28 : decode cX6_coast 28 = .ok (.getfield 23, 3) := by decide +kernel
theorem dX6_coast_31 : decode cX6_coast 31 = .ok (.putfield 19, 3) := by decide +kernel
theorem dX6_coast_34 : decode cX6_coast 34 = .ok (.aload_n 0, 1) := by decide +kernel
theorem dX6_coast_35 : decode cX6_coast 35 = .ok (.aload_n 2, 1) := by decide +kernel
theorem dX6_coast_36 : decode cX6_coast 36 = .ok (.putfield 23, 3) := by decide +kernel
theorem dX6_coast_39 : decode cX6_coast 39 = .ok (.aload_n 0, 1) := by decide +kernel
theorem dX6_coast_40 : decode cX6_coast 40 = .ok (.getfield 29, 3) := by decide +kernel
theorem dX6_coast_43 : decode cX6_coast 43 = .ok (.aload_n 0, 1) := by decide +kernel
theorem dX6_coast_44 : decode cX6_coast 44 = .ok (.getfield 19, 3) := by decide +kernel
theorem dX6_coast_47 : decode cX6_coast 47 = .ok (.invokevirtual 97, 3) := by decide +kernel
theorem dX6_coast_50 : decode cX6_coast 50 = .ok (.aload_n 0, 1) := by decide +kernel
theorem dX6_coast_51 : decode cX6_coast 51 = .ok (.getfield 50, 3) := by decide +kernel
theorem dX6_coast_54 : decode cX6_coast 54 = .ok (.iconst 0, 1) := by decide +kernel
theorem dX6_coast_55 : decode cX6_coast 55 = .ok (.putfield 101, 3) := by decide +kernel
theorem dX6_coast_58 : decode cX6_coast 58 = .ok (.aload_n 0, 1) := by decide +kernel
theorem dX6_coast_59 : decode cX6_coast 59 = .ok (.getfield 58, 3) := by decide +kernel
theorem dX6_coast_62 : decode cX6_coast 62 = .ok (.iconst 0, 1) := by decide +kernel
theorem dX6_coast_63 : decode cX6_coast 63 = .ok (.iconst (-1), 1) := by decide +kernel
theorem dX6_coast_64 : decode cX6_coast 64 = .ok (.iastore, 1) := by decide +kernel
theorem dX6_coast_65 : decode cX6_coast 65 = .ok (.aload_n 0, 1) := by decide +kernel
theorem dX6_coast_66 : decode cX6_coast 66 = .ok (.getfield 58, 3) := by decide +kernel
theorem dX6_coast_69 : decode cX6_coast 69 = .ok (.iconst 1, 1) := by decide +kernel
theorem dX6_coast_70 : decode cX6_coast 70 = .ok (.iconst (-1), 1) := by decide +kernel
theorem dX6_coast_71 : decode cX6_coast 71 = .ok (.iastore, 1) := by decide +kernel
theorem dX6_coast_72 : decode cX6_coast 72 = .ok (.aload_n 0, 1) := by decide +kernel
theorem dX6_coast_73 : decode cX6_coast 73 = .ok (.getfield 70, 3) := by decide +kernel
theorem dX6_coast_76 : decode cX6_coast 76 = .ok (.iconst 0, 1) := by decide +kernel
theorem dX6_coast_77 : decode cX6_coast 77 = .ok (.putfield 104, 3) := by decide +kernel
theorem dX6_coast_80 : decode cX6_coast 80 = .ok (.aload_n 0, 1) := by decide +kernel
theorem dX6_coast_81 : decode cX6_coast 81 = .ok (.getfield 74, 3) := by decide +kernel
theorem dX6_coast_84 : decode cX6_coast 84 = .ok (.iconst 0, 1) := by decide +kernel
theorem dX6_coast_85 : decode cX6_coast 85 = .ok (.putfield 104, 3) := by decide +kernel
theorem dX6_coast_88 : decode cX6_coast 88 = .ok (.aload_n 0, 1) := by decide +kernel
theorem dX6_coast_89 : decode cX6_coast 89 = .ok (.getfield 19, 3) := by decide +kernel
theorem dX6_coast_92 : decode cX6_coast 92 = .ok (.getfield 105, 3) := by decide +kernel
theorem dX6_coast_95 : decode cX6_coast 95 = .ok (.ireturn, 1) := by decide +kernel
theorem dX6_fault_0 : decode cX6_fault 0 = .ok (.aload_n 0, 1) := by decide +kernel
theorem dX6_fault_1 : decode cX6_fault 1 = .ok (.getfield 10, 3) := by decide +kernel
theorem dX6_fault_4 : decode cX6_fault 4 = .ok (.getfield 108, 3) := by decide +kernel
theorem dX6_fault_7 : decode cX6_fault 7 = .ok (.ireturn, 1) := by decide +kernel
theorem dX6_told_0 : decode cX6_told 0 = .ok (.iload_n 1, 1) := by decide +kernel
theorem dX6_told_1 : decode cX6_told 1 = .ok (.tableswitch 219 0 15 #[79, 87, 95, 103, 111, 119, 127, 135, 143, 159, 171, 179, 187, 195, 203, 211], 79) := by decide +kernel
theorem dX6_told_80 : decode cX6_told 80 = .ok (.aload_n 0, 1) := by decide +kernel
theorem dX6_told_81 : decode cX6_told 81 = .ok (.getfield 19, 3) := by decide +kernel
theorem dX6_told_84 : decode cX6_told 84 = .ok (.getfield 111, 3) := by decide +kernel
theorem dX6_told_87 : decode cX6_told 87 = .ok (.ireturn, 1) := by decide +kernel
theorem dX6_told_88 : decode cX6_told 88 = .ok (.aload_n 0, 1) := by decide +kernel
theorem dX6_told_89 : decode cX6_told 89 = .ok (.getfield 19, 3) := by decide +kernel
theorem dX6_told_92 : decode cX6_told 92 = .ok (.getfield 114, 3) := by decide +kernel
theorem dX6_told_95 : decode cX6_told 95 = .ok (.ireturn, 1) := by decide +kernel
theorem dX6_told_96 : decode cX6_told 96 = .ok (.aload_n 0, 1) := by decide +kernel
theorem dX6_told_97 : decode cX6_told 97 = .ok (.getfield 19, 3) := by decide +kernel
theorem dX6_told_100 : decode cX6_told 100 = .ok (.invokevirtual 117, 3) := by decide +kernel
theorem dX6_told_103 : decode cX6_told 103 = .ok (.ireturn, 1) := by decide +kernel
theorem dX6_told_104 : decode cX6_told 104 = .ok (.aload_n 0, 1) := by decide +kernel
theorem dX6_told_105 : decode cX6_told 105 = .ok (.getfield 19, 3) := by decide +kernel
