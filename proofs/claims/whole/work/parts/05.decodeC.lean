theorem dX0_init_0 : decode cX0_init 0 = .ok (.aload_n 0, 1) := by decide +kernel
theorem dX0_init_1 : decode cX0_init 1 = .ok (.invokespecial 5, 3) := by decide +kernel
theorem dX0_init_4 : decode cX0_init 4 = .ok (.aload_n 0, 1) := by decide +kernel
theorem dX0_init_5 : decode cX0_init 5 = .ok (.sipush 140, 3) := by decide +kernel
theorem dX0_init_8 : decode cX0_init 8 = .ok (.newarray .boolean, 2) := by decide +kernel
theorem dX0_init_10 : decode cX0_init 10 = .ok (.putfield 11, 3) := by decide +kernel
theorem dX0_init_13 : decode cX0_init 13 = .ok (.aload_n 0, 1) := by decide +kernel
theorem dX0_init_14 : decode cX0_init 14 = .ok (.sipush 140, 3) := by decide +kernel
theorem dX0_init_17 : decode cX0_init 17 = .ok (.newarray .int, 2) := by decide +kernel
theorem dX0_init_19 : decode cX0_init 19 = .ok (.putfield 15, 3) := by decide +kernel
theorem dX0_init_22 : decode cX0_init 22 = .ok (.aload_n 0, 1) := by decide +kernel
theorem dX0_init_23 : decode cX0_init 23 = .ok (.sipush 8400, 3) := by decide +kernel
theorem dX0_init_26 : decode cX0_init 26 = .ok (.newarray .int, 2) := by decide +kernel
theorem dX0_init_28 : decode cX0_init 28 = .ok (.putfield 19, 3) := by decide +kernel
theorem dX0_init_31 : decode cX0_init 31 = .ok (.aload_n 0, 1) := by decide +kernel
theorem dX0_init_32 : decode cX0_init 32 = .ok (.sipush 8400, 3) := by decide +kernel
theorem dX0_init_35 : decode cX0_init 35 = .ok (.newarray .int, 2) := by decide +kernel
theorem dX0_init_37 : decode cX0_init 37 = .ok (.putfield 22, 3) := by decide +kernel
theorem dX0_init_40 : decode cX0_init 40 = .ok (.aload_n 0, 1) := by decide +kernel
theorem dX0_init_41 : decode cX0_init 41 = .ok (.sipush 8400, 3) := by decide +kernel
theorem dX0_init_44 : decode cX0_init 44 = .ok (.newarray .int, 2) := by decide +kernel
theorem dX0_init_46 : decode cX0_init 46 = .ok (.putfield 25, 3) := by decide +kernel
theorem dX0_init_49 : decode cX0_init 49 = .ok (.aload_n 0, 1) := by decide +kernel
theorem dX0_init_50 : decode cX0_init 50 = .ok (.aload_n 1, 1) := by decide +kernel
theorem dX0_init_51 : decode cX0_init 51 = .ok (.putfield 28, 3) := by decide +kernel
theorem dX0_init_54 : decode cX0_init 54 = .ok (.aload_n 0, 1) := by decide +kernel
theorem dX0_init_55 : decode cX0_init 55 = .ok (.aload_n 2, 1) := by decide +kernel
theorem dX0_init_56 : decode cX0_init 56 = .ok (.putfield 32, 3) := by decide +kernel
theorem dX0_init_59 : decode cX0_init 59 = .ok (.aload_n 0, 1) := by decide +kernel
theorem dX0_init_60 : decode cX0_init 60 = .ok (.aload_n 3, 1) := by decide +kernel
theorem dX0_init_61 : decode cX0_init 61 = .ok (.putfield 36, 3) := by decide +kernel
theorem dX0_init_64 : decode cX0_init 64 = .ok (.return_, 1) := by decide +kernel
theorem dX0_forgetAll_0 : decode cX0_forgetAll 0 = .ok (.iconst 0, 1) := by decide +kernel
theorem dX0_forgetAll_1 : decode cX0_forgetAll 1 = .ok (.istore_n 1, 1) := by decide +kernel
theorem dX0_forgetAll_2 : decode cX0_forgetAll 2 = .ok (.iload_n 1, 1) := by decide +kernel
theorem dX0_forgetAll_3 : decode cX0_forgetAll 3 = .ok (.sipush 140, 3) := by decide +kernel
theorem dX0_forgetAll_6 : decode cX0_forgetAll 6 = .ok (.if_icmp .ge 16, 3) := by decide +kernel
theorem dX0_forgetAll_9 : decode cX0_forgetAll 9 = .ok (.aload_n 0, 1) := by decide +kernel
theorem dX0_forgetAll_10 : decode cX0_forgetAll 10 = .ok (.getfield 11, 3) := by decide +kernel
theorem dX0_forgetAll_13 : decode cX0_forgetAll 13 = .ok (.iload_n 1, 1) := by decide +kernel
theorem dX0_forgetAll_14 : decode cX0_forgetAll 14 = .ok (.iconst 0, 1) := by decide +kernel
theorem dX0_forgetAll_15 : decode cX0_forgetAll 15 = .ok (.bastore, 1) := by decide +kernel
theorem dX0_forgetAll_16 : decode cX0_forgetAll 16 = .ok (.iinc 1 1, 3) := by decide +kernel
theorem dX0_forgetAll_19 : decode cX0_forgetAll 19 = .ok (.goto (-17), 3) := by decide +kernel
theorem dX0_forgetAll_22 : decode cX0_forgetAll 22 = .ok (.return_, 1) := by decide +kernel
theorem dX0_lookAlone_0 : decode cX0_lookAlone 0 = .ok (.aload_n 0, 1) := by decide +kernel
theorem dX0_lookAlone_1 : decode cX0_lookAlone 1 = .ok (.getfield 11, 3) := by decide +kernel
theorem dX0_lookAlone_4 : decode cX0_lookAlone 4 = .ok (.iload_n 1, 1) := by decide +kernel
theorem dX0_lookAlone_5 : decode cX0_lookAlone 5 = .ok (.baload, 1) := by decide +kernel
theorem dX0_lookAlone_6 : decode cX0_lookAlone 6 = .ok (.ifCond .ne 44, 3) := by decide +kernel
theorem dX0_lookAlone_9 : decode cX0_lookAlone 9 = .ok (.aload_n 0, 1) := by decide +kernel
theorem dX0_lookAlone_10 : decode cX0_lookAlone 10 = .ok (.getfield 28, 3) := by decide +kernel
theorem dX0_lookAlone_13 : decode cX0_lookAlone 13 = .ok (.getfield 39, 3) := by decide +kernel
theorem dX0_lookAlone_16 : decode cX0_lookAlone 16 = .ok (.aload_n 0, 1) := by decide +kernel
theorem dX0_lookAlone_17 : decode cX0_lookAlone 17 = .ok (.getfield 32, 3) := by decide +kernel
theorem dX0_lookAlone_20 : decode cX0_lookAlone 20 = .ok (.getfield 45, 3) := by decide +kernel
theorem dX0_lookAlone_23 : decode cX0_lookAlone 23 = .ok (.iload_n 1, 1) := by decide +kernel
theorem dX0_lookAlone_24 : decode cX0_lookAlone 24 = .ok (.iaload, 1) := by decide +kernel
theorem dX0_lookAlone_25 : decode cX0_lookAlone 25 = .ok (.aload_n 0, 1) := by decide +kernel
theorem dX0_lookAlone_26 : decode cX0_lookAlone 26 = .ok (.getfield 32, 3) := by decide +kernel
theorem dX0_lookAlone_29 : decode cX0_lookAlone 29 = .ok (.iload_n 1, 1) := by decide +kernel
theorem dX0_lookAlone_30 : decode cX0_lookAlone 30 = .ok (.invokevirtual 50, 3) := by decide +kernel
theorem dX0_lookAlone_33 : decode cX0_lookAlone 33 = .ok (.invokevirtual 54, 3) := by decide +kernel
theorem dX0_lookAlone_36 : decode cX0_lookAlone 36 = .ok (.aload_n 0, 1) := by decide +kernel
theorem dX0_lookAlone_37 : decode cX0_lookAlone 37 = .ok (.getfield 28, 3) := by decide +kernel
theorem dX0_lookAlone_40 : decode cX0_lookAlone 40 = .ok (.bipush 60, 2) := by decide +kernel
theorem dX0_lookAlone_42 : decode cX0_lookAlone 42 = .ok (.invokevirtual 60, 3) := by decide +kernel
theorem dX0_lookAlone_45 : decode cX0_lookAlone 45 = .ok (.aload_n 0, 1) := by decide +kernel
theorem dX0_lookAlone_46 : decode cX0_lookAlone 46 = .ok (.iload_n 1, 1) := by decide +kernel
theorem dX0_lookAlone_47 : decode cX0_lookAlone 47 = .ok (.invokevirtual 64, 3) := by decide +kernel
theorem dX0_lookAlone_50 : decode cX0_lookAlone 50 = .ok (.return_, 1) := by decide +kernel
theorem dX0_lookSurely_0 : decode cX0_lookSurely 0 = .ok (.aload_n 0, 1) := by decide +kernel
theorem dX0_lookSurely_1 : decode cX0_lookSurely 1 = .ok (.getfield 11, 3) := by decide +kernel
theorem dX0_lookSurely_4 : decode cX0_lookSurely 4 = .ok (.bipush 80, 2) := by decide +kernel
theorem dX0_lookSurely_6 : decode cX0_lookSurely 6 = .ok (.iload_n 1, 1) := by decide +kernel
theorem dX0_lookSurely_7 : decode cX0_lookSurely 7 = .ok (.iadd, 1) := by decide +kernel
theorem dX0_lookSurely_8 : decode cX0_lookSurely 8 = .ok (.baload, 1) := by decide +kernel
theorem dX0_lookSurely_9 : decode cX0_lookSurely 9 = .ok (.ifCond .ne 31, 3) := by decide +kernel
theorem dX0_lookSurely_12 : decode cX0_lookSurely 12 = .ok (.aload_n 0, 1) := by decide +kernel
theorem dX0_lookSurely_13 : decode cX0_lookSurely 13 = .ok (.getfield 28, 3) := by decide +kernel
theorem dX0_lookSurely_16 : decode cX0_lookSurely 16 = .ok (.getfield 39, 3) := by decide +kernel
theorem dX0_lookSurely_19 : decode cX0_lookSurely 19 = .ok (.iload_n 1, 1) := by decide +kernel
theorem dX0_lookSurely_20 : decode cX0_lookSurely 20 = .ok (.invokevirtual 67, 3) := by decide +kernel
theorem dX0_lookSurely_23 : decode cX0_lookSurely 23 = .ok (.aload_n 0, 1) := by decide +kernel
theorem dX0_lookSurely_24 : decode cX0_lookSurely 24 = .ok (.getfield 28, 3) := by decide +kernel
theorem dX0_lookSurely_27 : decode cX0_lookSurely 27 = .ok (.bipush 60, 2) := by decide +kernel
theorem dX0_lookSurely_29 : decode cX0_lookSurely 29 = .ok (.invokevirtual 60, 3) := by decide +kernel
theorem dX0_lookSurely_32 : decode cX0_lookSurely 32 = .ok (.aload_n 0, 1) := by decide +kernel
theorem dX0_lookSurely_33 : decode cX0_lookSurely 33 = .ok (.bipush 80, 2) := by decide +kernel
theorem dX0_lookSurely_35 : decode cX0_lookSurely 35 = .ok (.iload_n 1, 1) := by decide +kernel
theorem dX0_lookSurely_36 : decode cX0_lookSurely 36 = .ok (.iadd, 1) := by decide +kernel
theorem dX0_lookSurely_37 : decode cX0_lookSurely 37 = .ok (.invokevirtual 64, 3) := by decide +kernel
theorem dX0_lookSurely_40 : decode cX0_lookSurely 40 = .ok (.return_, 1) := by decide +kernel
theorem dX0_lookJoined_0 : decode cX0_lookJoined 0 = .ok (.aload_n 0, 1) := by decide +kernel
theorem dX0_lookJoined_1 : decode cX0_lookJoined 1 = .ok (.getfield 11, 3) := by decide +kernel
theorem dX0_lookJoined_4 : decode cX0_lookJoined 4 = .ok (.bipush 40, 2) := by decide +kernel
theorem dX0_lookJoined_6 : decode cX0_lookJoined 6 = .ok (.iload_n 1, 1) := by decide +kernel
theorem dX0_lookJoined_7 : decode cX0_lookJoined 7 = .ok (.iadd, 1) := by decide +kernel
theorem dX0_lookJoined_8 : decode cX0_lookJoined 8 = .ok (.baload, 1) := by decide +kernel
theorem dX0_lookJoined_9 : decode cX0_lookJoined 9 = .ok (.ifCond .ne 43, 3) := by decide +kernel
theorem dX0_lookJoined_12 : decode cX0_lookJoined 12 = .ok (.aload_n 0, 1) := by decide +kernel
theorem dX0_lookJoined_13 : decode cX0_lookJoined 13 = .ok (.getfield 28, 3) := by decide +kernel
theorem dX0_lookJoined_16 : decode cX0_lookJoined 16 = .ok (.getfield 39, 3) := by decide +kernel
theorem dX0_lookJoined_19 : decode cX0_lookJoined 19 = .ok (.aload_n 0, 1) := by decide +kernel
theorem dX0_lookJoined_20 : decode cX0_lookJoined 20 = .ok (.getfield 32, 3) := by decide +kernel
theorem dX0_lookJoined_23 : decode cX0_lookJoined 23 = .ok (.getfield 45, 3) := by decide +kernel
theorem dX0_lookJoined_26 : decode cX0_lookJoined 26 = .ok (.iload_n 1, 1) := by decide +kernel
theorem dX0_lookJoined_27 : decode cX0_lookJoined 27 = .ok (.iaload, 1) := by decide +kernel
theorem dX0_lookJoined_28 : decode cX0_lookJoined 28 = .ok (.aload_n 0, 1) := by decide +kernel
theorem dX0_lookJoined_29 : decode cX0_lookJoined 29 = .ok (.iload_n 1, 1) := by decide +kernel
theorem dX0_lookJoined_30 : decode cX0_lookJoined 30 = .ok (.invokevirtual 70, 3) := by decide +kernel
theorem dX0_lookJoined_33 : decode cX0_lookJoined 33 = .ok (.invokevirtual 54, 3) := by decide +kernel
theorem dX0_lookJoined_36 : decode cX0_lookJoined 36 = .ok (.aload_n 0, 1) := by decide +kernel
theorem dX0_lookJoined_37 : decode cX0_lookJoined 37 = .ok (.getfield 28, 3) := by decide +kernel
theorem dX0_lookJoined_40 : decode cX0_lookJoined 40 = .ok (.iconst 1, 1) := by decide +kernel
theorem dX0_lookJoined_41 : decode cX0_lookJoined 41 = .ok (.invokevirtual 60, 3) := by decide +kernel
theorem dX0_lookJoined_44 : decode cX0_lookJoined 44 = .ok (.aload_n 0, 1) := by decide +kernel
theorem dX0_lookJoined_45 : decode cX0_lookJoined 45 = .ok (.bipush 40, 2) := by decide +kernel
theorem dX0_lookJoined_47 : decode cX0_lookJoined 47 = .ok (.iload_n 1, 1) := by decide +kernel
theorem dX0_lookJoined_48 : decode cX0_lookJoined 48 = .ok (.iadd, 1) := by decide +kernel
theorem dX0_lookJoined_49 : decode cX0_lookJoined 49 = .ok (.invokevirtual 64, 3) := by decide +kernel
theorem dX0_lookJoined_52 : decode cX0_lookJoined 52 = .ok (.return_, 1) := by decide +kernel
theorem dX0_keep_0 : decode cX0_keep 0 = .ok (.aload_n 0, 1) := by decide +kernel
theorem dX0_keep_1 : decode cX0_keep 1 = .ok (.getfield 11, 3) := by decide +kernel
theorem dX0_keep_4 : decode cX0_keep 4 = .ok (.iload_n 1, 1) := by decide +kernel
theorem dX0_keep_5 : decode cX0_keep 5 = .ok (.iconst 1, 1) := by decide +kernel
theorem dX0_keep_6 : decode cX0_keep 6 = .ok (.bastore, 1) := by decide +kernel
theorem dX0_keep_7 : decode cX0_keep 7 = .ok (.aload_n 0, 1) := by decide +kernel
theorem dX0_keep_8 : decode cX0_keep 8 = .ok (.getfield 15, 3) := by decide +kernel
theorem dX0_keep_11 : decode cX0_keep 11 = .ok (.iload_n 1, 1) := by decide +kernel
theorem dX0_keep_12 : decode cX0_keep 12 = .ok (.aload_n 0, 1) := by decide +kernel
theorem dX0_keep_13 : decode cX0_keep 13 = .ok (.getfield 28, 3) := by decide +kernel
theorem dX0_keep_16 : decode cX0_keep 16 = .ok (.getfield 73, 3) := by decide +kernel
theorem dX0_keep_19 : decode cX0_keep 19 = .ok (.iastore, 1) := by decide +kernel
theorem dX0_keep_20 : decode cX0_keep 20 = .ok (.iconst 0, 1) := by decide +kernel
theorem dX0_keep_21 : decode cX0_keep 21 = .ok (.istore_n 2, 1) := by decide +kernel
theorem dX0_keep_22 : decode cX0_keep 22 = .ok (.iload_n 2, 1) := by decide +kernel
theorem dX0_keep_23 : decode cX0_keep 23 = .ok (.aload_n 0, 1) := by decide +kernel
theorem dX0_keep_24 : decode cX0_keep 24 = .ok (.getfield 28, 3) := by decide +kernel
theorem dX0_keep_27 : decode cX0_keep 27 = .ok (.getfield 73, 3) := by decide +kernel
theorem dX0_keep_30 : decode cX0_keep 30 = .ok (.if_icmp .ge 69, 3) := by decide +kernel
theorem dX0_keep_33 : decode cX0_keep 33 = .ok (.aload_n 0, 1) := by decide +kernel
theorem dX0_keep_34 : decode cX0_keep 34 = .ok (.getfield 19, 3) := by decide +kernel
theorem dX0_keep_37 : decode cX0_keep 37 = .ok (.iload_n 1, 1) := by decide +kernel
theorem dX0_keep_38 : decode cX0_keep 38 = .ok (.bipush 60, 2) := by decide +kernel
theorem dX0_keep_40 : decode cX0_keep 40 = .ok (.imul, 1) := by decide +kernel
theorem dX0_keep_41 : decode cX0_keep 41 = .ok (.iload_n 2, 1) := by decide +kernel
theorem dX0_keep_42 : decode cX0_keep 42 = .ok (.iadd, 1) := by decide +kernel
theorem dX0_keep_43 : decode cX0_keep 43 = .ok (.aload_n 0, 1) := by decide +kernel
theorem dX0_keep_44 : decode cX0_keep 44 = .ok (.getfield 28, 3) := by decide +kernel
theorem dX0_keep_47 : decode cX0_keep 47 = .ok (.getfield 77, 3) := by decide +kernel
theorem dX0_keep_50 : decode cX0_keep 50 = .ok (.iload_n 2, 1) := by decide +kernel
theorem dX0_keep_51 : decode cX0_keep 51 = .ok (.iaload, 1) := by decide +kernel
theorem dX0_keep_52 : decode cX0_keep 52 = .ok (.iastore, 1) := by decide +kernel
theorem dX0_keep_53 : decode cX0_keep 53 = .ok (.aload_n 0, 1) := by decide +kernel
theorem dX0_keep_54 : decode cX0_keep 54 = .ok (.getfield 22, 3) := by decide +kernel
theorem dX0_keep_57 : decode cX0_keep 57 = .ok (.iload_n 1, 1) := by decide +kernel
theorem dX0_keep_58 : decode cX0_keep 58 = .ok (.bipush 60, 2) := by decide +kernel
theorem dX0_keep_60 : decode cX0_keep 60 = .ok (.imul, 1) := by decide +kernel
theorem dX0_keep_61 : decode cX0_keep 61 = .ok (.iload_n 2, 1) := by decide +kernel
theorem dX0_keep_62 : decode cX0_keep 62 = .ok (.iadd, 1) := by decide +kernel
theorem dX0_keep_63 : decode cX0_keep 63 = .ok (.aload_n 0, 1) := by decide +kernel
theorem dX0_keep_64 : decode cX0_keep 64 = .ok (.getfield 28, 3) := by decide +kernel
theorem dX0_keep_67 : decode cX0_keep 67 = .ok (.getfield 78, 3) := by decide +kernel
theorem dX0_keep_70 : decode cX0_keep 70 = .ok (.iload_n 2, 1) := by decide +kernel
theorem dX0_keep_71 : decode cX0_keep 71 = .ok (.iaload, 1) := by decide +kernel
theorem dX0_keep_72 : decode cX0_keep 72 = .ok (.iastore, 1) := by decide +kernel
theorem dX0_keep_73 : decode cX0_keep 73 = .ok (.aload_n 0, 1) := by decide +kernel
theorem dX0_keep_74 : decode cX0_keep 74 = .ok (.getfield 25, 3) := by decide +kernel
theorem dX0_keep_77 : decode cX0_keep 77 = .ok (.iload_n 1, 1) := by decide +kernel
theorem dX0_keep_78 : decode cX0_keep 78 = .ok (.bipush 60, 2) := by decide +kernel
theorem dX0_keep_80 : decode cX0_keep 80 = .ok (.imul, 1) := by decide +kernel
theorem dX0_keep_81 : decode cX0_keep 81 = .ok (.iload_n 2, 1) := by decide +kernel
theorem dX0_keep_82 : decode cX0_keep 82 = .ok (.iadd, 1) := by decide +kernel
theorem dX0_keep_83 : decode cX0_keep 83 = .ok (.aload_n 0, 1) := by decide +kernel
theorem dX0_keep_84 : decode cX0_keep 84 = .ok (.getfield 28, 3) := by decide +kernel
theorem dX0_keep_87 : decode cX0_keep 87 = .ok (.getfield 79, 3) := by decide +kernel
theorem dX0_keep_90 : decode cX0_keep 90 = .ok (.iload_n 2, 1) := by decide +kernel
theorem dX0_keep_91 : decode cX0_keep 91 = .ok (.iaload, 1) := by decide +kernel
theorem dX0_keep_92 : decode cX0_keep 92 = .ok (.iastore, 1) := by decide +kernel
theorem dX0_keep_93 : decode cX0_keep 93 = .ok (.iinc 2 1, 3) := by decide +kernel
theorem dX0_keep_96 : decode cX0_keep 96 = .ok (.goto (-74), 3) := by decide +kernel
theorem dX0_keep_99 : decode cX0_keep 99 = .ok (.return_, 1) := by decide +kernel
theorem dX0_wordOf_0 : decode cX0_wordOf 0 = .ok (.iload_n 2, 1) := by decide +kernel
theorem dX0_wordOf_1 : decode cX0_wordOf 1 = .ok (.ifCond .lt 27, 3) := by decide +kernel
theorem dX0_wordOf_4 : decode cX0_wordOf 4 = .ok (.iload_n 2, 1) := by decide +kernel
theorem dX0_wordOf_5 : decode cX0_wordOf 5 = .ok (.aload_n 0, 1) := by decide +kernel
theorem dX0_wordOf_6 : decode cX0_wordOf 6 = .ok (.getfield 15, 3) := by decide +kernel
theorem dX0_wordOf_9 : decode cX0_wordOf 9 = .ok (.iload_n 1, 1) := by decide +kernel
theorem dX0_wordOf_10 : decode cX0_wordOf 10 = .ok (.iaload, 1) := by decide +kernel
theorem dX0_wordOf_11 : decode cX0_wordOf 11 = .ok (.if_icmp .ge 17, 3) := by decide +kernel
theorem dX0_wordOf_14 : decode cX0_wordOf 14 = .ok (.aload_n 0, 1) := by decide +kernel
theorem dX0_wordOf_15 : decode cX0_wordOf 15 = .ok (.getfield 19, 3) := by decide +kernel
theorem dX0_wordOf_18 : decode cX0_wordOf 18 = .ok (.iload_n 1, 1) := by decide +kernel
theorem dX0_wordOf_19 : decode cX0_wordOf 19 = .ok (.bipush 60, 2) := by decide +kernel
theorem dX0_wordOf_21 : decode cX0_wordOf 21 = .ok (.imul, 1) := by decide +kernel
theorem dX0_wordOf_22 : decode cX0_wordOf 22 = .ok (.iload_n 2, 1) := by decide +kernel
theorem dX0_wordOf_23 : decode cX0_wordOf 23 = .ok (.iadd, 1) := by decide +kernel
theorem dX0_wordOf_24 : decode cX0_wordOf 24 = .ok (.iaload, 1) := by decide +kernel
theorem dX0_wordOf_25 : decode cX0_wordOf 25 = .ok (.goto 4, 3) := by decide +kernel
theorem dX0_wordOf_28 : decode cX0_wordOf 28 = .ok (.iconst (-1), 1) := by decide +kernel
theorem dX0_wordOf_29 : decode cX0_wordOf 29 = .ok (.ireturn, 1) := by decide +kernel
theorem dX0_priceOf_0 : decode cX0_priceOf 0 = .ok (.iload_n 2, 1) := by decide +kernel
theorem dX0_priceOf_1 : decode cX0_priceOf 1 = .ok (.ifCond .lt 27, 3) := by decide +kernel
theorem dX0_priceOf_4 : decode cX0_priceOf 4 = .ok (.iload_n 2, 1) := by decide +kernel
theorem dX0_priceOf_5 : decode cX0_priceOf 5 = .ok (.aload_n 0, 1) := by decide +kernel
theorem dX0_priceOf_6 : decode cX0_priceOf 6 = .ok (.getfield 15, 3) := by decide +kernel
theorem dX0_priceOf_9 : decode cX0_priceOf 9 = .ok (.iload_n 1, 1) := by decide +kernel
theorem dX0_priceOf_10 : decode cX0_priceOf 10 = .ok (.iaload, 1) := by decide +kernel
theorem dX0_priceOf_11 : decode cX0_priceOf 11 = .ok (.if_icmp .ge 17, 3) := by decide +kernel
theorem dX0_priceOf_14 : decode cX0_priceOf 14 = .ok (.aload_n 0, 1) := by decide +kernel
theorem dX0_priceOf_15 : decode cX0_priceOf 15 = .ok (.getfield 22, 3) := by decide +kernel
theorem dX0_priceOf_18 : decode cX0_priceOf 18 = .ok (.iload_n 1, 1) := by decide +kernel
theorem dX0_priceOf_19 : decode cX0_priceOf 19 = .ok (.bipush 60, 2) := by decide +kernel
theorem dX0_priceOf_21 : decode cX0_priceOf 21 = .ok (.imul, 1) := by decide +kernel
theorem dX0_priceOf_22 : decode cX0_priceOf 22 = .ok (.iload_n 2, 1) := by decide +kernel
theorem dX0_priceOf_23 : decode cX0_priceOf 23 = .ok (.iadd, 1) := by decide +kernel
theorem dX0_priceOf_24 : decode cX0_priceOf 24 = .ok (.iaload, 1) := by decide +kernel
theorem dX0_priceOf_25 : decode cX0_priceOf 25 = .ok (.goto 4, 3) := by decide +kernel
theorem dX0_priceOf_28 : decode cX0_priceOf 28 = .ok (.iconst (-1), 1) := by decide +kernel
theorem dX0_priceOf_29 : decode cX0_priceOf 29 = .ok (.ireturn, 1) := by decide +kernel
theorem dX0_openedFor_0 : decode cX0_openedFor 0 = .ok (.iload_n 2, 1) := by decide +kernel
theorem dX0_openedFor_1 : decode cX0_openedFor 1 = .ok (.ifCond .lt 27, 3) := by decide +kernel
theorem dX0_openedFor_4 : decode cX0_openedFor 4 = .ok (.iload_n 2, 1) := by decide +kernel
theorem dX0_openedFor_5 : decode cX0_openedFor 5 = .ok (.aload_n 0, 1) := by decide +kernel
theorem dX0_openedFor_6 : decode cX0_openedFor 6 = .ok (.getfield 15, 3) := by decide +kernel
theorem dX0_openedFor_9 : decode cX0_openedFor 9 = .ok (.iload_n 1, 1) := by decide +kernel
theorem dX0_openedFor_10 : decode cX0_openedFor 10 = .ok (.iaload, 1) := by decide +kernel
theorem dX0_openedFor_11 : decode cX0_openedFor 11 = .ok (.if_icmp .ge 17, 3) := by decide +kernel
theorem dX0_openedFor_14 : decode cX0_openedFor 14 = .ok (.aload_n 0, 1) := by decide +kernel
theorem dX0_openedFor_15 : decode cX0_openedFor 15 = .ok (.getfield 25, 3) := by decide +kernel
theorem dX0_openedFor_18 : decode cX0_openedFor 18 = .ok (.iload_n 1, 1) := by decide +kernel
theorem dX0_openedFor_19 : decode cX0_openedFor 19 = .ok (.bipush 60, 2) := by decide +kernel
theorem dX0_openedFor_21 : decode cX0_openedFor 21 = .ok (.imul, 1) := by decide +kernel
theorem dX0_openedFor_22 : decode cX0_openedFor 22 = .ok (.iload_n 2, 1) := by decide +kernel
theorem dX0_openedFor_23 : decode cX0_openedFor 23 = .ok (.iadd, 1) := by decide +kernel
theorem dX0_openedFor_24 : decode cX0_openedFor 24 = .ok (.iaload, 1) := by decide +kernel
theorem dX0_openedFor_25 : decode cX0_openedFor 25 = .ok (.goto 4, 3) := by decide +kernel
theorem dX0_openedFor_28 : decode cX0_openedFor 28 = .ok (.iconst (-1), 1) := by decide +kernel
theorem dX0_openedFor_29 : decode cX0_openedFor 29 = .ok (.ireturn, 1) := by decide +kernel
theorem dX0_priceFor_0 : decode cX0_priceFor 0 = .ok (.iconst 0, 1) := by decide +kernel
theorem dX0_priceFor_1 : decode cX0_priceFor 1 = .ok (.istore_n 3, 1) := by decide +kernel
theorem dX0_priceFor_2 : decode cX0_priceFor 2 = .ok (.iload_n 3, 1) := by decide +kernel
theorem dX0_priceFor_3 : decode cX0_priceFor 3 = .ok (.aload_n 0, 1) := by decide +kernel
theorem dX0_priceFor_4 : decode cX0_priceFor 4 = .ok (.getfield 15, 3) := by decide +kernel
theorem dX0_priceFor_7 : decode cX0_priceFor 7 = .ok (.iload_n 1, 1) := by decide +kernel
theorem dX0_priceFor_8 : decode cX0_priceFor 8 = .ok (.iaload, 1) := by decide +kernel
theorem dX0_priceFor_9 : decode cX0_priceFor 9 = .ok (.if_icmp .ge 36, 3) := by decide +kernel
theorem dX0_priceFor_12 : decode cX0_priceFor 12 = .ok (.aload_n 0, 1) := by decide +kernel
theorem dX0_priceFor_13 : decode cX0_priceFor 13 = .ok (.getfield 19, 3) := by decide +kernel
theorem dX0_priceFor_16 : decode cX0_priceFor 16 = .ok (.iload_n 1, 1) := by decide +kernel
theorem dX0_priceFor_17 : decode cX0_priceFor 17 = .ok (.bipush 60, 2) := by decide +kernel
theorem dX0_priceFor_19 : decode cX0_priceFor 19 = .ok (.imul, 1) := by decide +kernel
theorem dX0_priceFor_20 : decode cX0_priceFor 20 = .ok (.iload_n 3, 1) := by decide +kernel
theorem dX0_priceFor_21 : decode cX0_priceFor 21 = .ok (.iadd, 1) := by decide +kernel
theorem dX0_priceFor_22 : decode cX0_priceFor 22 = .ok (.iaload, 1) := by decide +kernel
theorem dX0_priceFor_23 : decode cX0_priceFor 23 = .ok (.iload_n 2, 1) := by decide +kernel
theorem dX0_priceFor_24 : decode cX0_priceFor 24 = .ok (.if_icmp .ne 15, 3) := by decide +kernel
theorem dX0_priceFor_27 : decode cX0_priceFor 27 = .ok (.aload_n 0, 1) := by decide +kernel
theorem dX0_priceFor_28 : decode cX0_priceFor 28 = .ok (.getfield 22, 3) := by decide +kernel
theorem dX0_priceFor_31 : decode cX0_priceFor 31 = .ok (.iload_n 1, 1) := by decide +kernel
theorem dX0_priceFor_32 : decode cX0_priceFor 32 = .ok (.bipush 60, 2) := by decide +kernel
theorem dX0_priceFor_34 : decode cX0_priceFor 34 = .ok (.imul, 1) := by decide +kernel
theorem dX0_priceFor_35 : decode cX0_priceFor 35 = .ok (.iload_n 3, 1) := by decide +kernel
theorem dX0_priceFor_36 : decode cX0_priceFor 36 = .ok (.iadd, 1) := by decide +kernel
theorem dX0_priceFor_37 : decode cX0_priceFor 37 = .ok (.iaload, 1) := by decide +kernel
theorem dX0_priceFor_38 : decode cX0_priceFor 38 = .ok (.ireturn, 1) := by decide +kernel
theorem dX0_priceFor_39 : decode cX0_priceFor 39 = .ok (.iinc 3 1, 3) := by decide +kernel
theorem dX0_priceFor_42 : decode cX0_priceFor 42 = .ok (.goto (-40), 3) := by decide +kernel
theorem dX0_priceFor_45 : decode cX0_priceFor 45 = .ok (.iconst (-1), 1) := by decide +kernel
theorem dX0_priceFor_46 : decode cX0_priceFor 46 = .ok (.ireturn, 1) := by decide +kernel
theorem dX0_outsidePrice_0 : decode cX0_outsidePrice 0 = .ok (.aload_n 0, 1) := by decide +kernel
theorem dX0_outsidePrice_1 : decode cX0_outsidePrice 1 = .ok (.getfield 36, 3) := by decide +kernel
theorem dX0_outsidePrice_4 : decode cX0_outsidePrice 4 = .ok (.iconst 0, 1) := by decide +kernel
theorem dX0_outsidePrice_5 : decode cX0_outsidePrice 5 = .ok (.iaload, 1) := by decide +kernel
theorem dX0_outsidePrice_6 : decode cX0_outsidePrice 6 = .ok (.aload_n 0, 1) := by decide +kernel
theorem dX0_outsidePrice_7 : decode cX0_outsidePrice 7 = .ok (.getfield 36, 3) := by decide +kernel
theorem dX0_outsidePrice_10 : decode cX0_outsidePrice 10 = .ok (.iconst 1, 1) := by decide +kernel
theorem dX0_outsidePrice_11 : decode cX0_outsidePrice 11 = .ok (.iaload, 1) := by decide +kernel
theorem dX0_outsidePrice_12 : decode cX0_outsidePrice 12 = .ok (.aload_n 0, 1) := by decide +kernel
theorem dX0_outsidePrice_13 : decode cX0_outsidePrice 13 = .ok (.getfield 32, 3) := by decide +kernel
theorem dX0_outsidePrice_16 : decode cX0_outsidePrice 16 = .ok (.iload_n 1, 1) := by decide +kernel
theorem dX0_outsidePrice_17 : decode cX0_outsidePrice 17 = .ok (.invokevirtual 50, 3) := by decide +kernel
theorem dX0_outsidePrice_20 : decode cX0_outsidePrice 20 = .ok (.imul, 1) := by decide +kernel
theorem dX0_outsidePrice_21 : decode cX0_outsidePrice 21 = .ok (.iadd, 1) := by decide +kernel
theorem dX0_outsidePrice_22 : decode cX0_outsidePrice 22 = .ok (.ireturn, 1) := by decide +kernel
theorem dX0_wordInside_0 : decode cX0_wordInside 0 = .ok (.aload_n 0, 1) := by decide +kernel
theorem dX0_wordInside_1 : decode cX0_wordInside 1 = .ok (.iload_n 1, 1) := by decide +kernel
theorem dX0_wordInside_2 : decode cX0_wordInside 2 = .ok (.iload_n 2, 1) := by decide +kernel
theorem dX0_wordInside_3 : decode cX0_wordInside 3 = .ok (.invokevirtual 82, 3) := by decide +kernel
theorem dX0_wordInside_6 : decode cX0_wordInside 6 = .ok (.aload_n 0, 1) := by decide +kernel
theorem dX0_wordInside_7 : decode cX0_wordInside 7 = .ok (.iload_n 1, 1) := by decide +kernel
theorem dX0_wordInside_8 : decode cX0_wordInside 8 = .ok (.invokevirtual 86, 3) := by decide +kernel
theorem dX0_wordInside_11 : decode cX0_wordInside 11 = .ok (.if_icmp .gt 12, 3) := by decide +kernel
theorem dX0_wordInside_14 : decode cX0_wordInside 14 = .ok (.aload_n 0, 1) := by decide +kernel
theorem dX0_wordInside_15 : decode cX0_wordInside 15 = .ok (.iload_n 1, 1) := by decide +kernel
theorem dX0_wordInside_16 : decode cX0_wordInside 16 = .ok (.iload_n 2, 1) := by decide +kernel
theorem dX0_wordInside_17 : decode cX0_wordInside 17 = .ok (.invokevirtual 89, 3) := by decide +kernel
theorem dX0_wordInside_20 : decode cX0_wordInside 20 = .ok (.goto 4, 3) := by decide +kernel
theorem dX0_wordInside_23 : decode cX0_wordInside 23 = .ok (.iconst (-1), 1) := by decide +kernel
theorem dX0_wordInside_24 : decode cX0_wordInside 24 = .ok (.ireturn, 1) := by decide +kernel
theorem dX0_mendedWord_0 : decode cX0_mendedWord 0 = .ok (.aload_n 0, 1) := by decide +kernel
theorem dX0_mendedWord_1 : decode cX0_mendedWord 1 = .ok (.iload_n 1, 1) := by decide +kernel
theorem dX0_mendedWord_2 : decode cX0_mendedWord 2 = .ok (.iconst 0, 1) := by decide +kernel
theorem dX0_mendedWord_3 : decode cX0_mendedWord 3 = .ok (.invokevirtual 92, 3) := by decide +kernel
theorem dX0_mendedWord_6 : decode cX0_mendedWord 6 = .ok (.ireturn, 1) := by decide +kernel
theorem dX0_mendedPrice_0 : decode cX0_mendedPrice 0 = .ok (.aload_n 0, 1) := by decide +kernel
theorem dX0_mendedPrice_1 : decode cX0_mendedPrice 1 = .ok (.iload_n 1, 1) := by decide +kernel
theorem dX0_mendedPrice_2 : decode cX0_mendedPrice 2 = .ok (.invokevirtual 95, 3) := by decide +kernel
theorem dX0_mendedPrice_5 : decode cX0_mendedPrice 5 = .ok (.iconst (-1), 1) := by decide +kernel
theorem dX0_mendedPrice_6 : decode cX0_mendedPrice 6 = .ok (.if_icmp .ne 11, 3) := by decide +kernel
theorem dX0_mendedPrice_9 : decode cX0_mendedPrice 9 = .ok (.aload_n 0, 1) := by decide +kernel
theorem dX0_mendedPrice_10 : decode cX0_mendedPrice 10 = .ok (.iload_n 1, 1) := by decide +kernel
theorem dX0_mendedPrice_11 : decode cX0_mendedPrice 11 = .ok (.invokevirtual 86, 3) := by decide +kernel
theorem dX0_mendedPrice_14 : decode cX0_mendedPrice 14 = .ok (.goto 9, 3) := by decide +kernel
theorem dX0_mendedPrice_17 : decode cX0_mendedPrice 17 = .ok (.aload_n 0, 1) := by decide +kernel
theorem dX0_mendedPrice_18 : decode cX0_mendedPrice 18 = .ok (.iload_n 1, 1) := by decide +kernel
theorem dX0_mendedPrice_19 : decode cX0_mendedPrice 19 = .ok (.iconst 0, 1) := by decide +kernel
theorem dX0_mendedPrice_20 : decode cX0_mendedPrice 20 = .ok (.invokevirtual 82, 3) := by decide +kernel
theorem dX0_mendedPrice_23 : decode cX0_mendedPrice 23 = .ok (.ireturn, 1) := by decide +kernel
theorem dX0_nextCostsMore_0 : decode cX0_nextCostsMore 0 = .ok (.aload_n 0, 1) := by decide +kernel
theorem dX0_nextCostsMore_1 : decode cX0_nextCostsMore 1 = .ok (.iload_n 1, 1) := by decide +kernel
theorem dX0_nextCostsMore_2 : decode cX0_nextCostsMore 2 = .ok (.invokevirtual 86, 3) := by decide +kernel
theorem dX0_nextCostsMore_5 : decode cX0_nextCostsMore 5 = .ok (.istore_n 2, 1) := by decide +kernel
theorem dX0_nextCostsMore_6 : decode cX0_nextCostsMore 6 = .ok (.aload_n 0, 1) := by decide +kernel
theorem dX0_nextCostsMore_7 : decode cX0_nextCostsMore 7 = .ok (.iload_n 1, 1) := by decide +kernel
theorem dX0_nextCostsMore_8 : decode cX0_nextCostsMore 8 = .ok (.invokevirtual 95, 3) := by decide +kernel
theorem dX0_nextCostsMore_11 : decode cX0_nextCostsMore 11 = .ok (.iconst (-1), 1) := by decide +kernel
theorem dX0_nextCostsMore_12 : decode cX0_nextCostsMore 12 = .ok (.if_icmp .ne 25, 3) := by decide +kernel
theorem dX0_nextCostsMore_15 : decode cX0_nextCostsMore 15 = .ok (.aload_n 0, 1) := by decide +kernel
theorem dX0_nextCostsMore_16 : decode cX0_nextCostsMore 16 = .ok (.getfield 15, 3) := by decide +kernel
theorem dX0_nextCostsMore_19 : decode cX0_nextCostsMore 19 = .ok (.iload_n 1, 1) := by decide +kernel
theorem dX0_nextCostsMore_20 : decode cX0_nextCostsMore 20 = .ok (.iaload, 1) := by decide +kernel
theorem dX0_nextCostsMore_21 : decode cX0_nextCostsMore 21 = .ok (.ifCond .ne 7, 3) := by decide +kernel
theorem dX0_nextCostsMore_24 : decode cX0_nextCostsMore 24 = .ok (.iconst (-1), 1) := by decide +kernel
theorem dX0_nextCostsMore_25 : decode cX0_nextCostsMore 25 = .ok (.goto 11, 3) := by decide +kernel
theorem dX0_nextCostsMore_28 : decode cX0_nextCostsMore 28 = .ok (.aload_n 0, 1) := by decide +kernel
theorem dX0_nextCostsMore_29 : decode cX0_nextCostsMore 29 = .ok (.iload_n 1, 1) := by decide +kernel
theorem dX0_nextCostsMore_30 : decode cX0_nextCostsMore 30 = .ok (.iconst 0, 1) := by decide +kernel
theorem dX0_nextCostsMore_31 : decode cX0_nextCostsMore 31 = .ok (.invokevirtual 82, 3) := by decide +kernel
theorem dX0_nextCostsMore_34 : decode cX0_nextCostsMore 34 = .ok (.iload_n 2, 1) := by decide +kernel
theorem dX0_nextCostsMore_35 : decode cX0_nextCostsMore 35 = .ok (.isub, 1) := by decide +kernel
theorem dX0_nextCostsMore_36 : decode cX0_nextCostsMore 36 = .ok (.ireturn, 1) := by decide +kernel
theorem dX0_nextCostsMore_37 : decode cX0_nextCostsMore 37 = .ok (.aload_n 0, 1) := by decide +kernel
theorem dX0_nextCostsMore_38 : decode cX0_nextCostsMore 38 = .ok (.getfield 15, 3) := by decide +kernel
theorem dX0_nextCostsMore_41 : decode cX0_nextCostsMore 41 = .ok (.iload_n 1, 1) := by decide +kernel
theorem dX0_nextCostsMore_42 : decode cX0_nextCostsMore 42 = .ok (.iaload, 1) := by decide +kernel
theorem dX0_nextCostsMore_43 : decode cX0_nextCostsMore 43 = .ok (.iconst 2, 1) := by decide +kernel
theorem dX0_nextCostsMore_44 : decode cX0_nextCostsMore 44 = .ok (.if_icmp .ge 7, 3) := by decide +kernel
theorem dX0_nextCostsMore_47 : decode cX0_nextCostsMore 47 = .ok (.iload_n 2, 1) := by decide +kernel
theorem dX0_nextCostsMore_48 : decode cX0_nextCostsMore 48 = .ok (.goto 13, 3) := by decide +kernel
theorem dX0_nextCostsMore_51 : decode cX0_nextCostsMore 51 = .ok (.iload_n 2, 1) := by decide +kernel
theorem dX0_nextCostsMore_52 : decode cX0_nextCostsMore 52 = .ok (.aload_n 0, 1) := by decide +kernel
theorem dX0_nextCostsMore_53 : decode cX0_nextCostsMore 53 = .ok (.iload_n 1, 1) := by decide +kernel
theorem dX0_nextCostsMore_54 : decode cX0_nextCostsMore 54 = .ok (.iconst 1, 1) := by decide +kernel
theorem dX0_nextCostsMore_55 : decode cX0_nextCostsMore 55 = .ok (.invokevirtual 82, 3) := by decide +kernel
theorem dX0_nextCostsMore_58 : decode cX0_nextCostsMore 58 = .ok (.invokestatic 98, 3) := by decide +kernel
theorem dX0_nextCostsMore_61 : decode cX0_nextCostsMore 61 = .ok (.istore_n 3, 1) := by decide +kernel
theorem dX0_nextCostsMore_62 : decode cX0_nextCostsMore 62 = .ok (.iload_n 3, 1) := by decide +kernel
theorem dX0_nextCostsMore_63 : decode cX0_nextCostsMore 63 = .ok (.aload_n 0, 1) := by decide +kernel
theorem dX0_nextCostsMore_64 : decode cX0_nextCostsMore 64 = .ok (.iload_n 1, 1) := by decide +kernel
theorem dX0_nextCostsMore_65 : decode cX0_nextCostsMore 65 = .ok (.iconst 0, 1) := by decide +kernel
theorem dX0_nextCostsMore_66 : decode cX0_nextCostsMore 66 = .ok (.invokevirtual 82, 3) := by decide +kernel
theorem dX0_nextCostsMore_69 : decode cX0_nextCostsMore 69 = .ok (.isub, 1) := by decide +kernel
theorem dX0_nextCostsMore_70 : decode cX0_nextCostsMore 70 = .ok (.ireturn, 1) := by decide +kernel
theorem dX0_joinedCells_0 : decode cX0_joinedCells 0 = .ok (.aload_n 0, 1) := by decide +kernel
theorem dX0_joinedCells_1 : decode cX0_joinedCells 1 = .ok (.getfield 32, 3) := by decide +kernel
theorem dX0_joinedCells_4 : decode cX0_joinedCells 4 = .ok (.iload_n 1, 1) := by decide +kernel
theorem dX0_joinedCells_5 : decode cX0_joinedCells 5 = .ok (.invokevirtual 50, 3) := by decide +kernel
theorem dX0_joinedCells_8 : decode cX0_joinedCells 8 = .ok (.aload_n 0, 1) := by decide +kernel
theorem dX0_joinedCells_9 : decode cX0_joinedCells 9 = .ok (.getfield 32, 3) := by decide +kernel
theorem dX0_joinedCells_12 : decode cX0_joinedCells 12 = .ok (.iload_n 1, 1) := by decide +kernel
theorem dX0_joinedCells_13 : decode cX0_joinedCells 13 = .ok (.iconst 1, 1) := by decide +kernel
theorem dX0_joinedCells_14 : decode cX0_joinedCells 14 = .ok (.iadd, 1) := by decide +kernel
theorem dX0_joinedCells_15 : decode cX0_joinedCells 15 = .ok (.invokevirtual 50, 3) := by decide +kernel
theorem dX0_joinedCells_18 : decode cX0_joinedCells 18 = .ok (.iadd, 1) := by decide +kernel
theorem dX0_joinedCells_19 : decode cX0_joinedCells 19 = .ok (.ireturn, 1) := by decide +kernel
theorem dX0_mayJoin_0 : decode cX0_mayJoin 0 = .ok (.iload_n 1, 1) := by decide +kernel
theorem dX0_mayJoin_1 : decode cX0_mayJoin 1 = .ok (.iconst 1, 1) := by decide +kernel
theorem dX0_mayJoin_2 : decode cX0_mayJoin 2 = .ok (.iadd, 1) := by decide +kernel
theorem dX0_mayJoin_3 : decode cX0_mayJoin 3 = .ok (.aload_n 0, 1) := by decide +kernel
theorem dX0_mayJoin_4 : decode cX0_mayJoin 4 = .ok (.getfield 32, 3) := by decide +kernel
theorem dX0_mayJoin_7 : decode cX0_mayJoin 7 = .ok (.getfield 103, 3) := by decide +kernel
theorem dX0_mayJoin_10 : decode cX0_mayJoin 10 = .ok (.if_icmp .ge 29, 3) := by decide +kernel
theorem dX0_mayJoin_13 : decode cX0_mayJoin 13 = .ok (.aload_n 0, 1) := by decide +kernel
theorem dX0_mayJoin_14 : decode cX0_mayJoin 14 = .ok (.getfield 32, 3) := by decide +kernel
theorem dX0_mayJoin_17 : decode cX0_mayJoin 17 = .ok (.getfield 106, 3) := by decide +kernel
theorem dX0_mayJoin_20 : decode cX0_mayJoin 20 = .ok (.iload_n 1, 1) := by decide +kernel
theorem dX0_mayJoin_21 : decode cX0_mayJoin 21 = .ok (.baload, 1) := by decide +kernel
theorem dX0_mayJoin_22 : decode cX0_mayJoin 22 = .ok (.ifCond .eq 17, 3) := by decide +kernel
theorem dX0_mayJoin_25 : decode cX0_mayJoin 25 = .ok (.aload_n 0, 1) := by decide +kernel
theorem dX0_mayJoin_26 : decode cX0_mayJoin 26 = .ok (.iload_n 1, 1) := by decide +kernel
theorem dX0_mayJoin_27 : decode cX0_mayJoin 27 = .ok (.invokevirtual 70, 3) := by decide +kernel
theorem dX0_mayJoin_30 : decode cX0_mayJoin 30 = .ok (.bipush 24, 2) := by decide +kernel
theorem dX0_mayJoin_32 : decode cX0_mayJoin 32 = .ok (.if_icmp .gt 7, 3) := by decide +kernel
theorem dX0_mayJoin_35 : decode cX0_mayJoin 35 = .ok (.iconst 1, 1) := by decide +kernel
theorem dX0_mayJoin_36 : decode cX0_mayJoin 36 = .ok (.goto 4, 3) := by decide +kernel
theorem dX0_mayJoin_39 : decode cX0_mayJoin 39 = .ok (.iconst 0, 1) := by decide +kernel
theorem dX0_mayJoin_40 : decode cX0_mayJoin 40 = .ok (.ireturn, 1) := by decide +kernel
theorem dX0_joinedPrice_0 : decode cX0_joinedPrice 0 = .ok (.aload_n 0, 1) := by decide +kernel
theorem dX0_joinedPrice_1 : decode cX0_joinedPrice 1 = .ok (.bipush 40, 2) := by decide +kernel
theorem dX0_joinedPrice_3 : decode cX0_joinedPrice 3 = .ok (.iload_n 1, 1) := by decide +kernel
theorem dX0_joinedPrice_4 : decode cX0_joinedPrice 4 = .ok (.iadd, 1) := by decide +kernel
theorem dX0_joinedPrice_5 : decode cX0_joinedPrice 5 = .ok (.iconst 0, 1) := by decide +kernel
theorem dX0_joinedPrice_6 : decode cX0_joinedPrice 6 = .ok (.invokevirtual 82, 3) := by decide +kernel
theorem dX0_joinedPrice_9 : decode cX0_joinedPrice 9 = .ok (.istore_n 2, 1) := by decide +kernel
theorem dX0_joinedPrice_10 : decode cX0_joinedPrice 10 = .ok (.aload_n 0, 1) := by decide +kernel
theorem dX0_joinedPrice_11 : decode cX0_joinedPrice 11 = .ok (.getfield 36, 3) := by decide +kernel
theorem dX0_joinedPrice_14 : decode cX0_joinedPrice 14 = .ok (.iconst 0, 1) := by decide +kernel
theorem dX0_joinedPrice_15 : decode cX0_joinedPrice 15 = .ok (.iaload, 1) := by decide +kernel
theorem dX0_joinedPrice_16 : decode cX0_joinedPrice 16 = .ok (.aload_n 0, 1) := by decide +kernel
theorem dX0_joinedPrice_17 : decode cX0_joinedPrice 17 = .ok (.getfield 36, 3) := by decide +kernel
theorem dX0_joinedPrice_20 : decode cX0_joinedPrice 20 = .ok (.iconst 1, 1) := by decide +kernel
theorem dX0_joinedPrice_21 : decode cX0_joinedPrice 21 = .ok (.iaload, 1) := by decide +kernel
theorem dX0_joinedPrice_22 : decode cX0_joinedPrice 22 = .ok (.aload_n 0, 1) := by decide +kernel
theorem dX0_joinedPrice_23 : decode cX0_joinedPrice 23 = .ok (.iload_n 1, 1) := by decide +kernel
theorem dX0_joinedPrice_24 : decode cX0_joinedPrice 24 = .ok (.invokevirtual 70, 3) := by decide +kernel
theorem dX0_joinedPrice_27 : decode cX0_joinedPrice 27 = .ok (.imul, 1) := by decide +kernel
theorem dX0_joinedPrice_28 : decode cX0_joinedPrice 28 = .ok (.iadd, 1) := by decide +kernel
theorem dX0_joinedPrice_29 : decode cX0_joinedPrice 29 = .ok (.istore_n 3, 1) := by decide +kernel
theorem dX0_joinedPrice_30 : decode cX0_joinedPrice 30 = .ok (.iload_n 2, 1) := by decide +kernel
theorem dX0_joinedPrice_31 : decode cX0_joinedPrice 31 = .ok (.iconst (-1), 1) := by decide +kernel
theorem dX0_joinedPrice_32 : decode cX0_joinedPrice 32 = .ok (.if_icmp .eq 8, 3) := by decide +kernel
theorem dX0_joinedPrice_35 : decode cX0_joinedPrice 35 = .ok (.iload_n 2, 1) := by decide +kernel
theorem dX0_joinedPrice_36 : decode cX0_joinedPrice 36 = .ok (.iload_n 3, 1) := by decide +kernel
theorem dX0_joinedPrice_37 : decode cX0_joinedPrice 37 = .ok (.if_icmp .le 7, 3) := by decide +kernel
theorem dX0_joinedPrice_40 : decode cX0_joinedPrice 40 = .ok (.iconst (-1), 1) := by decide +kernel
theorem dX0_joinedPrice_41 : decode cX0_joinedPrice 41 = .ok (.goto 11, 3) := by decide +kernel
theorem dX0_joinedPrice_44 : decode cX0_joinedPrice 44 = .ok (.iload_n 2, 1) := by decide +kernel
theorem dX0_joinedPrice_45 : decode cX0_joinedPrice 45 = .ok (.aload_n 0, 1) := by decide +kernel
theorem dX0_joinedPrice_46 : decode cX0_joinedPrice 46 = .ok (.getfield 36, 3) := by decide +kernel
theorem dX0_joinedPrice_49 : decode cX0_joinedPrice 49 = .ok (.iconst 5, 1) := by decide +kernel
theorem dX0_joinedPrice_50 : decode cX0_joinedPrice 50 = .ok (.iaload, 1) := by decide +kernel
theorem dX0_joinedPrice_51 : decode cX0_joinedPrice 51 = .ok (.iadd, 1) := by decide +kernel
theorem dX0_joinedPrice_52 : decode cX0_joinedPrice 52 = .ok (.ireturn, 1) := by decide +kernel
theorem dX1_init_0 : decode cX1_init 0 = .ok (.aload_n 0, 1) := by decide +kernel
theorem dX1_init_1 : decode cX1_init 1 = .ok (.invokespecial 3, 3) := by decide +kernel
theorem dX1_init_4 : decode cX1_init 4 = .ok (.aload_n 0, 1) := by decide +kernel
theorem dX1_init_5 : decode cX1_init 5 = .ok (.bipush 60, 2) := by decide +kernel
theorem dX1_init_7 : decode cX1_init 7 = .ok (.newarray .int, 2) := by decide +kernel
theorem dX1_init_9 : decode cX1_init 9 = .ok (.putfield 9, 3) := by decide +kernel
theorem dX1_init_12 : decode cX1_init 12 = .ok (.aload_n 0, 1) := by decide +kernel
theorem dX1_init_13 : decode cX1_init 13 = .ok (.bipush 60, 2) := by decide +kernel
theorem dX1_init_15 : decode cX1_init 15 = .ok (.newarray .int, 2) := by decide +kernel
theorem dX1_init_17 : decode cX1_init 17 = .ok (.putfield 15, 3) := by decide +kernel
theorem dX1_init_20 : decode cX1_init 20 = .ok (.aload_n 0, 1) := by decide +kernel
theorem dX1_init_21 : decode cX1_init 21 = .ok (.bipush 60, 2) := by decide +kernel
theorem dX1_init_23 : decode cX1_init 23 = .ok (.newarray .int, 2) := by decide +kernel
theorem dX1_init_25 : decode cX1_init 25 = .ok (.putfield 18, 3) := by decide +kernel
theorem dX1_init_28 : decode cX1_init 28 = .ok (.aload_n 0, 1) := by decide +kernel
theorem dX1_init_29 : decode cX1_init 29 = .ok (.aload_n 1, 1) := by decide +kernel
theorem dX1_init_30 : decode cX1_init 30 = .ok (.putfield 21, 3) := by decide +kernel
theorem dX1_init_33 : decode cX1_init 33 = .ok (.return_, 1) := by decide +kernel
theorem dX1_clear_0 : decode cX1_clear 0 = .ok (.aload_n 0, 1) := by decide +kernel
theorem dX1_clear_1 : decode cX1_clear 1 = .ok (.iconst 0, 1) := by decide +kernel
theorem dX1_clear_2 : decode cX1_clear 2 = .ok (.putfield 25, 3) := by decide +kernel
theorem dX1_clear_5 : decode cX1_clear 5 = .ok (.return_, 1) := by decide +kernel
theorem dX1_dearOf_0 : decode cX1_dearOf 0 = .ok (.aload_n 0, 1) := by decide +kernel
theorem dX1_dearOf_1 : decode cX1_dearOf 1 = .ok (.getfield 25, 3) := by decide +kernel
theorem dX1_dearOf_4 : decode cX1_dearOf 4 = .ok (.iconst 1, 1) := by decide +kernel
theorem dX1_dearOf_5 : decode cX1_dearOf 5 = .ok (.isub, 1) := by decide +kernel
theorem dX1_dearOf_6 : decode cX1_dearOf 6 = .ok (.istore 4, 2) := by decide +kernel
theorem dX1_dearOf_8 : decode cX1_dearOf 8 = .ok (.iload 4, 2) := by decide +kernel
theorem dX1_dearOf_10 : decode cX1_dearOf 10 = .ok (.ifCond .lt 39, 3) := by decide +kernel
theorem dX1_dearOf_13 : decode cX1_dearOf 13 = .ok (.aload_n 0, 1) := by decide +kernel
theorem dX1_dearOf_14 : decode cX1_dearOf 14 = .ok (.getfield 9, 3) := by decide +kernel
theorem dX1_dearOf_17 : decode cX1_dearOf 17 = .ok (.iload 4, 2) := by decide +kernel
theorem dX1_dearOf_19 : decode cX1_dearOf 19 = .ok (.iaload, 1) := by decide +kernel
theorem dX1_dearOf_20 : decode cX1_dearOf 20 = .ok (.iload_n 1, 1) := by decide +kernel
theorem dX1_dearOf_21 : decode cX1_dearOf 21 = .ok (.if_icmp .ne 22, 3) := by decide +kernel
theorem dX1_dearOf_24 : decode cX1_dearOf 24 = .ok (.aload_n 0, 1) := by decide +kernel
theorem dX1_dearOf_25 : decode cX1_dearOf 25 = .ok (.getfield 15, 3) := by decide +kernel
theorem dX1_dearOf_28 : decode cX1_dearOf 28 = .ok (.iload 4, 2) := by decide +kernel
theorem dX1_dearOf_30 : decode cX1_dearOf 30 = .ok (.iaload, 1) := by decide +kernel
theorem dX1_dearOf_31 : decode cX1_dearOf 31 = .ok (.iload_n 2, 1) := by decide +kernel
theorem dX1_dearOf_32 : decode cX1_dearOf 32 = .ok (.if_icmp .ne 11, 3) := by decide +kernel
theorem dX1_dearOf_35 : decode cX1_dearOf 35 = .ok (.aload_n 0, 1) := by decide +kernel
theorem dX1_dearOf_36 : decode cX1_dearOf 36 = .ok (.getfield 18, 3) := by decide +kernel
theorem dX1_dearOf_39 : decode cX1_dearOf 39 = .ok (.iload 4, 2) := by decide +kernel
theorem dX1_dearOf_41 : decode cX1_dearOf 41 = .ok (.iaload, 1) := by decide +kernel
theorem dX1_dearOf_42 : decode cX1_dearOf 42 = .ok (.ireturn, 1) := by decide +kernel
theorem dX1_dearOf_43 : decode cX1_dearOf 43 = .ok (.iinc 4 (-1), 3) := by decide +kernel
theorem dX1_dearOf_46 : decode cX1_dearOf 46 = .ok (.goto (-38), 3) := by decide +kernel
theorem dX1_dearOf_49 : decode cX1_dearOf 49 = .ok (.iload_n 3, 1) := by decide +kernel
theorem dX1_dearOf_50 : decode cX1_dearOf 50 = .ok (.ireturn, 1) := by decide +kernel
theorem dX1_readText_0 : decode cX1_readText 0 = .ok (.aload_n 0, 1) := by decide +kernel
theorem dX1_readText_1 : decode cX1_readText 1 = .ok (.iconst 0, 1) := by decide +kernel
theorem dX1_readText_2 : decode cX1_readText 2 = .ok (.putfield 25, 3) := by decide +kernel
theorem dX1_readText_5 : decode cX1_readText 5 = .ok (.iconst 0, 1) := by decide +kernel
theorem dX1_readText_6 : decode cX1_readText 6 = .ok (.istore_n 2, 1) := by decide +kernel
theorem dX1_readText_7 : decode cX1_readText 7 = .ok (.iload_n 2, 1) := by decide +kernel
theorem dX1_readText_8 : decode cX1_readText 8 = .ok (.bipush 60, 2) := by decide +kernel
theorem dX1_readText_10 : decode cX1_readText 10 = .ok (.if_icmp .gt 32, 3) := by decide +kernel
theorem dX1_readText_13 : decode cX1_readText 13 = .ok (.aload_n 1, 1) := by decide +kernel
theorem dX1_readText_14 : decode cX1_readText 14 = .ok (.invokevirtual 29, 3) := by decide +kernel
theorem dX1_readText_17 : decode cX1_readText 17 = .ok (.aload_n 1, 1) := by decide +kernel
theorem dX1_readText_18 : decode cX1_readText 18 = .ok (.invokevirtual 34, 3) := by decide +kernel
theorem dX1_readText_21 : decode cX1_readText 21 = .ok (.ifCond .eq 5, 3) := by decide +kernel
theorem dX1_readText_24 : decode cX1_readText 24 = .ok (.iconst 1, 1) := by decide +kernel
theorem dX1_readText_25 : decode cX1_readText 25 = .ok (.ireturn, 1) := by decide +kernel
theorem dX1_readText_26 : decode cX1_readText 26 = .ok (.aload_n 0, 1) := by decide +kernel
theorem dX1_readText_27 : decode cX1_readText 27 = .ok (.aload_n 1, 1) := by decide +kernel
theorem dX1_readText_28 : decode cX1_readText 28 = .ok (.invokevirtual 38, 3) := by decide +kernel
theorem dX1_readText_31 : decode cX1_readText 31 = .ok (.ifCond .ne 5, 3) := by decide +kernel
theorem dX1_readText_34 : decode cX1_readText 34 = .ok (.iconst 0, 1) := by decide +kernel
theorem dX1_readText_35 : decode cX1_readText 35 = .ok (.ireturn, 1) := by decide +kernel
theorem dX1_readText_36 : decode cX1_readText 36 = .ok (.iinc 2 1, 3) := by decide +kernel
theorem dX1_readText_39 : decode cX1_readText 39 = .ok (.goto (-32), 3) := by decide +kernel
theorem dX1_readText_42 : decode cX1_readText 42 = .ok (.iconst 0, 1) := by decide +kernel
theorem dX1_readText_43 : decode cX1_readText 43 = .ok (.ireturn, 1) := by decide +kernel
theorem dX1_readEntry_0 : decode cX1_readEntry 0 = .ok (.aload_n 1, 1) := by decide +kernel
theorem dX1_readEntry_1 : decode cX1_readEntry 1 = .ok (.iconst 0, 1) := by decide +kernel
theorem dX1_readEntry_2 : decode cX1_readEntry 2 = .ok (.invokevirtual 42, 3) := by decide +kernel
theorem dX1_readEntry_5 : decode cX1_readEntry 5 = .ok (.invokestatic 46, 3) := by decide +kernel
theorem dX1_readEntry_8 : decode cX1_readEntry 8 = .ok (.ifCond .eq 22, 3) := by decide +kernel
theorem dX1_readEntry_11 : decode cX1_readEntry 11 = .ok (.aload_n 0, 1) := by decide +kernel
theorem dX1_readEntry_12 : decode cX1_readEntry 12 = .ok (.getfield 25, 3) := by decide +kernel
theorem dX1_readEntry_15 : decode cX1_readEntry 15 = .ok (.bipush 60, 2) := by decide +kernel
theorem dX1_readEntry_17 : decode cX1_readEntry 17 = .ok (.if_icmp .lt 13, 3) := by decide +kernel
theorem dX1_readEntry_20 : decode cX1_readEntry 20 = .ok (.aload_n 1, 1) := by decide +kernel
theorem dX1_readEntry_21 : decode cX1_readEntry 21 = .ok (.iconst 3, 1) := by decide +kernel
theorem dX1_readEntry_22 : decode cX1_readEntry 22 = .ok (.aload_n 1, 1) := by decide +kernel
theorem dX1_readEntry_23 : decode cX1_readEntry 23 = .ok (.getfield 50, 3) := by decide +kernel
theorem dX1_readEntry_26 : decode cX1_readEntry 26 = .ok (.invokevirtual 53, 3) := by decide +kernel
theorem dX1_readEntry_29 : decode cX1_readEntry 29 = .ok (.ireturn, 1) := by decide +kernel
theorem dX1_readEntry_30 : decode cX1_readEntry 30 = .ok (.aload_n 0, 1) := by decide +kernel
theorem dX1_readEntry_31 : decode cX1_readEntry 31 = .ok (.aload_n 1, 1) := by decide +kernel
theorem dX1_readEntry_32 : decode cX1_readEntry 32 = .ok (.invokevirtual 57, 3) := by decide +kernel
theorem dX1_readEntry_35 : decode cX1_readEntry 35 = .ok (.istore_n 2, 1) := by decide +kernel
theorem dX1_readEntry_36 : decode cX1_readEntry 36 = .ok (.iload_n 2, 1) := by decide +kernel
theorem dX1_readEntry_37 : decode cX1_readEntry 37 = .ok (.iconst (-1), 1) := by decide +kernel
theorem dX1_readEntry_38 : decode cX1_readEntry 38 = .ok (.if_icmp .ne 5, 3) := by decide +kernel
theorem dX1_readEntry_41 : decode cX1_readEntry 41 = .ok (.iconst 0, 1) := by decide +kernel
theorem dX1_readEntry_42 : decode cX1_readEntry 42 = .ok (.ireturn, 1) := by decide +kernel
theorem dX1_readEntry_43 : decode cX1_readEntry 43 = .ok (.aload_n 1, 1) := by decide +kernel
theorem dX1_readEntry_44 : decode cX1_readEntry 44 = .ok (.iconst 0, 1) := by decide +kernel
theorem dX1_readEntry_45 : decode cX1_readEntry 45 = .ok (.invokevirtual 42, 3) := by decide +kernel
theorem dX1_readEntry_48 : decode cX1_readEntry 48 = .ok (.bipush 32, 2) := by decide +kernel
theorem dX1_readEntry_50 : decode cX1_readEntry 50 = .ok (.if_icmp .eq 13, 3) := by decide +kernel
theorem dX1_readEntry_53 : decode cX1_readEntry 53 = .ok (.aload_n 1, 1) := by decide +kernel
theorem dX1_readEntry_54 : decode cX1_readEntry 54 = .ok (.iconst 1, 1) := by decide +kernel
theorem dX1_readEntry_55 : decode cX1_readEntry 55 = .ok (.aload_n 1, 1) := by decide +kernel
theorem dX1_readEntry_56 : decode cX1_readEntry 56 = .ok (.getfield 50, 3) := by decide +kernel
theorem dX1_readEntry_59 : decode cX1_readEntry 59 = .ok (.invokevirtual 53, 3) := by decide +kernel
theorem dX1_readEntry_62 : decode cX1_readEntry 62 = .ok (.ireturn, 1) := by decide +kernel
theorem dX1_readEntry_63 : decode cX1_readEntry 63 = .ok (.aload_n 1, 1) := by decide +kernel
theorem dX1_readEntry_64 : decode cX1_readEntry 64 = .ok (.invokevirtual 29, 3) := by decide +kernel
theorem dX1_readEntry_67 : decode cX1_readEntry 67 = .ok (.aload_n 0, 1) := by decide +kernel
theorem dX1_readEntry_68 : decode cX1_readEntry 68 = .ok (.aload_n 1, 1) := by decide +kernel
theorem dX1_readEntry_69 : decode cX1_readEntry 69 = .ok (.invokevirtual 57, 3) := by decide +kernel
theorem dX1_readEntry_72 : decode cX1_readEntry 72 = .ok (.istore_n 3, 1) := by decide +kernel
theorem dX1_readEntry_73 : decode cX1_readEntry 73 = .ok (.iload_n 3, 1) := by decide +kernel
theorem dX1_readEntry_74 : decode cX1_readEntry 74 = .ok (.iconst (-1), 1) := by decide +kernel
theorem dX1_readEntry_75 : decode cX1_readEntry 75 = .ok (.if_icmp .ne 5, 3) := by decide +kernel
theorem dX1_readEntry_78 : decode cX1_readEntry 78 = .ok (.iconst 0, 1) := by decide +kernel
theorem dX1_readEntry_79 : decode cX1_readEntry 79 = .ok (.ireturn, 1) := by decide +kernel
theorem dX1_readEntry_80 : decode cX1_readEntry 80 = .ok (.aload_n 1, 1) := by decide +kernel
theorem dX1_readEntry_81 : decode cX1_readEntry 81 = .ok (.iconst (-1), 1) := by decide +kernel
theorem dX1_readEntry_82 : decode cX1_readEntry 82 = .ok (.iconst 0, 1) := by decide +kernel
theorem dX1_readEntry_83 : decode cX1_readEntry 83 = .ok (.invokevirtual 61, 3) := by decide +kernel
theorem dX1_readEntry_86 : decode cX1_readEntry 86 = .ok (.istore 4, 2) := by decide +kernel
theorem dX1_readEntry_88 : decode cX1_readEntry 88 = .ok (.iload 4, 2) := by decide +kernel
theorem dX1_readEntry_90 : decode cX1_readEntry 90 = .ok (.iconst (-1), 1) := by decide +kernel
theorem dX1_readEntry_91 : decode cX1_readEntry 91 = .ok (.if_icmp .ne 5, 3) := by decide +kernel
theorem dX1_readEntry_94 : decode cX1_readEntry 94 = .ok (.iconst 0, 1) := by decide +kernel
theorem dX1_readEntry_95 : decode cX1_readEntry 95 = .ok (.ireturn, 1) := by decide +kernel
theorem dX1_readEntry_96 : decode cX1_readEntry 96 = .ok (.aload_n 0, 1) := by decide +kernel
theorem dX1_readEntry_97 : decode cX1_readEntry 97 = .ok (.getfield 9, 3) := by decide +kernel
theorem dX1_readEntry_100 : decode cX1_readEntry 100 = .ok (.aload_n 0, 1) := by decide +kernel
theorem dX1_readEntry_101 : decode cX1_readEntry 101 = .ok (.getfield 25, 3) := by decide +kernel
theorem dX1_readEntry_104 : decode cX1_readEntry 104 = .ok (.iload_n 2, 1) := by decide +kernel
theorem dX1_readEntry_105 : decode cX1_readEntry 105 = .ok (.iastore, 1) := by decide +kernel
theorem dX1_readEntry_106 : decode cX1_readEntry 106 = .ok (.aload_n 0, 1) := by decide +kernel
theorem dX1_readEntry_107 : decode cX1_readEntry 107 = .ok (.getfield 15, 3) := by decide +kernel
theorem dX1_readEntry_110 : decode cX1_readEntry 110 = .ok (.aload_n 0, 1) := by decide +kernel
theorem dX1_readEntry_111 : decode cX1_readEntry 111 = .ok (.getfield 25, 3) := by decide +kernel
theorem dX1_readEntry_114 : decode cX1_readEntry 114 = .ok (.iload_n 3, 1) := by decide +kernel
theorem dX1_readEntry_115 : decode cX1_readEntry 115 = .ok (.iastore, 1) := by decide +kernel
theorem dX1_readEntry_116 : decode cX1_readEntry 116 = .ok (.aload_n 0, 1) := by decide +kernel
theorem dX1_readEntry_117 : decode cX1_readEntry 117 = .ok (.getfield 18, 3) := by decide +kernel
theorem dX1_readEntry_120 : decode cX1_readEntry 120 = .ok (.aload_n 0, 1) := by decide +kernel
theorem dX1_readEntry_121 : decode cX1_readEntry 121 = .ok (.getfield 25, 3) := by decide +kernel
theorem dX1_readEntry_124 : decode cX1_readEntry 124 = .ok (.iload 4, 2) := by decide +kernel
theorem dX1_readEntry_126 : decode cX1_readEntry 126 = .ok (.iastore, 1) := by decide +kernel
theorem dX1_readEntry_127 : decode cX1_readEntry 127 = .ok (.aload_n 0, 1) := by decide +kernel
theorem dX1_readEntry_128 : decode cX1_readEntry 128 = .ok (.dup, 1) := by decide +kernel
theorem dX1_readEntry_129 : decode cX1_readEntry 129 = .ok (.getfield 25, 3) := by decide +kernel
theorem dX1_readEntry_132 : decode cX1_readEntry 132 = .ok (.iconst 1, 1) := by decide +kernel
theorem dX1_readEntry_133 : decode cX1_readEntry 133 = .ok (.iadd, 1) := by decide +kernel
theorem dX1_readEntry_134 : decode cX1_readEntry 134 = .ok (.putfield 25, 3) := by decide +kernel
theorem dX1_readEntry_137 : decode cX1_readEntry 137 = .ok (.iconst 1, 1) := by decide +kernel
theorem dX1_readEntry_138 : decode cX1_readEntry 138 = .ok (.ireturn, 1) := by decide +kernel
theorem dX1_readWord_0 : decode cX1_readWord 0 = .ok (.aload_n 1, 1) := by decide +kernel
theorem dX1_readWord_1 : decode cX1_readWord 1 = .ok (.getfield 50, 3) := by decide +kernel
theorem dX1_readWord_4 : decode cX1_readWord 4 = .ok (.istore_n 2, 1) := by decide +kernel
theorem dX1_readWord_5 : decode cX1_readWord 5 = .ok (.aload_n 1, 1) := by decide +kernel
theorem dX1_readWord_6 : decode cX1_readWord 6 = .ok (.iconst 0, 1) := by decide +kernel
theorem dX1_readWord_7 : decode cX1_readWord 7 = .ok (.invokevirtual 42, 3) := by decide +kernel
theorem dX1_readWord_10 : decode cX1_readWord 10 = .ok (.invokestatic 46, 3) := by decide +kernel
theorem dX1_readWord_13 : decode cX1_readWord 13 = .ok (.ifCond .ne 12, 3) := by decide +kernel
theorem dX1_readWord_16 : decode cX1_readWord 16 = .ok (.aload_n 1, 1) := by decide +kernel
theorem dX1_readWord_17 : decode cX1_readWord 17 = .ok (.iconst 1, 1) := by decide +kernel
theorem dX1_readWord_18 : decode cX1_readWord 18 = .ok (.iload_n 2, 1) := by decide +kernel
theorem dX1_readWord_19 : decode cX1_readWord 19 = .ok (.invokevirtual 53, 3) := by decide +kernel
theorem dX1_readWord_22 : decode cX1_readWord 22 = .ok (.pop, 1) := by decide +kernel
theorem dX1_readWord_23 : decode cX1_readWord 23 = .ok (.iconst (-1), 1) := by decide +kernel
theorem dX1_readWord_24 : decode cX1_readWord 24 = .ok (.ireturn, 1) := by decide +kernel
theorem dX1_readWord_25 : decode cX1_readWord 25 = .ok (.aload_n 1, 1) := by decide +kernel
theorem dX1_readWord_26 : decode cX1_readWord 26 = .ok (.invokevirtual 34, 3) := by decide +kernel
theorem dX1_readWord_29 : decode cX1_readWord 29 = .ok (.ifCond .ne 37, 3) := by decide +kernel
theorem dX1_readWord_32 : decode cX1_readWord 32 = .ok (.aload_n 1, 1) := by decide +kernel
theorem dX1_readWord_33 : decode cX1_readWord 33 = .ok (.iconst 0, 1) := by decide +kernel
theorem dX1_readWord_34 : decode cX1_readWord 34 = .ok (.invokevirtual 42, 3) := by decide +kernel
theorem dX1_readWord_37 : decode cX1_readWord 37 = .ok (.invokestatic 46, 3) := by decide +kernel
theorem dX1_readWord_40 : decode cX1_readWord 40 = .ok (.ifCond .ne 13, 3) := by decide +kernel
theorem dX1_readWord_43 : decode cX1_readWord 43 = .ok (.aload_n 1, 1) := by decide +kernel
theorem dX1_readWord_44 : decode cX1_readWord 44 = .ok (.iconst 0, 1) := by decide +kernel
theorem dX1_readWord_45 : decode cX1_readWord 45 = .ok (.invokevirtual 42, 3) := by decide +kernel
theorem dX1_readWord_48 : decode cX1_readWord 48 = .ok (.bipush 45, 2) := by decide +kernel
theorem dX1_readWord_50 : decode cX1_readWord 50 = .ok (.if_icmp .ne 16, 3) := by decide +kernel
theorem dX1_readWord_53 : decode cX1_readWord 53 = .ok (.aload_n 1, 1) := by decide +kernel
theorem dX1_readWord_54 : decode cX1_readWord 54 = .ok (.dup, 1) := by decide +kernel
theorem dX1_readWord_55 : decode cX1_readWord 55 = .ok (.getfield 50, 3) := by decide +kernel
theorem dX1_readWord_58 : decode cX1_readWord 58 = .ok (.iconst 1, 1) := by decide +kernel
theorem dX1_readWord_59 : decode cX1_readWord 59 = .ok (.iadd, 1) := by decide +kernel
theorem dX1_readWord_60 : decode cX1_readWord 60 = .ok (.putfield 50, 3) := by decide +kernel
theorem dX1_readWord_63 : decode cX1_readWord 63 = .ok (.goto (-38), 3) := by decide +kernel
theorem dX1_readWord_66 : decode cX1_readWord 66 = .ok (.aload_n 0, 1) := by decide +kernel
theorem dX1_readWord_67 : decode cX1_readWord 67 = .ok (.getfield 21, 3) := by decide +kernel
theorem dX1_readWord_70 : decode cX1_readWord 70 = .ok (.aload_n 1, 1) := by decide +kernel
theorem dX1_readWord_71 : decode cX1_readWord 71 = .ok (.getfield 65, 3) := by decide +kernel
theorem dX1_readWord_74 : decode cX1_readWord 74 = .ok (.iload_n 2, 1) := by decide +kernel
theorem dX1_readWord_75 : decode cX1_readWord 75 = .ok (.aload_n 1, 1) := by decide +kernel
theorem dX1_readWord_76 : decode cX1_readWord 76 = .ok (.getfield 50, 3) := by decide +kernel
theorem dX1_readWord_79 : decode cX1_readWord 79 = .ok (.iload_n 2, 1) := by decide +kernel
theorem dX1_readWord_80 : decode cX1_readWord 80 = .ok (.isub, 1) := by decide +kernel
theorem dX1_readWord_81 : decode cX1_readWord 81 = .ok (.invokevirtual 68, 3) := by decide +kernel
theorem dX1_readWord_84 : decode cX1_readWord 84 = .ok (.istore_n 3, 1) := by decide +kernel
theorem dX1_readWord_85 : decode cX1_readWord 85 = .ok (.iload_n 3, 1) := by decide +kernel
theorem dX1_readWord_86 : decode cX1_readWord 86 = .ok (.iconst (-1), 1) := by decide +kernel
theorem dX1_readWord_87 : decode cX1_readWord 87 = .ok (.if_icmp .ne 10, 3) := by decide +kernel
theorem dX1_readWord_90 : decode cX1_readWord 90 = .ok (.aload_n 1, 1) := by decide +kernel
theorem dX1_readWord_91 : decode cX1_readWord 91 = .ok (.iconst 5, 1) := by decide +kernel
theorem dX1_readWord_92 : decode cX1_readWord 92 = .ok (.iload_n 2, 1) := by decide +kernel
theorem dX1_readWord_93 : decode cX1_readWord 93 = .ok (.invokevirtual 53, 3) := by decide +kernel
theorem dX1_readWord_96 : decode cX1_readWord 96 = .ok (.pop, 1) := by decide +kernel
theorem dX1_readWord_97 : decode cX1_readWord 97 = .ok (.iload_n 3, 1) := by decide +kernel
theorem dX1_readWord_98 : decode cX1_readWord 98 = .ok (.ireturn, 1) := by decide +kernel
theorem dX2_init_0 : decode cX2_init 0 = .ok (.aload_n 0, 1) := by decide +kernel
theorem dX2_init_1 : decode cX2_init 1 = .ok (.invokespecial 3, 3) := by decide +kernel
theorem dX2_init_4 : decode cX2_init 4 = .ok (.aload_n 0, 1) := by decide +kernel
theorem dX2_init_5 : decode cX2_init 5 = .ok (.bipush 60, 2) := by decide +kernel
theorem dX2_init_7 : decode cX2_init 7 = .ok (.newarray .int, 2) := by decide +kernel
theorem dX2_init_9 : decode cX2_init 9 = .ok (.putfield 9, 3) := by decide +kernel
theorem dX2_init_12 : decode cX2_init 12 = .ok (.aload_n 0, 1) := by decide +kernel
theorem dX2_init_13 : decode cX2_init 13 = .ok (.bipush 60, 2) := by decide +kernel
theorem dX2_init_15 : decode cX2_init 15 = .ok (.newarray .int, 2) := by decide +kernel
theorem dX2_init_17 : decode cX2_init 17 = .ok (.putfield 15, 3) := by decide +kernel
theorem dX2_init_20 : decode cX2_init 20 = .ok (.aload_n 0, 1) := by decide +kernel
theorem dX2_init_21 : decode cX2_init 21 = .ok (.bipush 60, 2) := by decide +kernel
theorem dX2_init_23 : decode cX2_init 23 = .ok (.newarray .int, 2) := by decide +kernel
theorem dX2_init_25 : decode cX2_init 25 = .ok (.putfield 18, 3) := by decide +kernel
theorem dX2_init_28 : decode cX2_init 28 = .ok (.aload_n 0, 1) := by decide +kernel
theorem dX2_init_29 : decode cX2_init 29 = .ok (.sipush 720, 3) := by decide +kernel
theorem dX2_init_32 : decode cX2_init 32 = .ok (.newarray .int, 2) := by decide +kernel
theorem dX2_init_34 : decode cX2_init 34 = .ok (.putfield 21, 3) := by decide +kernel
theorem dX2_init_37 : decode cX2_init 37 = .ok (.aload_n 0, 1) := by decide +kernel
theorem dX2_init_38 : decode cX2_init 38 = .ok (.iconst 1, 1) := by decide +kernel
theorem dX2_init_39 : decode cX2_init 39 = .ok (.putfield 24, 3) := by decide +kernel
theorem dX2_init_42 : decode cX2_init 42 = .ok (.aload_n 0, 1) := by decide +kernel
theorem dX2_init_43 : decode cX2_init 43 = .ok (.sipush 721, 3) := by decide +kernel
theorem dX2_init_46 : decode cX2_init 46 = .ok (.newarray .int, 2) := by decide +kernel
theorem dX2_init_48 : decode cX2_init 48 = .ok (.putfield 28, 3) := by decide +kernel
theorem dX2_init_51 : decode cX2_init 51 = .ok (.aload_n 0, 1) := by decide +kernel
theorem dX2_init_52 : decode cX2_init 52 = .ok (.sipush 721, 3) := by decide +kernel
theorem dX2_init_55 : decode cX2_init 55 = .ok (.newarray .int, 2) := by decide +kernel
theorem dX2_init_57 : decode cX2_init 57 = .ok (.putfield 31, 3) := by decide +kernel
theorem dX2_init_60 : decode cX2_init 60 = .ok (.aload_n 0, 1) := by decide +kernel
theorem dX2_init_61 : decode cX2_init 61 = .ok (.sipush 721, 3) := by decide +kernel
theorem dX2_init_64 : decode cX2_init 64 = .ok (.newarray .int, 2) := by decide +kernel
theorem dX2_init_66 : decode cX2_init 66 = .ok (.putfield 34, 3) := by decide +kernel
theorem dX2_init_69 : decode cX2_init 69 = .ok (.aload_n 0, 1) := by decide +kernel
theorem dX2_init_70 : decode cX2_init 70 = .ok (.sipush 721, 3) := by decide +kernel
theorem dX2_init_73 : decode cX2_init 73 = .ok (.newarray .int, 2) := by decide +kernel
theorem dX2_init_75 : decode cX2_init 75 = .ok (.putfield 37, 3) := by decide +kernel
theorem dX2_init_78 : decode cX2_init 78 = .ok (.aload_n 0, 1) := by decide +kernel
theorem dX2_init_79 : decode cX2_init 79 = .ok (.sipush 721, 3) := by decide +kernel
theorem dX2_init_82 : decode cX2_init 82 = .ok (.newarray .int, 2) := by decide +kernel
theorem dX2_init_84 : decode cX2_init 84 = .ok (.putfield 40, 3) := by decide +kernel
theorem dX2_init_87 : decode cX2_init 87 = .ok (.aload_n 0, 1) := by decide +kernel
theorem dX2_init_88 : decode cX2_init 88 = .ok (.sipush 721, 3) := by decide +kernel
theorem dX2_init_91 : decode cX2_init 91 = .ok (.newarray .int, 2) := by decide +kernel
theorem dX2_init_93 : decode cX2_init 93 = .ok (.putfield 43, 3) := by decide +kernel
theorem dX2_init_96 : decode cX2_init 96 = .ok (.aload_n 0, 1) := by decide +kernel
theorem dX2_init_97 : decode cX2_init 97 = .ok (.sipush 721, 3) := by decide +kernel
theorem dX2_init_100 : decode cX2_init 100 = .ok (.newarray .int, 2) := by decide +kernel
theorem dX2_init_102 : decode cX2_init 102 = .ok (.putfield 46, 3) := by decide +kernel
theorem dX2_init_105 : decode cX2_init 105 = .ok (.aload_n 0, 1) := by decide +kernel
theorem dX2_init_106 : decode cX2_init 106 = .ok (.bipush 60, 2) := by decide +kernel
theorem dX2_init_108 : decode cX2_init 108 = .ok (.newarray .int, 2) := by decide +kernel
theorem dX2_init_110 : decode cX2_init 110 = .ok (.putfield 49, 3) := by decide +kernel
theorem dX2_init_113 : decode cX2_init 113 = .ok (.aload_n 0, 1) := by decide +kernel
theorem dX2_init_114 : decode cX2_init 114 = .ok (.bipush 60, 2) := by decide +kernel
theorem dX2_init_116 : decode cX2_init 116 = .ok (.newarray .int, 2) := by decide +kernel
theorem dX2_init_118 : decode cX2_init 118 = .ok (.putfield 52, 3) := by decide +kernel
theorem dX2_init_121 : decode cX2_init 121 = .ok (.aload_n 0, 1) := by decide +kernel
theorem dX2_init_122 : decode cX2_init 122 = .ok (.bipush 60, 2) := by decide +kernel
theorem dX2_init_124 : decode cX2_init 124 = .ok (.newarray .int, 2) := by decide +kernel
theorem dX2_init_126 : decode cX2_init 126 = .ok (.putfield 55, 3) := by decide +kernel
theorem dX2_init_129 : decode cX2_init 129 = .ok (.aload_n 0, 1) := by decide +kernel
theorem dX2_init_130 : decode cX2_init 130 = .ok (.invokevirtual 58, 3) := by decide +kernel
theorem dX2_init_133 : decode cX2_init 133 = .ok (.return_, 1) := by decide +kernel
theorem dX2_clear_0 : decode cX2_clear 0 = .ok (.aload_n 0, 1) := by decide +kernel
theorem dX2_clear_1 : decode cX2_clear 1 = .ok (.iconst 0, 1) := by decide +kernel
theorem dX2_clear_2 : decode cX2_clear 2 = .ok (.putfield 61, 3) := by decide +kernel
theorem dX2_clear_5 : decode cX2_clear 5 = .ok (.aload_n 0, 1) := by decide +kernel
theorem dX2_clear_6 : decode cX2_clear 6 = .ok (.iconst 0, 1) := by decide +kernel
theorem dX2_clear_7 : decode cX2_clear 7 = .ok (.putfield 24, 3) := by decide +kernel
theorem dX2_clear_10 : decode cX2_clear 10 = .ok (.aload_n 0, 1) := by decide +kernel
theorem dX2_clear_11 : decode cX2_clear 11 = .ok (.iconst (-1), 1) := by decide +kernel
theorem dX2_clear_12 : decode cX2_clear 12 = .ok (.iconst 0, 1) := by decide +kernel
theorem dX2_clear_13 : decode cX2_clear 13 = .ok (.invokevirtual 64, 3) := by decide +kernel
theorem dX2_clear_16 : decode cX2_clear 16 = .ok (.pop, 1) := by decide +kernel
theorem dX2_clear_17 : decode cX2_clear 17 = .ok (.return_, 1) := by decide +kernel
theorem dX2_addNode_0 : decode cX2_addNode 0 = .ok (.aload_n 0, 1) := by decide +kernel
theorem dX2_addNode_1 : decode cX2_addNode 1 = .ok (.getfield 24, 3) := by decide +kernel
theorem dX2_addNode_4 : decode cX2_addNode 4 = .ok (.istore_n 3, 1) := by decide +kernel
theorem dX2_addNode_5 : decode cX2_addNode 5 = .ok (.iload_n 3, 1) := by decide +kernel
theorem dX2_addNode_6 : decode cX2_addNode 6 = .ok (.sipush 721, 3) := by decide +kernel
theorem dX2_addNode_9 : decode cX2_addNode 9 = .ok (.if_icmp .lt 5, 3) := by decide +kernel
theorem dX2_addNode_12 : decode cX2_addNode 12 = .ok (.iconst (-1), 1) := by decide +kernel
theorem dX2_addNode_13 : decode cX2_addNode 13 = .ok (.ireturn, 1) := by decide +kernel
theorem dX2_addNode_14 : decode cX2_addNode 14 = .ok (.aload_n 0, 1) := by decide +kernel
theorem dX2_addNode_15 : decode cX2_addNode 15 = .ok (.dup, 1) := by decide +kernel
theorem dX2_addNode_16 : decode cX2_addNode 16 = .ok (.getfield 24, 3) := by decide +kernel
theorem dX2_addNode_19 : decode cX2_addNode 19 = .ok (.iconst 1, 1) := by decide +kernel
theorem dX2_addNode_20 : decode cX2_addNode 20 = .ok (.iadd, 1) := by decide +kernel
theorem dX2_addNode_21 : decode cX2_addNode 21 = .ok (.putfield 24, 3) := by decide +kernel
theorem dX2_addNode_24 : decode cX2_addNode 24 = .ok (.aload_n 0, 1) := by decide +kernel
theorem dX2_addNode_25 : decode cX2_addNode 25 = .ok (.getfield 28, 3) := by decide +kernel
theorem dX2_addNode_28 : decode cX2_addNode 28 = .ok (.iload_n 3, 1) := by decide +kernel
theorem dX2_addNode_29 : decode cX2_addNode 29 = .ok (.iload_n 1, 1) := by decide +kernel
theorem dX2_addNode_30 : decode cX2_addNode 30 = .ok (.iastore, 1) := by decide +kernel
theorem dX2_addNode_31 : decode cX2_addNode 31 = .ok (.aload_n 0, 1) := by decide +kernel
theorem dX2_addNode_32 : decode cX2_addNode 32 = .ok (.getfield 31, 3) := by decide +kernel
theorem dX2_addNode_35 : decode cX2_addNode 35 = .ok (.iload_n 3, 1) := by decide +kernel
theorem dX2_addNode_36 : decode cX2_addNode 36 = .ok (.iload_n 2, 1) := by decide +kernel
theorem dX2_addNode_37 : decode cX2_addNode 37 = .ok (.iastore, 1) := by decide +kernel
theorem dX2_addNode_38 : decode cX2_addNode 38 = .ok (.aload_n 0, 1) := by decide +kernel
theorem dX2_addNode_39 : decode cX2_addNode 39 = .ok (.getfield 34, 3) := by decide +kernel
theorem dX2_addNode_42 : decode cX2_addNode 42 = .ok (.iload_n 3, 1) := by decide +kernel
theorem dX2_addNode_43 : decode cX2_addNode 43 = .ok (.iconst (-1), 1) := by decide +kernel
theorem dX2_addNode_44 : decode cX2_addNode 44 = .ok (.iastore, 1) := by decide +kernel
theorem dX2_addNode_45 : decode cX2_addNode 45 = .ok (.aload_n 0, 1) := by decide +kernel
theorem dX2_addNode_46 : decode cX2_addNode 46 = .ok (.getfield 37, 3) := by decide +kernel
theorem dX2_addNode_49 : decode cX2_addNode 49 = .ok (.iload_n 3, 1) := by decide +kernel
theorem dX2_addNode_50 : decode cX2_addNode 50 = .ok (.iconst (-1), 1) := by decide +kernel
theorem dX2_addNode_51 : decode cX2_addNode 51 = .ok (.iastore, 1) := by decide +kernel
theorem dX2_addNode_52 : decode cX2_addNode 52 = .ok (.aload_n 0, 1) := by decide +kernel
theorem dX2_addNode_53 : decode cX2_addNode 53 = .ok (.getfield 40, 3) := by decide +kernel
theorem dX2_addNode_56 : decode cX2_addNode 56 = .ok (.iload_n 3, 1) := by decide +kernel
theorem dX2_addNode_57 : decode cX2_addNode 57 = .ok (.iconst (-1), 1) := by decide +kernel
theorem dX2_addNode_58 : decode cX2_addNode 58 = .ok (.iastore, 1) := by decide +kernel
theorem dX2_addNode_59 : decode cX2_addNode 59 = .ok (.aload_n 0, 1) := by decide +kernel
theorem dX2_addNode_60 : decode cX2_addNode 60 = .ok (.getfield 43, 3) := by decide +kernel
theorem dX2_addNode_63 : decode cX2_addNode 63 = .ok (.iload_n 3, 1) := by decide +kernel
theorem dX2_addNode_64 : decode cX2_addNode 64 = .ok (.iconst 0, 1) := by decide +kernel
theorem dX2_addNode_65 : decode cX2_addNode 65 = .ok (.iastore, 1) := by decide +kernel
theorem dX2_addNode_66 : decode cX2_addNode 66 = .ok (.aload_n 0, 1) := by decide +kernel
theorem dX2_addNode_67 : decode cX2_addNode 67 = .ok (.getfield 46, 3) := by decide +kernel
theorem dX2_addNode_70 : decode cX2_addNode 70 = .ok (.iload_n 3, 1) := by decide +kernel
theorem dX2_addNode_71 : decode cX2_addNode 71 = .ok (.iconst (-1), 1) := by decide +kernel
theorem dX2_addNode_72 : decode cX2_addNode 72 = .ok (.iastore, 1) := by decide +kernel
theorem dX2_addNode_73 : decode cX2_addNode 73 = .ok (.iload_n 1, 1) := by decide +kernel
theorem dX2_addNode_74 : decode cX2_addNode 74 = .ok (.ifCond .lt 22, 3) := by decide +kernel
theorem dX2_addNode_77 : decode cX2_addNode 77 = .ok (.aload_n 0, 1) := by decide +kernel
theorem dX2_addNode_78 : decode cX2_addNode 78 = .ok (.getfield 40, 3) := by decide +kernel
theorem dX2_addNode_81 : decode cX2_addNode 81 = .ok (.iload_n 3, 1) := by decide +kernel
theorem dX2_addNode_82 : decode cX2_addNode 82 = .ok (.aload_n 0, 1) := by decide +kernel
theorem dX2_addNode_83 : decode cX2_addNode 83 = .ok (.getfield 37, 3) := by decide +kernel
theorem dX2_addNode_86 : decode cX2_addNode 86 = .ok (.iload_n 1, 1) := by decide +kernel
theorem dX2_addNode_87 : decode cX2_addNode 87 = .ok (.iaload, 1) := by decide +kernel
theorem dX2_addNode_88 : decode cX2_addNode 88 = .ok (.iastore, 1) := by decide +kernel
theorem dX2_addNode_89 : decode cX2_addNode 89 = .ok (.aload_n 0, 1) := by decide +kernel
theorem dX2_addNode_90 : decode cX2_addNode 90 = .ok (.getfield 37, 3) := by decide +kernel
theorem dX2_addNode_93 : decode cX2_addNode 93 = .ok (.iload_n 1, 1) := by decide +kernel
theorem dX2_addNode_94 : decode cX2_addNode 94 = .ok (.iload_n 3, 1) := by decide +kernel
theorem dX2_addNode_95 : decode cX2_addNode 95 = .ok (.iastore, 1) := by decide +kernel
theorem dX2_addNode_96 : decode cX2_addNode 96 = .ok (.iload_n 3, 1) := by decide +kernel
theorem dX2_addNode_97 : decode cX2_addNode 97 = .ok (.ireturn, 1) := by decide +kernel
theorem dX2_childOf_0 : decode cX2_childOf 0 = .ok (.aload_n 0, 1) := by decide +kernel
theorem dX2_childOf_1 : decode cX2_childOf 1 = .ok (.getfield 37, 3) := by decide +kernel
theorem dX2_childOf_4 : decode cX2_childOf 4 = .ok (.iload_n 1, 1) := by decide +kernel
theorem dX2_childOf_5 : decode cX2_childOf 5 = .ok (.iaload, 1) := by decide +kernel
theorem dX2_childOf_6 : decode cX2_childOf 6 = .ok (.istore_n 3, 1) := by decide +kernel
theorem dX2_childOf_7 : decode cX2_childOf 7 = .ok (.iconst 0, 1) := by decide +kernel
theorem dX2_childOf_8 : decode cX2_childOf 8 = .ok (.istore 4, 2) := by decide +kernel
theorem dX2_childOf_10 : decode cX2_childOf 10 = .ok (.iload 4, 2) := by decide +kernel
theorem dX2_childOf_12 : decode cX2_childOf 12 = .ok (.bipush 26, 2) := by decide +kernel
theorem dX2_childOf_14 : decode cX2_childOf 14 = .ok (.if_icmp .gt 32, 3) := by decide +kernel
theorem dX2_childOf_17 : decode cX2_childOf 17 = .ok (.iload_n 3, 1) := by decide +kernel
theorem dX2_childOf_18 : decode cX2_childOf 18 = .ok (.ifCond .lt 28, 3) := by decide +kernel
theorem dX2_childOf_21 : decode cX2_childOf 21 = .ok (.aload_n 0, 1) := by decide +kernel
theorem dX2_childOf_22 : decode cX2_childOf 22 = .ok (.getfield 31, 3) := by decide +kernel
theorem dX2_childOf_25 : decode cX2_childOf 25 = .ok (.iload_n 3, 1) := by decide +kernel
theorem dX2_childOf_26 : decode cX2_childOf 26 = .ok (.iaload, 1) := by decide +kernel
theorem dX2_childOf_27 : decode cX2_childOf 27 = .ok (.iload_n 2, 1) := by decide +kernel
theorem dX2_childOf_28 : decode cX2_childOf 28 = .ok (.if_icmp .ne 5, 3) := by decide +kernel
theorem dX2_childOf_31 : decode cX2_childOf 31 = .ok (.iload_n 3, 1) := by decide +kernel
theorem dX2_childOf_32 : decode cX2_childOf 32 = .ok (.ireturn, 1) := by decide +kernel
theorem dX2_childOf_33 : decode cX2_childOf 33 = .ok (.aload_n 0, 1) := by decide +kernel
theorem dX2_childOf_34 : decode cX2_childOf 34 = .ok (.getfield 40, 3) := by decide +kernel
theorem dX2_childOf_37 : decode cX2_childOf 37 = .ok (.iload_n 3, 1) := by decide +kernel
theorem dX2_childOf_38 : decode cX2_childOf 38 = .ok (.iaload, 1) := by decide +kernel
theorem dX2_childOf_39 : decode cX2_childOf 39 = .ok (.istore_n 3, 1) := by decide +kernel
theorem dX2_childOf_40 : decode cX2_childOf 40 = .ok (.iinc 4 1, 3) := by decide +kernel
theorem dX2_childOf_43 : decode cX2_childOf 43 = .ok (.goto (-33), 3) := by decide +kernel
theorem dX2_childOf_46 : decode cX2_childOf 46 = .ok (.iconst (-1), 1) := by decide +kernel
theorem dX2_childOf_47 : decode cX2_childOf 47 = .ok (.ireturn, 1) := by decide +kernel
theorem dX2_countChildren_0 : decode cX2_countChildren 0 = .ok (.iconst 0, 1) := by decide +kernel
theorem dX2_countChildren_1 : decode cX2_countChildren 1 = .ok (.istore_n 2, 1) := by decide +kernel
theorem dX2_countChildren_2 : decode cX2_countChildren 2 = .ok (.aload_n 0, 1) := by decide +kernel
theorem dX2_countChildren_3 : decode cX2_countChildren 3 = .ok (.getfield 37, 3) := by decide +kernel
theorem dX2_countChildren_6 : decode cX2_countChildren 6 = .ok (.iload_n 1, 1) := by decide +kernel
theorem dX2_countChildren_7 : decode cX2_countChildren 7 = .ok (.iaload, 1) := by decide +kernel
theorem dX2_countChildren_8 : decode cX2_countChildren 8 = .ok (.istore_n 3, 1) := by decide +kernel
theorem dX2_countChildren_9 : decode cX2_countChildren 9 = .ok (.iconst 0, 1) := by decide +kernel
theorem dX2_countChildren_10 : decode cX2_countChildren 10 = .ok (.istore 4, 2) := by decide +kernel
theorem dX2_countChildren_12 : decode cX2_countChildren 12 = .ok (.iload 4, 2) := by decide +kernel
theorem dX2_countChildren_14 : decode cX2_countChildren 14 = .ok (.bipush 26, 2) := by decide +kernel
theorem dX2_countChildren_16 : decode cX2_countChildren 16 = .ok (.if_icmp .gt 23, 3) := by decide +kernel
theorem dX2_countChildren_19 : decode cX2_countChildren 19 = .ok (.iload_n 3, 1) := by decide +kernel
theorem dX2_countChildren_20 : decode cX2_countChildren 20 = .ok (.ifCond .lt 19, 3) := by decide +kernel
theorem dX2_countChildren_23 : decode cX2_countChildren 23 = .ok (.iinc 2 1, 3) := by decide +kernel
theorem dX2_countChildren_26 : decode cX2_countChildren 26 = .ok (.aload_n 0, 1) := by decide +kernel
theorem dX2_countChildren_27 : decode cX2_countChildren 27 = .ok (.getfield 40, 3) := by decide +kernel
theorem dX2_countChildren_30 : decode cX2_countChildren 30 = .ok (.iload_n 3, 1) := by decide +kernel
theorem dX2_countChildren_31 : decode cX2_countChildren 31 = .ok (.iaload, 1) := by decide +kernel
theorem dX2_countChildren_32 : decode cX2_countChildren 32 = .ok (.istore_n 3, 1) := by decide +kernel
theorem dX2_countChildren_33 : decode cX2_countChildren 33 = .ok (.iinc 4 1, 3) := by decide +kernel
theorem dX2_countChildren_36 : decode cX2_countChildren 36 = .ok (.goto (-24), 3) := by decide +kernel
theorem dX2_countChildren_39 : decode cX2_countChildren 39 = .ok (.iload_n 2, 1) := by decide +kernel
theorem dX2_countChildren_40 : decode cX2_countChildren 40 = .ok (.ireturn, 1) := by decide +kernel
theorem dX2_signOf_0 : decode cX2_signOf 0 = .ok (.aload_n 0, 1) := by decide +kernel
theorem dX2_signOf_1 : decode cX2_signOf 1 = .ok (.getfield 21, 3) := by decide +kernel
theorem dX2_signOf_4 : decode cX2_signOf 4 = .ok (.iload_n 1, 1) := by decide +kernel
theorem dX2_signOf_5 : decode cX2_signOf 5 = .ok (.bipush 12, 2) := by decide +kernel
theorem dX2_signOf_7 : decode cX2_signOf 7 = .ok (.imul, 1) := by decide +kernel
theorem dX2_signOf_8 : decode cX2_signOf 8 = .ok (.iload_n 2, 1) := by decide +kernel
theorem dX2_signOf_9 : decode cX2_signOf 9 = .ok (.iadd, 1) := by decide +kernel
theorem dX2_signOf_10 : decode cX2_signOf 10 = .ok (.iaload, 1) := by decide +kernel
theorem dX2_signOf_11 : decode cX2_signOf 11 = .ok (.ireturn, 1) := by decide +kernel
theorem dX2_look_0 : decode cX2_look 0 = .ok (.iconst 0, 1) := by decide +kernel
theorem dX2_look_1 : decode cX2_look 1 = .ok (.istore 4, 2) := by decide +kernel
theorem dX2_look_3 : decode cX2_look 3 = .ok (.iload_n 2, 1) := by decide +kernel
theorem dX2_look_4 : decode cX2_look 4 = .ok (.istore 5, 2) := by decide +kernel
theorem dX2_look_6 : decode cX2_look 6 = .ok (.iload 5, 2) := by decide +kernel
theorem dX2_look_8 : decode cX2_look 8 = .ok (.iload_n 2, 1) := by decide +kernel
theorem dX2_look_9 : decode cX2_look 9 = .ok (.iload_n 3, 1) := by decide +kernel
theorem dX2_look_10 : decode cX2_look 10 = .ok (.iadd, 1) := by decide +kernel
theorem dX2_look_11 : decode cX2_look 11 = .ok (.if_icmp .ge 29, 3) := by decide +kernel
theorem dX2_look_14 : decode cX2_look 14 = .ok (.aload_n 0, 1) := by decide +kernel
theorem dX2_look_15 : decode cX2_look 15 = .ok (.iload 4, 2) := by decide +kernel
theorem dX2_look_17 : decode cX2_look 17 = .ok (.aload_n 1, 1) := by decide +kernel
theorem dX2_look_18 : decode cX2_look 18 = .ok (.iload 5, 2) := by decide +kernel
theorem dX2_look_20 : decode cX2_look 20 = .ok (.iaload, 1) := by decide +kernel
theorem dX2_look_21 : decode cX2_look 21 = .ok (.invokevirtual 68, 3) := by decide +kernel
theorem dX2_look_24 : decode cX2_look 24 = .ok (.istore 4, 2) := by decide +kernel
theorem dX2_look_26 : decode cX2_look 26 = .ok (.iload 4, 2) := by decide +kernel
theorem dX2_look_28 : decode cX2_look 28 = .ok (.iconst (-1), 1) := by decide +kernel
theorem dX2_look_29 : decode cX2_look 29 = .ok (.if_icmp .ne 5, 3) := by decide +kernel
theorem dX2_look_32 : decode cX2_look 32 = .ok (.iconst (-1), 1) := by decide +kernel
theorem dX2_look_33 : decode cX2_look 33 = .ok (.ireturn, 1) := by decide +kernel
theorem dX2_look_34 : decode cX2_look 34 = .ok (.iinc 5 1, 3) := by decide +kernel
theorem dX2_look_37 : decode cX2_look 37 = .ok (.goto (-31), 3) := by decide +kernel
theorem dX2_look_40 : decode cX2_look 40 = .ok (.aload_n 0, 1) := by decide +kernel
theorem dX2_look_41 : decode cX2_look 41 = .ok (.getfield 34, 3) := by decide +kernel
theorem dX2_look_44 : decode cX2_look 44 = .ok (.iload 4, 2) := by decide +kernel
theorem dX2_look_46 : decode cX2_look 46 = .ok (.iaload, 1) := by decide +kernel
theorem dX2_look_47 : decode cX2_look 47 = .ok (.ireturn, 1) := by decide +kernel
theorem dX2_readText_0 : decode cX2_readText 0 = .ok (.aload_n 0, 1) := by decide +kernel
theorem dX2_readText_1 : decode cX2_readText 1 = .ok (.iconst 0, 1) := by decide +kernel
theorem dX2_readText_2 : decode cX2_readText 2 = .ok (.putfield 71, 3) := by decide +kernel
theorem dX2_readText_5 : decode cX2_readText 5 = .ok (.iconst 0, 1) := by decide +kernel
theorem dX2_readText_6 : decode cX2_readText 6 = .ok (.istore_n 2, 1) := by decide +kernel
theorem dX2_readText_7 : decode cX2_readText 7 = .ok (.iload_n 2, 1) := by decide +kernel
theorem dX2_readText_8 : decode cX2_readText 8 = .ok (.bipush 60, 2) := by decide +kernel
theorem dX2_readText_10 : decode cX2_readText 10 = .ok (.if_icmp .gt 40, 3) := by decide +kernel
theorem dX2_readText_13 : decode cX2_readText 13 = .ok (.aload_n 1, 1) := by decide +kernel
theorem dX2_readText_14 : decode cX2_readText 14 = .ok (.invokevirtual 74, 3) := by decide +kernel
theorem dX2_readText_17 : decode cX2_readText 17 = .ok (.aload_n 1, 1) := by decide +kernel
theorem dX2_readText_18 : decode cX2_readText 18 = .ok (.invokevirtual 79, 3) := by decide +kernel
theorem dX2_readText_21 : decode cX2_readText 21 = .ok (.ifCond .eq 13, 3) := by decide +kernel
theorem dX2_readText_24 : decode cX2_readText 24 = .ok (.aload_n 0, 1) := by decide +kernel
theorem dX2_readText_25 : decode cX2_readText 25 = .ok (.aload_n 1, 1) := by decide +kernel
theorem dX2_readText_26 : decode cX2_readText 26 = .ok (.getfield 83, 3) := by decide +kernel
theorem dX2_readText_29 : decode cX2_readText 29 = .ok (.invokevirtual 86, 3) := by decide +kernel
theorem dX2_readText_32 : decode cX2_readText 32 = .ok (.iconst 1, 1) := by decide +kernel
theorem dX2_readText_33 : decode cX2_readText 33 = .ok (.ireturn, 1) := by decide +kernel
theorem dX2_readText_34 : decode cX2_readText 34 = .ok (.aload_n 0, 1) := by decide +kernel
theorem dX2_readText_35 : decode cX2_readText 35 = .ok (.aload_n 1, 1) := by decide +kernel
theorem dX2_readText_36 : decode cX2_readText 36 = .ok (.invokevirtual 90, 3) := by decide +kernel
theorem dX2_readText_39 : decode cX2_readText 39 = .ok (.ifCond .ne 5, 3) := by decide +kernel
theorem dX2_readText_42 : decode cX2_readText 42 = .ok (.iconst 0, 1) := by decide +kernel
theorem dX2_readText_43 : decode cX2_readText 43 = .ok (.ireturn, 1) := by decide +kernel
theorem dX2_readText_44 : decode cX2_readText 44 = .ok (.iinc 2 1, 3) := by decide +kernel
theorem dX2_readText_47 : decode cX2_readText 47 = .ok (.goto (-40), 3) := by decide +kernel
theorem dX2_readText_50 : decode cX2_readText 50 = .ok (.iconst 0, 1) := by decide +kernel
theorem dX2_readText_51 : decode cX2_readText 51 = .ok (.ireturn, 1) := by decide +kernel
theorem dX2_readEntry_0 : decode cX2_readEntry 0 = .ok (.aload_n 1, 1) := by decide +kernel
theorem dX2_readEntry_1 : decode cX2_readEntry 1 = .ok (.getfield 94, 3) := by decide +kernel
theorem dX2_readEntry_4 : decode cX2_readEntry 4 = .ok (.istore_n 2, 1) := by decide +kernel
theorem dX2_readEntry_5 : decode cX2_readEntry 5 = .ok (.aload_n 1, 1) := by decide +kernel
theorem dX2_readEntry_6 : decode cX2_readEntry 6 = .ok (.iconst 0, 1) := by decide +kernel
theorem dX2_readEntry_7 : decode cX2_readEntry 7 = .ok (.invokevirtual 97, 3) := by decide +kernel
theorem dX2_readEntry_10 : decode cX2_readEntry 10 = .ok (.invokestatic 101, 3) := by decide +kernel
theorem dX2_readEntry_13 : decode cX2_readEntry 13 = .ok (.ifCond .ne 10, 3) := by decide +kernel
theorem dX2_readEntry_16 : decode cX2_readEntry 16 = .ok (.aload_n 1, 1) := by decide +kernel
theorem dX2_readEntry_17 : decode cX2_readEntry 17 = .ok (.iconst 1, 1) := by decide +kernel
theorem dX2_readEntry_18 : decode cX2_readEntry 18 = .ok (.iload_n 2, 1) := by decide +kernel
theorem dX2_readEntry_19 : decode cX2_readEntry 19 = .ok (.invokevirtual 105, 3) := by decide +kernel
theorem dX2_readEntry_22 : decode cX2_readEntry 22 = .ok (.ireturn, 1) := by decide +kernel
theorem dX2_readEntry_23 : decode cX2_readEntry 23 = .ok (.aload_n 0, 1) := by decide +kernel
theorem dX2_readEntry_24 : decode cX2_readEntry 24 = .ok (.getfield 61, 3) := by decide +kernel
theorem dX2_readEntry_27 : decode cX2_readEntry 27 = .ok (.aload_n 0, 1) := by decide +kernel
theorem dX2_readEntry_28 : decode cX2_readEntry 28 = .ok (.getfield 71, 3) := by decide +kernel
theorem dX2_readEntry_31 : decode cX2_readEntry 31 = .ok (.iadd, 1) := by decide +kernel
theorem dX2_readEntry_32 : decode cX2_readEntry 32 = .ok (.bipush 60, 2) := by decide +kernel
theorem dX2_readEntry_34 : decode cX2_readEntry 34 = .ok (.if_icmp .lt 10, 3) := by decide +kernel
theorem dX2_readEntry_37 : decode cX2_readEntry 37 = .ok (.aload_n 1, 1) := by decide +kernel
theorem dX2_readEntry_38 : decode cX2_readEntry 38 = .ok (.iconst 3, 1) := by decide +kernel
theorem dX2_readEntry_39 : decode cX2_readEntry 39 = .ok (.iload_n 2, 1) := by decide +kernel
theorem dX2_readEntry_40 : decode cX2_readEntry 40 = .ok (.invokevirtual 105, 3) := by decide +kernel
theorem dX2_readEntry_43 : decode cX2_readEntry 43 = .ok (.ireturn, 1) := by decide +kernel
theorem dX2_readEntry_44 : decode cX2_readEntry 44 = .ok (.aload_n 0, 1) := by decide +kernel
theorem dX2_readEntry_45 : decode cX2_readEntry 45 = .ok (.aload_n 1, 1) := by decide +kernel
theorem dX2_readEntry_46 : decode cX2_readEntry 46 = .ok (.invokevirtual 109, 3) := by decide +kernel
theorem dX2_readEntry_49 : decode cX2_readEntry 49 = .ok (.ifCond .ne 5, 3) := by decide +kernel
theorem dX2_readEntry_52 : decode cX2_readEntry 52 = .ok (.iconst 0, 1) := by decide +kernel
theorem dX2_readEntry_53 : decode cX2_readEntry 53 = .ok (.ireturn, 1) := by decide +kernel
theorem dX2_readEntry_54 : decode cX2_readEntry 54 = .ok (.aload_n 1, 1) := by decide +kernel
theorem dX2_readEntry_55 : decode cX2_readEntry 55 = .ok (.getfield 94, 3) := by decide +kernel
theorem dX2_readEntry_58 : decode cX2_readEntry 58 = .ok (.iload_n 2, 1) := by decide +kernel
theorem dX2_readEntry_59 : decode cX2_readEntry 59 = .ok (.isub, 1) := by decide +kernel
theorem dX2_readEntry_60 : decode cX2_readEntry 60 = .ok (.istore_n 3, 1) := by decide +kernel
theorem dX2_readEntry_61 : decode cX2_readEntry 61 = .ok (.aload_n 0, 1) := by decide +kernel
theorem dX2_readEntry_62 : decode cX2_readEntry 62 = .ok (.aload_n 1, 1) := by decide +kernel
theorem dX2_readEntry_63 : decode cX2_readEntry 63 = .ok (.getfield 83, 3) := by decide +kernel
theorem dX2_readEntry_66 : decode cX2_readEntry 66 = .ok (.iload_n 2, 1) := by decide +kernel
theorem dX2_readEntry_67 : decode cX2_readEntry 67 = .ok (.iload_n 3, 1) := by decide +kernel
theorem dX2_readEntry_68 : decode cX2_readEntry 68 = .ok (.invokevirtual 112, 3) := by decide +kernel
theorem dX2_readEntry_71 : decode cX2_readEntry 71 = .ok (.iconst (-1), 1) := by decide +kernel
theorem dX2_readEntry_72 : decode cX2_readEntry 72 = .ok (.if_icmp .ne 16, 3) := by decide +kernel
theorem dX2_readEntry_75 : decode cX2_readEntry 75 = .ok (.aload_n 0, 1) := by decide +kernel
theorem dX2_readEntry_76 : decode cX2_readEntry 76 = .ok (.aload_n 1, 1) := by decide +kernel
theorem dX2_readEntry_77 : decode cX2_readEntry 77 = .ok (.getfield 83, 3) := by decide +kernel
theorem dX2_readEntry_80 : decode cX2_readEntry 80 = .ok (.iload_n 2, 1) := by decide +kernel
theorem dX2_readEntry_81 : decode cX2_readEntry 81 = .ok (.iload_n 3, 1) := by decide +kernel
theorem dX2_readEntry_82 : decode cX2_readEntry 82 = .ok (.invokevirtual 116, 3) := by decide +kernel
theorem dX2_readEntry_85 : decode cX2_readEntry 85 = .ok (.ifCond .eq 10, 3) := by decide +kernel
theorem dX2_readEntry_88 : decode cX2_readEntry 88 = .ok (.aload_n 1, 1) := by decide +kernel
theorem dX2_readEntry_89 : decode cX2_readEntry 89 = .ok (.iconst 4, 1) := by decide +kernel
theorem dX2_readEntry_90 : decode cX2_readEntry 90 = .ok (.iload_n 2, 1) := by decide +kernel
theorem dX2_readEntry_91 : decode cX2_readEntry 91 = .ok (.invokevirtual 105, 3) := by decide +kernel
theorem dX2_readEntry_94 : decode cX2_readEntry 94 = .ok (.ireturn, 1) := by decide +kernel
theorem dX2_readEntry_95 : decode cX2_readEntry 95 = .ok (.aload_n 1, 1) := by decide +kernel
theorem dX2_readEntry_96 : decode cX2_readEntry 96 = .ok (.iconst 0, 1) := by decide +kernel
theorem dX2_readEntry_97 : decode cX2_readEntry 97 = .ok (.iconst 0, 1) := by decide +kernel
theorem dX2_readEntry_98 : decode cX2_readEntry 98 = .ok (.invokevirtual 120, 3) := by decide +kernel
theorem dX2_readEntry_101 : decode cX2_readEntry 101 = .ok (.istore 4, 2) := by decide +kernel
theorem dX2_readEntry_103 : decode cX2_readEntry 103 = .ok (.iload 4, 2) := by decide +kernel
theorem dX2_readEntry_105 : decode cX2_readEntry 105 = .ok (.iconst (-1), 1) := by decide +kernel
theorem dX2_readEntry_106 : decode cX2_readEntry 106 = .ok (.if_icmp .ne 5, 3) := by decide +kernel
theorem dX2_readEntry_109 : decode cX2_readEntry 109 = .ok (.iconst 0, 1) := by decide +kernel
theorem dX2_readEntry_110 : decode cX2_readEntry 110 = .ok (.ireturn, 1) := by decide +kernel
theorem dX2_readEntry_111 : decode cX2_readEntry 111 = .ok (.aload_n 0, 1) := by decide +kernel
theorem dX2_readEntry_112 : decode cX2_readEntry 112 = .ok (.getfield 49, 3) := by decide +kernel
theorem dX2_readEntry_115 : decode cX2_readEntry 115 = .ok (.aload_n 0, 1) := by decide +kernel
theorem dX2_readEntry_116 : decode cX2_readEntry 116 = .ok (.getfield 71, 3) := by decide +kernel
theorem dX2_readEntry_119 : decode cX2_readEntry 119 = .ok (.iload_n 2, 1) := by decide +kernel
theorem dX2_readEntry_120 : decode cX2_readEntry 120 = .ok (.iastore, 1) := by decide +kernel
theorem dX2_readEntry_121 : decode cX2_readEntry 121 = .ok (.aload_n 0, 1) := by decide +kernel
theorem dX2_readEntry_122 : decode cX2_readEntry 122 = .ok (.getfield 52, 3) := by decide +kernel
theorem dX2_readEntry_125 : decode cX2_readEntry 125 = .ok (.aload_n 0, 1) := by decide +kernel
theorem dX2_readEntry_126 : decode cX2_readEntry 126 = .ok (.getfield 71, 3) := by decide +kernel
theorem dX2_readEntry_129 : decode cX2_readEntry 129 = .ok (.iload_n 3, 1) := by decide +kernel
theorem dX2_readEntry_130 : decode cX2_readEntry 130 = .ok (.iastore, 1) := by decide +kernel
theorem dX2_readEntry_131 : decode cX2_readEntry 131 = .ok (.aload_n 0, 1) := by decide +kernel
theorem dX2_readEntry_132 : decode cX2_readEntry 132 = .ok (.getfield 55, 3) := by decide +kernel
theorem dX2_readEntry_135 : decode cX2_readEntry 135 = .ok (.aload_n 0, 1) := by decide +kernel
theorem dX2_readEntry_136 : decode cX2_readEntry 136 = .ok (.getfield 71, 3) := by decide +kernel
theorem dX2_readEntry_139 : decode cX2_readEntry 139 = .ok (.iload 4, 2) := by decide +kernel
theorem dX2_readEntry_141 : decode cX2_readEntry 141 = .ok (.iastore, 1) := by decide +kernel
theorem dX2_readEntry_142 : decode cX2_readEntry 142 = .ok (.aload_n 0, 1) := by decide +kernel
theorem dX2_readEntry_143 : decode cX2_readEntry 143 = .ok (.dup, 1) := by decide +kernel
theorem dX2_readEntry_144 : decode cX2_readEntry 144 = .ok (.getfield 71, 3) := by decide +kernel
theorem dX2_readEntry_147 : decode cX2_readEntry 147 = .ok (.iconst 1, 1) := by decide +kernel
theorem dX2_readEntry_148 : decode cX2_readEntry 148 = .ok (.iadd, 1) := by decide +kernel
theorem dX2_readEntry_149 : decode cX2_readEntry 149 = .ok (.putfield 71, 3) := by decide +kernel
theorem dX2_readEntry_152 : decode cX2_readEntry 152 = .ok (.iconst 1, 1) := by decide +kernel
theorem dX2_readEntry_153 : decode cX2_readEntry 153 = .ok (.ireturn, 1) := by decide +kernel
theorem dX2_passWord_0 : decode cX2_passWord 0 = .ok (.iconst (-1), 1) := by decide +kernel
theorem dX2_passWord_1 : decode cX2_passWord 1 = .ok (.istore_n 2, 1) := by decide +kernel
theorem dX2_passWord_2 : decode cX2_passWord 2 = .ok (.iconst 0, 1) := by decide +kernel
theorem dX2_passWord_3 : decode cX2_passWord 3 = .ok (.istore_n 3, 1) := by decide +kernel
theorem dX2_passWord_4 : decode cX2_passWord 4 = .ok (.iload_n 3, 1) := by decide +kernel
theorem dX2_passWord_5 : decode cX2_passWord 5 = .ok (.bipush 12, 2) := by decide +kernel
theorem dX2_passWord_7 : decode cX2_passWord 7 = .ok (.if_icmp .gt 84, 3) := by decide +kernel
theorem dX2_passWord_10 : decode cX2_passWord 10 = .ok (.aload_n 1, 1) := by decide +kernel
theorem dX2_passWord_11 : decode cX2_passWord 11 = .ok (.iconst 0, 1) := by decide +kernel
theorem dX2_passWord_12 : decode cX2_passWord 12 = .ok (.invokevirtual 97, 3) := by decide +kernel
theorem dX2_passWord_15 : decode cX2_passWord 15 = .ok (.istore 4, 2) := by decide +kernel
theorem dX2_passWord_17 : decode cX2_passWord 17 = .ok (.iload 4, 2) := by decide +kernel
theorem dX2_passWord_19 : decode cX2_passWord 19 = .ok (.invokestatic 101, 3) := by decide +kernel
theorem dX2_passWord_22 : decode cX2_passWord 22 = .ok (.ifCond .ne 34, 3) := by decide +kernel
theorem dX2_passWord_25 : decode cX2_passWord 25 = .ok (.iload 4, 2) := by decide +kernel
theorem dX2_passWord_27 : decode cX2_passWord 27 = .ok (.bipush 45, 2) := by decide +kernel
theorem dX2_passWord_29 : decode cX2_passWord 29 = .ok (.if_icmp .eq 27, 3) := by decide +kernel
theorem dX2_passWord_32 : decode cX2_passWord 32 = .ok (.iload_n 2, 1) := by decide +kernel
theorem dX2_passWord_33 : decode cX2_passWord 33 = .ok (.bipush 45, 2) := by decide +kernel
theorem dX2_passWord_35 : decode cX2_passWord 35 = .ok (.if_icmp .ne 15, 3) := by decide +kernel
theorem dX2_passWord_38 : decode cX2_passWord 38 = .ok (.aload_n 1, 1) := by decide +kernel
theorem dX2_passWord_39 : decode cX2_passWord 39 = .ok (.iconst 1, 1) := by decide +kernel
theorem dX2_passWord_40 : decode cX2_passWord 40 = .ok (.aload_n 1, 1) := by decide +kernel
theorem dX2_passWord_41 : decode cX2_passWord 41 = .ok (.getfield 94, 3) := by decide +kernel
theorem dX2_passWord_44 : decode cX2_passWord 44 = .ok (.invokevirtual 105, 3) := by decide +kernel
theorem dX2_passWord_47 : decode cX2_passWord 47 = .ok (.ifCond .eq 7, 3) := by decide +kernel
theorem dX2_passWord_50 : decode cX2_passWord 50 = .ok (.iconst 1, 1) := by decide +kernel
theorem dX2_passWord_51 : decode cX2_passWord 51 = .ok (.goto 4, 3) := by decide +kernel
theorem dX2_passWord_54 : decode cX2_passWord 54 = .ok (.iconst 0, 1) := by decide +kernel
theorem dX2_passWord_55 : decode cX2_passWord 55 = .ok (.ireturn, 1) := by decide +kernel
theorem dX2_passWord_56 : decode cX2_passWord 56 = .ok (.iload_n 3, 1) := by decide +kernel
theorem dX2_passWord_57 : decode cX2_passWord 57 = .ok (.bipush 12, 2) := by decide +kernel
theorem dX2_passWord_59 : decode cX2_passWord 59 = .ok (.if_icmp .ne 13, 3) := by decide +kernel
theorem dX2_passWord_62 : decode cX2_passWord 62 = .ok (.aload_n 1, 1) := by decide +kernel
theorem dX2_passWord_63 : decode cX2_passWord 63 = .ok (.iconst 3, 1) := by decide +kernel
theorem dX2_passWord_64 : decode cX2_passWord 64 = .ok (.aload_n 1, 1) := by decide +kernel
theorem dX2_passWord_65 : decode cX2_passWord 65 = .ok (.getfield 94, 3) := by decide +kernel
theorem dX2_passWord_68 : decode cX2_passWord 68 = .ok (.invokevirtual 105, 3) := by decide +kernel
theorem dX2_passWord_71 : decode cX2_passWord 71 = .ok (.ireturn, 1) := by decide +kernel
theorem dX2_passWord_72 : decode cX2_passWord 72 = .ok (.iload 4, 2) := by decide +kernel
theorem dX2_passWord_74 : decode cX2_passWord 74 = .ok (.istore_n 2, 1) := by decide +kernel
theorem dX2_passWord_75 : decode cX2_passWord 75 = .ok (.aload_n 1, 1) := by decide +kernel
theorem dX2_passWord_76 : decode cX2_passWord 76 = .ok (.dup, 1) := by decide +kernel
theorem dX2_passWord_77 : decode cX2_passWord 77 = .ok (.getfield 94, 3) := by decide +kernel
theorem dX2_passWord_80 : decode cX2_passWord 80 = .ok (.iconst 1, 1) := by decide +kernel
theorem dX2_passWord_81 : decode cX2_passWord 81 = .ok (.iadd, 1) := by decide +kernel
theorem dX2_passWord_82 : decode cX2_passWord 82 = .ok (.putfield 94, 3) := by decide +kernel
theorem dX2_passWord_85 : decode cX2_passWord 85 = .ok (.iinc 3 1, 3) := by decide +kernel
theorem dX2_passWord_88 : decode cX2_passWord 88 = .ok (.goto (-84), 3) := by decide +kernel
theorem dX2_passWord_91 : decode cX2_passWord 91 = .ok (.iconst 0, 1) := by decide +kernel
theorem dX2_passWord_92 : decode cX2_passWord 92 = .ok (.ireturn, 1) := by decide +kernel
theorem dX2_isFresh_0 : decode cX2_isFresh 0 = .ok (.iconst 0, 1) := by decide +kernel
theorem dX2_isFresh_1 : decode cX2_isFresh 1 = .ok (.istore 4, 2) := by decide +kernel
theorem dX2_isFresh_3 : decode cX2_isFresh 3 = .ok (.iload 4, 2) := by decide +kernel
theorem dX2_isFresh_5 : decode cX2_isFresh 5 = .ok (.aload_n 0, 1) := by decide +kernel
theorem dX2_isFresh_6 : decode cX2_isFresh 6 = .ok (.getfield 71, 3) := by decide +kernel
theorem dX2_isFresh_9 : decode cX2_isFresh 9 = .ok (.if_icmp .ge 64, 3) := by decide +kernel
theorem dX2_isFresh_12 : decode cX2_isFresh 12 = .ok (.iconst 0, 1) := by decide +kernel
theorem dX2_isFresh_13 : decode cX2_isFresh 13 = .ok (.istore 5, 2) := by decide +kernel
theorem dX2_isFresh_15 : decode cX2_isFresh 15 = .ok (.aload_n 0, 1) := by decide +kernel
theorem dX2_isFresh_16 : decode cX2_isFresh 16 = .ok (.getfield 52, 3) := by decide +kernel
theorem dX2_isFresh_19 : decode cX2_isFresh 19 = .ok (.iload 4, 2) := by decide +kernel
theorem dX2_isFresh_21 : decode cX2_isFresh 21 = .ok (.iaload, 1) := by decide +kernel
theorem dX2_isFresh_22 : decode cX2_isFresh 22 = .ok (.iload_n 3, 1) := by decide +kernel
theorem dX2_isFresh_23 : decode cX2_isFresh 23 = .ok (.if_icmp .ne 36, 3) := by decide +kernel
theorem dX2_isFresh_26 : decode cX2_isFresh 26 = .ok (.iload 5, 2) := by decide +kernel
theorem dX2_isFresh_28 : decode cX2_isFresh 28 = .ok (.iload_n 3, 1) := by decide +kernel
theorem dX2_isFresh_29 : decode cX2_isFresh 29 = .ok (.if_icmp .ge 30, 3) := by decide +kernel
theorem dX2_isFresh_32 : decode cX2_isFresh 32 = .ok (.aload_n 1, 1) := by decide +kernel
theorem dX2_isFresh_33 : decode cX2_isFresh 33 = .ok (.aload_n 0, 1) := by decide +kernel
theorem dX2_isFresh_34 : decode cX2_isFresh 34 = .ok (.getfield 49, 3) := by decide +kernel
theorem dX2_isFresh_37 : decode cX2_isFresh 37 = .ok (.iload 4, 2) := by decide +kernel
theorem dX2_isFresh_39 : decode cX2_isFresh 39 = .ok (.iaload, 1) := by decide +kernel
theorem dX2_isFresh_40 : decode cX2_isFresh 40 = .ok (.iload 5, 2) := by decide +kernel
theorem dX2_isFresh_42 : decode cX2_isFresh 42 = .ok (.iadd, 1) := by decide +kernel
theorem dX2_isFresh_43 : decode cX2_isFresh 43 = .ok (.iaload, 1) := by decide +kernel
theorem dX2_isFresh_44 : decode cX2_isFresh 44 = .ok (.aload_n 1, 1) := by decide +kernel
theorem dX2_isFresh_45 : decode cX2_isFresh 45 = .ok (.iload_n 2, 1) := by decide +kernel
theorem dX2_isFresh_46 : decode cX2_isFresh 46 = .ok (.iload 5, 2) := by decide +kernel
theorem dX2_isFresh_48 : decode cX2_isFresh 48 = .ok (.iadd, 1) := by decide +kernel
theorem dX2_isFresh_49 : decode cX2_isFresh 49 = .ok (.iaload, 1) := by decide +kernel
theorem dX2_isFresh_50 : decode cX2_isFresh 50 = .ok (.if_icmp .ne 9, 3) := by decide +kernel
theorem dX2_isFresh_53 : decode cX2_isFresh 53 = .ok (.iinc 5 1, 3) := by decide +kernel
theorem dX2_isFresh_56 : decode cX2_isFresh 56 = .ok (.goto (-41), 3) := by decide +kernel
theorem dX2_isFresh_59 : decode cX2_isFresh 59 = .ok (.iload 5, 2) := by decide +kernel
theorem dX2_isFresh_61 : decode cX2_isFresh 61 = .ok (.iload_n 3, 1) := by decide +kernel
theorem dX2_isFresh_62 : decode cX2_isFresh 62 = .ok (.if_icmp .ne 5, 3) := by decide +kernel
theorem dX2_isFresh_65 : decode cX2_isFresh 65 = .ok (.iconst 1, 1) := by decide +kernel
theorem dX2_isFresh_66 : decode cX2_isFresh 66 = .ok (.ireturn, 1) := by decide +kernel
theorem dX2_isFresh_67 : decode cX2_isFresh 67 = .ok (.iinc 4 1, 3) := by decide +kernel
theorem dX2_isFresh_70 : decode cX2_isFresh 70 = .ok (.goto (-67), 3) := by decide +kernel
theorem dX2_isFresh_73 : decode cX2_isFresh 73 = .ok (.iconst 0, 1) := by decide +kernel
theorem dX2_isFresh_74 : decode cX2_isFresh 74 = .ok (.ireturn, 1) := by decide +kernel
theorem dX2_addFresh_0 : decode cX2_addFresh 0 = .ok (.iconst 0, 1) := by decide +kernel
theorem dX2_addFresh_1 : decode cX2_addFresh 1 = .ok (.istore_n 2, 1) := by decide +kernel
theorem dX2_addFresh_2 : decode cX2_addFresh 2 = .ok (.iload_n 2, 1) := by decide +kernel
theorem dX2_addFresh_3 : decode cX2_addFresh 3 = .ok (.aload_n 0, 1) := by decide +kernel
theorem dX2_addFresh_4 : decode cX2_addFresh 4 = .ok (.getfield 71, 3) := by decide +kernel
theorem dX2_addFresh_7 : decode cX2_addFresh 7 = .ok (.if_icmp .ge 60, 3) := by decide +kernel
theorem dX2_addFresh_10 : decode cX2_addFresh 10 = .ok (.aload_n 0, 1) := by decide +kernel
theorem dX2_addFresh_11 : decode cX2_addFresh 11 = .ok (.getfield 61, 3) := by decide +kernel
theorem dX2_addFresh_14 : decode cX2_addFresh 14 = .ok (.bipush 60, 2) := by decide +kernel
theorem dX2_addFresh_16 : decode cX2_addFresh 16 = .ok (.if_icmp .ge 51, 3) := by decide +kernel
theorem dX2_addFresh_19 : decode cX2_addFresh 19 = .ok (.aload_n 0, 1) := by decide +kernel
theorem dX2_addFresh_20 : decode cX2_addFresh 20 = .ok (.aload_n 1, 1) := by decide +kernel
theorem dX2_addFresh_21 : decode cX2_addFresh 21 = .ok (.aload_n 0, 1) := by decide +kernel
theorem dX2_addFresh_22 : decode cX2_addFresh 22 = .ok (.getfield 49, 3) := by decide +kernel
theorem dX2_addFresh_25 : decode cX2_addFresh 25 = .ok (.iload_n 2, 1) := by decide +kernel
theorem dX2_addFresh_26 : decode cX2_addFresh 26 = .ok (.iaload, 1) := by decide +kernel
theorem dX2_addFresh_27 : decode cX2_addFresh 27 = .ok (.aload_n 0, 1) := by decide +kernel
theorem dX2_addFresh_28 : decode cX2_addFresh 28 = .ok (.getfield 52, 3) := by decide +kernel
theorem dX2_addFresh_31 : decode cX2_addFresh 31 = .ok (.iload_n 2, 1) := by decide +kernel
theorem dX2_addFresh_32 : decode cX2_addFresh 32 = .ok (.iaload, 1) := by decide +kernel
theorem dX2_addFresh_33 : decode cX2_addFresh 33 = .ok (.invokevirtual 123, 3) := by decide +kernel
theorem dX2_addFresh_36 : decode cX2_addFresh 36 = .ok (.aload_n 0, 1) := by decide +kernel
theorem dX2_addFresh_37 : decode cX2_addFresh 37 = .ok (.getfield 15, 3) := by decide +kernel
theorem dX2_addFresh_40 : decode cX2_addFresh 40 = .ok (.aload_n 0, 1) := by decide +kernel
theorem dX2_addFresh_41 : decode cX2_addFresh 41 = .ok (.getfield 61, 3) := by decide +kernel
theorem dX2_addFresh_44 : decode cX2_addFresh 44 = .ok (.aload_n 0, 1) := by decide +kernel
theorem dX2_addFresh_45 : decode cX2_addFresh 45 = .ok (.getfield 55, 3) := by decide +kernel
theorem dX2_addFresh_48 : decode cX2_addFresh 48 = .ok (.iload_n 2, 1) := by decide +kernel
theorem dX2_addFresh_49 : decode cX2_addFresh 49 = .ok (.iaload, 1) := by decide +kernel
theorem dX2_addFresh_50 : decode cX2_addFresh 50 = .ok (.iastore, 1) := by decide +kernel
theorem dX2_addFresh_51 : decode cX2_addFresh 51 = .ok (.aload_n 0, 1) := by decide +kernel
theorem dX2_addFresh_52 : decode cX2_addFresh 52 = .ok (.dup, 1) := by decide +kernel
theorem dX2_addFresh_53 : decode cX2_addFresh 53 = .ok (.getfield 61, 3) := by decide +kernel
theorem dX2_addFresh_56 : decode cX2_addFresh 56 = .ok (.iconst 1, 1) := by decide +kernel
theorem dX2_addFresh_57 : decode cX2_addFresh 57 = .ok (.iadd, 1) := by decide +kernel
theorem dX2_addFresh_58 : decode cX2_addFresh 58 = .ok (.putfield 61, 3) := by decide +kernel
theorem dX2_addFresh_61 : decode cX2_addFresh 61 = .ok (.iinc 2 1, 3) := by decide +kernel
theorem dX2_addFresh_64 : decode cX2_addFresh 64 = .ok (.goto (-62), 3) := by decide +kernel
theorem dX2_addFresh_67 : decode cX2_addFresh 67 = .ok (.aload_n 0, 1) := by decide +kernel
theorem dX2_addFresh_68 : decode cX2_addFresh 68 = .ok (.invokevirtual 127, 3) := by decide +kernel
theorem dX2_addFresh_71 : decode cX2_addFresh 71 = .ok (.return_, 1) := by decide +kernel
theorem dX2_addWord_0 : decode cX2_addWord 0 = .ok (.iconst 0, 1) := by decide +kernel
theorem dX2_addWord_1 : decode cX2_addWord 1 = .ok (.istore 4, 2) := by decide +kernel
theorem dX2_addWord_3 : decode cX2_addWord 3 = .ok (.aload_n 0, 1) := by decide +kernel
theorem dX2_addWord_4 : decode cX2_addWord 4 = .ok (.getfield 43, 3) := by decide +kernel
theorem dX2_addWord_7 : decode cX2_addWord 7 = .ok (.iconst 0, 1) := by decide +kernel
theorem dX2_addWord_8 : decode cX2_addWord 8 = .ok (.dup2, 1) := by decide +kernel
theorem dX2_addWord_9 : decode cX2_addWord 9 = .ok (.iaload, 1) := by decide +kernel
theorem dX2_addWord_10 : decode cX2_addWord 10 = .ok (.iconst 1, 1) := by decide +kernel
theorem dX2_addWord_11 : decode cX2_addWord 11 = .ok (.iadd, 1) := by decide +kernel
theorem dX2_addWord_12 : decode cX2_addWord 12 = .ok (.iastore, 1) := by decide +kernel
theorem dX2_addWord_13 : decode cX2_addWord 13 = .ok (.iconst 0, 1) := by decide +kernel
theorem dX2_addWord_14 : decode cX2_addWord 14 = .ok (.istore 5, 2) := by decide +kernel
theorem dX2_addWord_16 : decode cX2_addWord 16 = .ok (.iload 5, 2) := by decide +kernel
theorem dX2_addWord_18 : decode cX2_addWord 18 = .ok (.iload_n 3, 1) := by decide +kernel
theorem dX2_addWord_19 : decode cX2_addWord 19 = .ok (.if_icmp .ge 89, 3) := by decide +kernel
theorem dX2_addWord_22 : decode cX2_addWord 22 = .ok (.iload 5, 2) := by decide +kernel
theorem dX2_addWord_24 : decode cX2_addWord 24 = .ok (.bipush 12, 2) := by decide +kernel
theorem dX2_addWord_26 : decode cX2_addWord 26 = .ok (.if_icmp .ge 82, 3) := by decide +kernel
theorem dX2_addWord_29 : decode cX2_addWord 29 = .ok (.aload_n 1, 1) := by decide +kernel
theorem dX2_addWord_30 : decode cX2_addWord 30 = .ok (.iload_n 2, 1) := by decide +kernel
theorem dX2_addWord_31 : decode cX2_addWord 31 = .ok (.iload 5, 2) := by decide +kernel
theorem dX2_addWord_33 : decode cX2_addWord 33 = .ok (.iadd, 1) := by decide +kernel
theorem dX2_addWord_34 : decode cX2_addWord 34 = .ok (.iaload, 1) := by decide +kernel
theorem dX2_addWord_35 : decode cX2_addWord 35 = .ok (.istore 6, 2) := by decide +kernel
theorem dX2_addWord_37 : decode cX2_addWord 37 = .ok (.aload_n 0, 1) := by decide +kernel
theorem dX2_addWord_38 : decode cX2_addWord 38 = .ok (.getfield 21, 3) := by decide +kernel
theorem dX2_addWord_41 : decode cX2_addWord 41 = .ok (.aload_n 0, 1) := by decide +kernel
theorem dX2_addWord_42 : decode cX2_addWord 42 = .ok (.getfield 61, 3) := by decide +kernel
theorem dX2_addWord_45 : decode cX2_addWord 45 = .ok (.bipush 12, 2) := by decide +kernel
theorem dX2_addWord_47 : decode cX2_addWord 47 = .ok (.imul, 1) := by decide +kernel
theorem dX2_addWord_48 : decode cX2_addWord 48 = .ok (.iload 5, 2) := by decide +kernel
theorem dX2_addWord_50 : decode cX2_addWord 50 = .ok (.iadd, 1) := by decide +kernel
theorem dX2_addWord_51 : decode cX2_addWord 51 = .ok (.iload 6, 2) := by decide +kernel
theorem dX2_addWord_53 : decode cX2_addWord 53 = .ok (.iastore, 1) := by decide +kernel
theorem dX2_addWord_54 : decode cX2_addWord 54 = .ok (.aload_n 0, 1) := by decide +kernel
theorem dX2_addWord_55 : decode cX2_addWord 55 = .ok (.iload 4, 2) := by decide +kernel
theorem dX2_addWord_57 : decode cX2_addWord 57 = .ok (.iload 6, 2) := by decide +kernel
theorem dX2_addWord_59 : decode cX2_addWord 59 = .ok (.invokevirtual 68, 3) := by decide +kernel
theorem dX2_addWord_62 : decode cX2_addWord 62 = .ok (.istore 7, 2) := by decide +kernel
theorem dX2_addWord_64 : decode cX2_addWord 64 = .ok (.iload 7, 2) := by decide +kernel
theorem dX2_addWord_66 : decode cX2_addWord 66 = .ok (.iconst (-1), 1) := by decide +kernel
theorem dX2_addWord_67 : decode cX2_addWord 67 = .ok (.if_icmp .ne 13, 3) := by decide +kernel
theorem dX2_addWord_70 : decode cX2_addWord 70 = .ok (.aload_n 0, 1) := by decide +kernel
theorem dX2_addWord_71 : decode cX2_addWord 71 = .ok (.iload 4, 2) := by decide +kernel
theorem dX2_addWord_73 : decode cX2_addWord 73 = .ok (.iload 6, 2) := by decide +kernel
theorem dX2_addWord_75 : decode cX2_addWord 75 = .ok (.invokevirtual 64, 3) := by decide +kernel
theorem dX2_addWord_78 : decode cX2_addWord 78 = .ok (.istore 7, 2) := by decide +kernel
theorem dX2_addWord_80 : decode cX2_addWord 80 = .ok (.iload 7, 2) := by decide +kernel
theorem dX2_addWord_82 : decode cX2_addWord 82 = .ok (.iconst (-1), 1) := by decide +kernel
theorem dX2_addWord_83 : decode cX2_addWord 83 = .ok (.if_icmp .ne 4, 3) := by decide +kernel
theorem dX2_addWord_86 : decode cX2_addWord 86 = .ok (.return_, 1) := by decide +kernel
theorem dX2_addWord_87 : decode cX2_addWord 87 = .ok (.iload 7, 2) := by decide +kernel
theorem dX2_addWord_89 : decode cX2_addWord 89 = .ok (.istore 4, 2) := by decide +kernel
theorem dX2_addWord_91 : decode cX2_addWord 91 = .ok (.aload_n 0, 1) := by decide +kernel
theorem dX2_addWord_92 : decode cX2_addWord 92 = .ok (.getfield 43, 3) := by decide +kernel
theorem dX2_addWord_95 : decode cX2_addWord 95 = .ok (.iload 4, 2) := by decide +kernel
theorem dX2_addWord_97 : decode cX2_addWord 97 = .ok (.dup2, 1) := by decide +kernel
theorem dX2_addWord_98 : decode cX2_addWord 98 = .ok (.iaload, 1) := by decide +kernel
theorem dX2_addWord_99 : decode cX2_addWord 99 = .ok (.iconst 1, 1) := by decide +kernel
theorem dX2_addWord_100 : decode cX2_addWord 100 = .ok (.iadd, 1) := by decide +kernel
theorem dX2_addWord_101 : decode cX2_addWord 101 = .ok (.iastore, 1) := by decide +kernel
theorem dX2_addWord_102 : decode cX2_addWord 102 = .ok (.iinc 5 1, 3) := by decide +kernel
theorem dX2_addWord_105 : decode cX2_addWord 105 = .ok (.goto (-89), 3) := by decide +kernel
theorem dX2_addWord_108 : decode cX2_addWord 108 = .ok (.aload_n 0, 1) := by decide +kernel
theorem dX2_addWord_109 : decode cX2_addWord 109 = .ok (.getfield 9, 3) := by decide +kernel
theorem dX2_addWord_112 : decode cX2_addWord 112 = .ok (.aload_n 0, 1) := by decide +kernel
theorem dX2_addWord_113 : decode cX2_addWord 113 = .ok (.getfield 61, 3) := by decide +kernel
theorem dX2_addWord_116 : decode cX2_addWord 116 = .ok (.iload_n 3, 1) := by decide +kernel
theorem dX2_addWord_117 : decode cX2_addWord 117 = .ok (.iastore, 1) := by decide +kernel
theorem dX2_addWord_118 : decode cX2_addWord 118 = .ok (.aload_n 0, 1) := by decide +kernel
theorem dX2_addWord_119 : decode cX2_addWord 119 = .ok (.getfield 18, 3) := by decide +kernel
theorem dX2_addWord_122 : decode cX2_addWord 122 = .ok (.aload_n 0, 1) := by decide +kernel
theorem dX2_addWord_123 : decode cX2_addWord 123 = .ok (.getfield 61, 3) := by decide +kernel
theorem dX2_addWord_126 : decode cX2_addWord 126 = .ok (.iload 4, 2) := by decide +kernel
theorem dX2_addWord_128 : decode cX2_addWord 128 = .ok (.iastore, 1) := by decide +kernel
theorem dX2_addWord_129 : decode cX2_addWord 129 = .ok (.aload_n 0, 1) := by decide +kernel
theorem dX2_addWord_130 : decode cX2_addWord 130 = .ok (.getfield 34, 3) := by decide +kernel
theorem dX2_addWord_133 : decode cX2_addWord 133 = .ok (.iload 4, 2) := by decide +kernel
theorem dX2_addWord_135 : decode cX2_addWord 135 = .ok (.aload_n 0, 1) := by decide +kernel
theorem dX2_addWord_136 : decode cX2_addWord 136 = .ok (.getfield 61, 3) := by decide +kernel
theorem dX2_addWord_139 : decode cX2_addWord 139 = .ok (.iastore, 1) := by decide +kernel
theorem dX2_addWord_140 : decode cX2_addWord 140 = .ok (.return_, 1) := by decide +kernel
theorem dX2_weighWord_0 : decode cX2_weighWord 0 = .ok (.aload_n 0, 1) := by decide +kernel
theorem dX2_weighWord_1 : decode cX2_weighWord 1 = .ok (.getfield 15, 3) := by decide +kernel
theorem dX2_weighWord_4 : decode cX2_weighWord 4 = .ok (.iload_n 1, 1) := by decide +kernel
theorem dX2_weighWord_5 : decode cX2_weighWord 5 = .ok (.iload_n 2, 1) := by decide +kernel
theorem dX2_weighWord_6 : decode cX2_weighWord 6 = .ok (.iastore, 1) := by decide +kernel
theorem dX2_weighWord_7 : decode cX2_weighWord 7 = .ok (.aload_n 0, 1) := by decide +kernel
theorem dX2_weighWord_8 : decode cX2_weighWord 8 = .ok (.invokevirtual 127, 3) := by decide +kernel
theorem dX2_weighWord_11 : decode cX2_weighWord 11 = .ok (.return_, 1) := by decide +kernel
theorem dX2_findLeast_0 : decode cX2_findLeast 0 = .ok (.iconst 0, 1) := by decide +kernel
theorem dX2_findLeast_1 : decode cX2_findLeast 1 = .ok (.istore_n 1, 1) := by decide +kernel
theorem dX2_findLeast_2 : decode cX2_findLeast 2 = .ok (.iload_n 1, 1) := by decide +kernel
theorem dX2_findLeast_3 : decode cX2_findLeast 3 = .ok (.aload_n 0, 1) := by decide +kernel
theorem dX2_findLeast_4 : decode cX2_findLeast 4 = .ok (.getfield 24, 3) := by decide +kernel
theorem dX2_findLeast_7 : decode cX2_findLeast 7 = .ok (.if_icmp .ge 16, 3) := by decide +kernel
theorem dX2_findLeast_10 : decode cX2_findLeast 10 = .ok (.aload_n 0, 1) := by decide +kernel
theorem dX2_findLeast_11 : decode cX2_findLeast 11 = .ok (.getfield 46, 3) := by decide +kernel
theorem dX2_findLeast_14 : decode cX2_findLeast 14 = .ok (.iload_n 1, 1) := by decide +kernel
theorem dX2_findLeast_15 : decode cX2_findLeast 15 = .ok (.iconst (-1), 1) := by decide +kernel
theorem dX2_findLeast_16 : decode cX2_findLeast 16 = .ok (.iastore, 1) := by decide +kernel
theorem dX2_findLeast_17 : decode cX2_findLeast 17 = .ok (.iinc 1 1, 3) := by decide +kernel
theorem dX2_findLeast_20 : decode cX2_findLeast 20 = .ok (.goto (-18), 3) := by decide +kernel
theorem dX2_findLeast_23 : decode cX2_findLeast 23 = .ok (.iconst 0, 1) := by decide +kernel
theorem dX2_findLeast_24 : decode cX2_findLeast 24 = .ok (.istore_n 1, 1) := by decide +kernel
theorem dX2_findLeast_25 : decode cX2_findLeast 25 = .ok (.iload_n 1, 1) := by decide +kernel
theorem dX2_findLeast_26 : decode cX2_findLeast 26 = .ok (.aload_n 0, 1) := by decide +kernel
theorem dX2_findLeast_27 : decode cX2_findLeast 27 = .ok (.getfield 61, 3) := by decide +kernel
theorem dX2_findLeast_30 : decode cX2_findLeast 30 = .ok (.if_icmp .ge 78, 3) := by decide +kernel
theorem dX2_findLeast_33 : decode cX2_findLeast 33 = .ok (.aload_n 0, 1) := by decide +kernel
theorem dX2_findLeast_34 : decode cX2_findLeast 34 = .ok (.getfield 18, 3) := by decide +kernel
theorem dX2_findLeast_37 : decode cX2_findLeast 37 = .ok (.iload_n 1, 1) := by decide +kernel
theorem dX2_findLeast_38 : decode cX2_findLeast 38 = .ok (.iaload, 1) := by decide +kernel
theorem dX2_findLeast_39 : decode cX2_findLeast 39 = .ok (.istore_n 2, 1) := by decide +kernel
theorem dX2_findLeast_40 : decode cX2_findLeast 40 = .ok (.iconst 0, 1) := by decide +kernel
theorem dX2_findLeast_41 : decode cX2_findLeast 41 = .ok (.istore_n 3, 1) := by decide +kernel
theorem dX2_findLeast_42 : decode cX2_findLeast 42 = .ok (.iload_n 3, 1) := by decide +kernel
theorem dX2_findLeast_43 : decode cX2_findLeast 43 = .ok (.bipush 12, 2) := by decide +kernel
theorem dX2_findLeast_45 : decode cX2_findLeast 45 = .ok (.if_icmp .gt 57, 3) := by decide +kernel
theorem dX2_findLeast_48 : decode cX2_findLeast 48 = .ok (.iload_n 2, 1) := by decide +kernel
theorem dX2_findLeast_49 : decode cX2_findLeast 49 = .ok (.ifCond .lt 53, 3) := by decide +kernel
theorem dX2_findLeast_52 : decode cX2_findLeast 52 = .ok (.aload_n 0, 1) := by decide +kernel
theorem dX2_findLeast_53 : decode cX2_findLeast 53 = .ok (.getfield 46, 3) := by decide +kernel
theorem dX2_findLeast_56 : decode cX2_findLeast 56 = .ok (.iload_n 2, 1) := by decide +kernel
theorem dX2_findLeast_57 : decode cX2_findLeast 57 = .ok (.iaload, 1) := by decide +kernel
theorem dX2_findLeast_58 : decode cX2_findLeast 58 = .ok (.iconst (-1), 1) := by decide +kernel
theorem dX2_findLeast_59 : decode cX2_findLeast 59 = .ok (.if_icmp .eq 18, 3) := by decide +kernel
theorem dX2_findLeast_62 : decode cX2_findLeast 62 = .ok (.aload_n 0, 1) := by decide +kernel
theorem dX2_findLeast_63 : decode cX2_findLeast 63 = .ok (.getfield 15, 3) := by decide +kernel
theorem dX2_findLeast_66 : decode cX2_findLeast 66 = .ok (.iload_n 1, 1) := by decide +kernel
theorem dX2_findLeast_67 : decode cX2_findLeast 67 = .ok (.iaload, 1) := by decide +kernel
theorem dX2_findLeast_68 : decode cX2_findLeast 68 = .ok (.aload_n 0, 1) := by decide +kernel
theorem dX2_findLeast_69 : decode cX2_findLeast 69 = .ok (.getfield 46, 3) := by decide +kernel
theorem dX2_findLeast_72 : decode cX2_findLeast 72 = .ok (.iload_n 2, 1) := by decide +kernel
theorem dX2_findLeast_73 : decode cX2_findLeast 73 = .ok (.iaload, 1) := by decide +kernel
theorem dX2_findLeast_74 : decode cX2_findLeast 74 = .ok (.if_icmp .ge 15, 3) := by decide +kernel
theorem dX2_findLeast_77 : decode cX2_findLeast 77 = .ok (.aload_n 0, 1) := by decide +kernel
theorem dX2_findLeast_78 : decode cX2_findLeast 78 = .ok (.getfield 46, 3) := by decide +kernel
theorem dX2_findLeast_81 : decode cX2_findLeast 81 = .ok (.iload_n 2, 1) := by decide +kernel
theorem dX2_findLeast_82 : decode cX2_findLeast 82 = .ok (.aload_n 0, 1) := by decide +kernel
theorem dX2_findLeast_83 : decode cX2_findLeast 83 = .ok (.getfield 15, 3) := by decide +kernel
theorem dX2_findLeast_86 : decode cX2_findLeast 86 = .ok (.iload_n 1, 1) := by decide +kernel
theorem dX2_findLeast_87 : decode cX2_findLeast 87 = .ok (.iaload, 1) := by decide +kernel
theorem dX2_findLeast_88 : decode cX2_findLeast 88 = .ok (.iastore, 1) := by decide +kernel
theorem dX2_findLeast_89 : decode cX2_findLeast 89 = .ok (.aload_n 0, 1) := by decide +kernel
theorem dX2_findLeast_90 : decode cX2_findLeast 90 = .ok (.getfield 28, 3) := by decide +kernel
theorem dX2_findLeast_93 : decode cX2_findLeast 93 = .ok (.iload_n 2, 1) := by decide +kernel
theorem dX2_findLeast_94 : decode cX2_findLeast 94 = .ok (.iaload, 1) := by decide +kernel
theorem dX2_findLeast_95 : decode cX2_findLeast 95 = .ok (.istore_n 2, 1) := by decide +kernel
theorem dX2_findLeast_96 : decode cX2_findLeast 96 = .ok (.iinc 3 1, 3) := by decide +kernel
theorem dX2_findLeast_99 : decode cX2_findLeast 99 = .ok (.goto (-57), 3) := by decide +kernel
theorem dX2_findLeast_102 : decode cX2_findLeast 102 = .ok (.iinc 1 1, 3) := by decide +kernel
theorem dX2_findLeast_105 : decode cX2_findLeast 105 = .ok (.goto (-80), 3) := by decide +kernel
theorem dX2_findLeast_108 : decode cX2_findLeast 108 = .ok (.return_, 1) := by decide +kernel
theorem dX3_init_0 : decode cX3_init 0 = .ok (.aload_n 0, 1) := by decide +kernel
theorem dX3_init_1 : decode cX3_init 1 = .ok (.invokespecial 3, 3) := by decide +kernel
theorem dX3_init_4 : decode cX3_init 4 = .ok (.aload_n 0, 1) := by decide +kernel
theorem dX3_init_5 : decode cX3_init 5 = .ok (.sipush 1000, 3) := by decide +kernel
theorem dX3_init_8 : decode cX3_init 8 = .ok (.newarray .int, 2) := by decide +kernel
theorem dX3_init_10 : decode cX3_init 10 = .ok (.putfield 11, 3) := by decide +kernel
theorem dX3_init_13 : decode cX3_init 13 = .ok (.aload_n 0, 1) := by decide +kernel
theorem dX3_init_14 : decode cX3_init 14 = .ok (.bipush 40, 2) := by decide +kernel
theorem dX3_init_16 : decode cX3_init 16 = .ok (.newarray .boolean, 2) := by decide +kernel
theorem dX3_init_18 : decode cX3_init 18 = .ok (.putfield 15, 3) := by decide +kernel
theorem dX3_init_21 : decode cX3_init 21 = .ok (.aload_n 0, 1) := by decide +kernel
theorem dX3_init_22 : decode cX3_init 22 = .ok (.bipush 42, 2) := by decide +kernel
theorem dX3_init_24 : decode cX3_init 24 = .ok (.newarray .int, 2) := by decide +kernel
theorem dX3_init_26 : decode cX3_init 26 = .ok (.putfield 19, 3) := by decide +kernel
theorem dX3_init_29 : decode cX3_init 29 = .ok (.aload_n 0, 1) := by decide +kernel
theorem dX3_init_30 : decode cX3_init 30 = .ok (.aload_n 1, 1) := by decide +kernel
theorem dX3_init_31 : decode cX3_init 31 = .ok (.putfield 22, 3) := by decide +kernel
theorem dX3_init_34 : decode cX3_init 34 = .ok (.aload_n 0, 1) := by decide +kernel
theorem dX3_init_35 : decode cX3_init 35 = .ok (.aload_n 2, 1) := by decide +kernel
theorem dX3_init_36 : decode cX3_init 36 = .ok (.putfield 26, 3) := by decide +kernel
theorem dX3_init_39 : decode cX3_init 39 = .ok (.aload_n 0, 1) := by decide +kernel
theorem dX3_init_40 : decode cX3_init 40 = .ok (.aload_n 3, 1) := by decide +kernel
theorem dX3_init_41 : decode cX3_init 41 = .ok (.putfield 30, 3) := by decide +kernel
theorem dX3_init_44 : decode cX3_init 44 = .ok (.return_, 1) := by decide +kernel
theorem dX3_make_0 : decode cX3_make 0 = .ok (.aload_n 0, 1) := by decide +kernel
theorem dX3_make_1 : decode cX3_make 1 = .ok (.getfield 34, 3) := by decide +kernel
theorem dX3_make_4 : decode cX3_make 4 = .ok (.ifCond .eq 4, 3) := by decide +kernel
theorem dX3_make_7 : decode cX3_make 7 = .ok (.return_, 1) := by decide +kernel
theorem dX3_make_8 : decode cX3_make 8 = .ok (.aload_n 0, 1) := by decide +kernel
theorem dX3_make_9 : decode cX3_make 9 = .ok (.getfield 19, 3) := by decide +kernel
theorem dX3_make_12 : decode cX3_make 12 = .ok (.aload_n 0, 1) := by decide +kernel
theorem dX3_make_13 : decode cX3_make 13 = .ok (.getfield 26, 3) := by decide +kernel
theorem dX3_make_16 : decode cX3_make 16 = .ok (.getfield 38, 3) := by decide +kernel
theorem dX3_make_19 : decode cX3_make 19 = .ok (.iconst 0, 1) := by decide +kernel
theorem dX3_make_20 : decode cX3_make 20 = .ok (.iastore, 1) := by decide +kernel
theorem dX3_make_21 : decode cX3_make 21 = .ok (.aload_n 0, 1) := by decide +kernel
theorem dX3_make_22 : decode cX3_make 22 = .ok (.getfield 26, 3) := by decide +kernel
theorem dX3_make_25 : decode cX3_make 25 = .ok (.getfield 38, 3) := by decide +kernel
theorem dX3_make_28 : decode cX3_make 28 = .ok (.iconst 1, 1) := by decide +kernel
theorem dX3_make_29 : decode cX3_make 29 = .ok (.isub, 1) := by decide +kernel
theorem dX3_make_30 : decode cX3_make 30 = .ok (.istore_n 1, 1) := by decide +kernel
theorem dX3_make_31 : decode cX3_make 31 = .ok (.iload_n 1, 1) := by decide +kernel
theorem dX3_make_32 : decode cX3_make 32 = .ok (.ifCond .lt 41, 3) := by decide +kernel
theorem dX3_make_35 : decode cX3_make 35 = .ok (.aload_n 0, 1) := by decide +kernel
theorem dX3_make_36 : decode cX3_make 36 = .ok (.getfield 30, 3) := by decide +kernel
theorem dX3_make_39 : decode cX3_make 39 = .ok (.iload_n 1, 1) := by decide +kernel
theorem dX3_make_40 : decode cX3_make 40 = .ok (.invokevirtual 44, 3) := by decide +kernel
theorem dX3_make_43 : decode cX3_make 43 = .ok (.aload_n 0, 1) := by decide +kernel
theorem dX3_make_44 : decode cX3_make 44 = .ok (.getfield 30, 3) := by decide +kernel
theorem dX3_make_47 : decode cX3_make 47 = .ok (.iload_n 1, 1) := by decide +kernel
theorem dX3_make_48 : decode cX3_make 48 = .ok (.invokevirtual 50, 3) := by decide +kernel
theorem dX3_make_51 : decode cX3_make 51 = .ok (.ifCond .eq 11, 3) := by decide +kernel
theorem dX3_make_54 : decode cX3_make 54 = .ok (.aload_n 0, 1) := by decide +kernel
theorem dX3_make_55 : decode cX3_make 55 = .ok (.getfield 30, 3) := by decide +kernel
theorem dX3_make_58 : decode cX3_make 58 = .ok (.iload_n 1, 1) := by decide +kernel
theorem dX3_make_59 : decode cX3_make 59 = .ok (.invokevirtual 54, 3) := by decide +kernel
theorem dX3_make_62 : decode cX3_make 62 = .ok (.aload_n 0, 1) := by decide +kernel
theorem dX3_make_63 : decode cX3_make 63 = .ok (.iload_n 1, 1) := by decide +kernel
theorem dX3_make_64 : decode cX3_make 64 = .ok (.invokevirtual 57, 3) := by decide +kernel
theorem dX3_make_67 : decode cX3_make 67 = .ok (.iinc 1 (-1), 3) := by decide +kernel
theorem dX3_make_70 : decode cX3_make 70 = .ok (.goto (-39), 3) := by decide +kernel
theorem dX3_make_73 : decode cX3_make 73 = .ok (.aload_n 0, 1) := by decide +kernel
theorem dX3_make_74 : decode cX3_make 74 = .ok (.aload_n 0, 1) := by decide +kernel
theorem dX3_make_75 : decode cX3_make 75 = .ok (.getfield 19, 3) := by decide +kernel
theorem dX3_make_78 : decode cX3_make 78 = .ok (.iconst 0, 1) := by decide +kernel
theorem dX3_make_79 : decode cX3_make 79 = .ok (.iaload, 1) := by decide +kernel
theorem dX3_make_80 : decode cX3_make 80 = .ok (.putfield 60, 3) := by decide +kernel
theorem dX3_make_83 : decode cX3_make 83 = .ok (.aload_n 0, 1) := by decide +kernel
theorem dX3_make_84 : decode cX3_make 84 = .ok (.iconst 0, 1) := by decide +kernel
theorem dX3_make_85 : decode cX3_make 85 = .ok (.putfield 63, 3) := by decide +kernel
theorem dX3_make_88 : decode cX3_make 88 = .ok (.aload_n 0, 1) := by decide +kernel
theorem dX3_make_89 : decode cX3_make 89 = .ok (.iconst 0, 1) := by decide +kernel
theorem dX3_make_90 : decode cX3_make 90 = .ok (.putfield 66, 3) := by decide +kernel
theorem dX3_make_93 : decode cX3_make 93 = .ok (.aload_n 0, 1) := by decide +kernel
theorem dX3_make_94 : decode cX3_make 94 = .ok (.iconst 0, 1) := by decide +kernel
theorem dX3_make_95 : decode cX3_make 95 = .ok (.putfield 69, 3) := by decide +kernel
theorem dX3_make_98 : decode cX3_make 98 = .ok (.aload_n 0, 1) := by decide +kernel
theorem dX3_make_99 : decode cX3_make 99 = .ok (.invokevirtual 72, 3) := by decide +kernel
theorem dX3_make_102 : decode cX3_make 102 = .ok (.aload_n 0, 1) := by decide +kernel
theorem dX3_make_103 : decode cX3_make 103 = .ok (.iconst 1, 1) := by decide +kernel
theorem dX3_make_104 : decode cX3_make 104 = .ok (.putfield 34, 3) := by decide +kernel
theorem dX3_make_107 : decode cX3_make 107 = .ok (.return_, 1) := by decide +kernel
theorem dX3_choose_0 : decode cX3_choose 0 = .ok (.aload_n 0, 1) := by decide +kernel
theorem dX3_choose_1 : decode cX3_choose 1 = .ok (.getfield 19, 3) := by decide +kernel
theorem dX3_choose_4 : decode cX3_choose 4 = .ok (.iload_n 1, 1) := by decide +kernel
theorem dX3_choose_5 : decode cX3_choose 5 = .ok (.aload_n 0, 1) := by decide +kernel
theorem dX3_choose_6 : decode cX3_choose 6 = .ok (.getfield 30, 3) := by decide +kernel
theorem dX3_choose_9 : decode cX3_choose 9 = .ok (.iload_n 1, 1) := by decide +kernel
theorem dX3_choose_10 : decode cX3_choose 10 = .ok (.invokevirtual 75, 3) := by decide +kernel
theorem dX3_choose_13 : decode cX3_choose 13 = .ok (.aload_n 0, 1) := by decide +kernel
theorem dX3_choose_14 : decode cX3_choose 14 = .ok (.getfield 19, 3) := by decide +kernel
theorem dX3_choose_17 : decode cX3_choose 17 = .ok (.iload_n 1, 1) := by decide +kernel
theorem dX3_choose_18 : decode cX3_choose 18 = .ok (.iconst 1, 1) := by decide +kernel
theorem dX3_choose_19 : decode cX3_choose 19 = .ok (.iadd, 1) := by decide +kernel
theorem dX3_choose_20 : decode cX3_choose 20 = .ok (.iaload, 1) := by decide +kernel
theorem dX3_choose_21 : decode cX3_choose 21 = .ok (.iadd, 1) := by decide +kernel
theorem dX3_choose_22 : decode cX3_choose 22 = .ok (.iastore, 1) := by decide +kernel
theorem dX3_choose_23 : decode cX3_choose 23 = .ok (.aload_n 0, 1) := by decide +kernel
theorem dX3_choose_24 : decode cX3_choose 24 = .ok (.getfield 15, 3) := by decide +kernel
theorem dX3_choose_27 : decode cX3_choose 27 = .ok (.iload_n 1, 1) := by decide +kernel
theorem dX3_choose_28 : decode cX3_choose 28 = .ok (.iconst 0, 1) := by decide +kernel
theorem dX3_choose_29 : decode cX3_choose 29 = .ok (.bastore, 1) := by decide +kernel
theorem dX3_choose_30 : decode cX3_choose 30 = .ok (.aload_n 0, 1) := by decide +kernel
theorem dX3_choose_31 : decode cX3_choose 31 = .ok (.getfield 30, 3) := by decide +kernel
theorem dX3_choose_34 : decode cX3_choose 34 = .ok (.iload_n 1, 1) := by decide +kernel
theorem dX3_choose_35 : decode cX3_choose 35 = .ok (.invokevirtual 50, 3) := by decide +kernel
theorem dX3_choose_38 : decode cX3_choose 38 = .ok (.ifCond .eq 14, 3) := by decide +kernel
theorem dX3_choose_41 : decode cX3_choose 41 = .ok (.aload_n 0, 1) := by decide +kernel
theorem dX3_choose_42 : decode cX3_choose 42 = .ok (.getfield 30, 3) := by decide +kernel
theorem dX3_choose_45 : decode cX3_choose 45 = .ok (.iload_n 1, 1) := by decide +kernel
theorem dX3_choose_46 : decode cX3_choose 46 = .ok (.invokevirtual 79, 3) := by decide +kernel
theorem dX3_choose_49 : decode cX3_choose 49 = .ok (.goto 4, 3) := by decide +kernel
theorem dX3_choose_52 : decode cX3_choose 52 = .ok (.iconst (-1), 1) := by decide +kernel
theorem dX3_choose_53 : decode cX3_choose 53 = .ok (.istore_n 2, 1) := by decide +kernel
theorem dX3_choose_54 : decode cX3_choose 54 = .ok (.iload_n 2, 1) := by decide +kernel
theorem dX3_choose_55 : decode cX3_choose 55 = .ok (.iconst (-1), 1) := by decide +kernel
theorem dX3_choose_56 : decode cX3_choose 56 = .ok (.if_icmp .eq 45, 3) := by decide +kernel
theorem dX3_choose_59 : decode cX3_choose 59 = .ok (.iload_n 2, 1) := by decide +kernel
theorem dX3_choose_60 : decode cX3_choose 60 = .ok (.aload_n 0, 1) := by decide +kernel
theorem dX3_choose_61 : decode cX3_choose 61 = .ok (.getfield 19, 3) := by decide +kernel
theorem dX3_choose_64 : decode cX3_choose 64 = .ok (.iload_n 1, 1) := by decide +kernel
theorem dX3_choose_65 : decode cX3_choose 65 = .ok (.iconst 2, 1) := by decide +kernel
theorem dX3_choose_66 : decode cX3_choose 66 = .ok (.iadd, 1) := by decide +kernel
theorem dX3_choose_67 : decode cX3_choose 67 = .ok (.iaload, 1) := by decide +kernel
theorem dX3_choose_68 : decode cX3_choose 68 = .ok (.iadd, 1) := by decide +kernel
theorem dX3_choose_69 : decode cX3_choose 69 = .ok (.aload_n 0, 1) := by decide +kernel
theorem dX3_choose_70 : decode cX3_choose 70 = .ok (.getfield 19, 3) := by decide +kernel
theorem dX3_choose_73 : decode cX3_choose 73 = .ok (.iload_n 1, 1) := by decide +kernel
theorem dX3_choose_74 : decode cX3_choose 74 = .ok (.iaload, 1) := by decide +kernel
theorem dX3_choose_75 : decode cX3_choose 75 = .ok (.if_icmp .ge 26, 3) := by decide +kernel
theorem dX3_choose_78 : decode cX3_choose 78 = .ok (.aload_n 0, 1) := by decide +kernel
theorem dX3_choose_79 : decode cX3_choose 79 = .ok (.getfield 19, 3) := by decide +kernel
theorem dX3_choose_82 : decode cX3_choose 82 = .ok (.iload_n 1, 1) := by decide +kernel
theorem dX3_choose_83 : decode cX3_choose 83 = .ok (.iload_n 2, 1) := by decide +kernel
theorem dX3_choose_84 : decode cX3_choose 84 = .ok (.aload_n 0, 1) := by decide +kernel
theorem dX3_choose_85 : decode cX3_choose 85 = .ok (.getfield 19, 3) := by decide +kernel
theorem dX3_choose_88 : decode cX3_choose 88 = .ok (.iload_n 1, 1) := by decide +kernel
theorem dX3_choose_89 : decode cX3_choose 89 = .ok (.iconst 2, 1) := by decide +kernel
theorem dX3_choose_90 : decode cX3_choose 90 = .ok (.iadd, 1) := by decide +kernel
theorem dX3_choose_91 : decode cX3_choose 91 = .ok (.iaload, 1) := by decide +kernel
theorem dX3_choose_92 : decode cX3_choose 92 = .ok (.iadd, 1) := by decide +kernel
theorem dX3_choose_93 : decode cX3_choose 93 = .ok (.iastore, 1) := by decide +kernel
theorem dX3_choose_94 : decode cX3_choose 94 = .ok (.aload_n 0, 1) := by decide +kernel
theorem dX3_choose_95 : decode cX3_choose 95 = .ok (.getfield 15, 3) := by decide +kernel
theorem dX3_choose_98 : decode cX3_choose 98 = .ok (.iload_n 1, 1) := by decide +kernel
theorem dX3_choose_99 : decode cX3_choose 99 = .ok (.iconst 1, 1) := by decide +kernel
theorem dX3_choose_100 : decode cX3_choose 100 = .ok (.bastore, 1) := by decide +kernel
theorem dX3_choose_101 : decode cX3_choose 101 = .ok (.return_, 1) := by decide +kernel
theorem dX3_write_0 : decode cX3_write 0 = .ok (.iconst 0, 1) := by decide +kernel
theorem dX3_write_1 : decode cX3_write 1 = .ok (.istore_n 1, 1) := by decide +kernel
theorem dX3_write_2 : decode cX3_write 2 = .ok (.iconst 0, 1) := by decide +kernel
theorem dX3_write_3 : decode cX3_write 3 = .ok (.istore_n 2, 1) := by decide +kernel
theorem dX3_write_4 : decode cX3_write 4 = .ok (.iload_n 2, 1) := by decide +kernel
theorem dX3_write_5 : decode cX3_write 5 = .ok (.bipush 40, 2) := by decide +kernel
theorem dX3_write_7 : decode cX3_write 7 = .ok (.if_icmp .ge 66, 3) := by decide +kernel
theorem dX3_write_10 : decode cX3_write 10 = .ok (.iload_n 1, 1) := by decide +kernel
theorem dX3_write_11 : decode cX3_write 11 = .ok (.aload_n 0, 1) := by decide +kernel
theorem dX3_write_12 : decode cX3_write 12 = .ok (.getfield 26, 3) := by decide +kernel
theorem dX3_write_15 : decode cX3_write 15 = .ok (.getfield 38, 3) := by decide +kernel
theorem dX3_write_18 : decode cX3_write 18 = .ok (.if_icmp .ge 55, 3) := by decide +kernel
theorem dX3_write_21 : decode cX3_write 21 = .ok (.aload_n 0, 1) := by decide +kernel
theorem dX3_write_22 : decode cX3_write 22 = .ok (.iload_n 1, 1) := by decide +kernel
theorem dX3_write_23 : decode cX3_write 23 = .ok (.invokevirtual 82, 3) := by decide +kernel
theorem dX3_write_26 : decode cX3_write 26 = .ok (.istore_n 3, 1) := by decide +kernel
theorem dX3_write_27 : decode cX3_write 27 = .ok (.iload_n 3, 1) := by decide +kernel
theorem dX3_write_28 : decode cX3_write 28 = .ok (.iconst 1, 1) := by decide +kernel
theorem dX3_write_29 : decode cX3_write 29 = .ok (.iadd, 1) := by decide +kernel
theorem dX3_write_30 : decode cX3_write 30 = .ok (.aload_n 0, 1) := by decide +kernel
theorem dX3_write_31 : decode cX3_write 31 = .ok (.getfield 26, 3) := by decide +kernel
theorem dX3_write_34 : decode cX3_write 34 = .ok (.getfield 38, 3) := by decide +kernel
theorem dX3_write_37 : decode cX3_write 37 = .ok (.if_icmp .ge 26, 3) := by decide +kernel
theorem dX3_write_40 : decode cX3_write 40 = .ok (.aload_n 0, 1) := by decide +kernel
theorem dX3_write_41 : decode cX3_write 41 = .ok (.aload_n 0, 1) := by decide +kernel
theorem dX3_write_42 : decode cX3_write 42 = .ok (.getfield 26, 3) := by decide +kernel
theorem dX3_write_45 : decode cX3_write 45 = .ok (.getfield 85, 3) := by decide +kernel
theorem dX3_write_48 : decode cX3_write 48 = .ok (.iload_n 3, 1) := by decide +kernel
theorem dX3_write_49 : decode cX3_write 49 = .ok (.baload, 1) := by decide +kernel
theorem dX3_write_50 : decode cX3_write 50 = .ok (.ifCond .eq 8, 3) := by decide +kernel
theorem dX3_write_53 : decode cX3_write 53 = .ok (.bipush 10, 2) := by decide +kernel
theorem dX3_write_55 : decode cX3_write 55 = .ok (.goto 5, 3) := by decide +kernel
theorem dX3_write_58 : decode cX3_write 58 = .ok (.bipush 32, 2) := by decide +kernel
theorem dX3_write_60 : decode cX3_write 60 = .ok (.invokevirtual 88, 3) := by decide +kernel
theorem dX3_write_63 : decode cX3_write 63 = .ok (.iload_n 3, 1) := by decide +kernel
theorem dX3_write_64 : decode cX3_write 64 = .ok (.iconst 1, 1) := by decide +kernel
theorem dX3_write_65 : decode cX3_write 65 = .ok (.iadd, 1) := by decide +kernel
theorem dX3_write_66 : decode cX3_write 66 = .ok (.istore_n 1, 1) := by decide +kernel
theorem dX3_write_67 : decode cX3_write 67 = .ok (.iinc 2 1, 3) := by decide +kernel
theorem dX3_write_70 : decode cX3_write 70 = .ok (.goto (-66), 3) := by decide +kernel
theorem dX3_write_73 : decode cX3_write 73 = .ok (.return_, 1) := by decide +kernel
theorem dX3_writeOne_0 : decode cX3_writeOne 0 = .ok (.aload_n 0, 1) := by decide +kernel
theorem dX3_writeOne_1 : decode cX3_writeOne 1 = .ok (.getfield 15, 3) := by decide +kernel
theorem dX3_writeOne_4 : decode cX3_writeOne 4 = .ok (.iload_n 1, 1) := by decide +kernel
theorem dX3_writeOne_5 : decode cX3_writeOne 5 = .ok (.baload, 1) := by decide +kernel
theorem dX3_writeOne_6 : decode cX3_writeOne 6 = .ok (.ifCond .eq 42, 3) := by decide +kernel
theorem dX3_writeOne_9 : decode cX3_writeOne 9 = .ok (.aload_n 0, 1) := by decide +kernel
theorem dX3_writeOne_10 : decode cX3_writeOne 10 = .ok (.dup, 1) := by decide +kernel
theorem dX3_writeOne_11 : decode cX3_writeOne 11 = .ok (.getfield 66, 3) := by decide +kernel
theorem dX3_writeOne_14 : decode cX3_writeOne 14 = .ok (.iconst 1, 1) := by decide +kernel
theorem dX3_writeOne_15 : decode cX3_writeOne 15 = .ok (.iadd, 1) := by decide +kernel
theorem dX3_writeOne_16 : decode cX3_writeOne 16 = .ok (.putfield 66, 3) := by decide +kernel
theorem dX3_writeOne_19 : decode cX3_writeOne 19 = .ok (.aload_n 0, 1) := by decide +kernel
theorem dX3_writeOne_20 : decode cX3_writeOne 20 = .ok (.aload_n 0, 1) := by decide +kernel
theorem dX3_writeOne_21 : decode cX3_writeOne 21 = .ok (.getfield 30, 3) := by decide +kernel
theorem dX3_writeOne_24 : decode cX3_writeOne 24 = .ok (.bipush 40, 2) := by decide +kernel
theorem dX3_writeOne_26 : decode cX3_writeOne 26 = .ok (.iload_n 1, 1) := by decide +kernel
theorem dX3_writeOne_27 : decode cX3_writeOne 27 = .ok (.iadd, 1) := by decide +kernel
theorem dX3_writeOne_28 : decode cX3_writeOne 28 = .ok (.iconst 0, 1) := by decide +kernel
theorem dX3_writeOne_29 : decode cX3_writeOne 29 = .ok (.invokevirtual 91, 3) := by decide +kernel
theorem dX3_writeOne_32 : decode cX3_writeOne 32 = .ok (.invokevirtual 95, 3) := by decide +kernel
theorem dX3_writeOne_35 : decode cX3_writeOne 35 = .ok (.aload_n 0, 1) := by decide +kernel
theorem dX3_writeOne_36 : decode cX3_writeOne 36 = .ok (.getfield 15, 3) := by decide +kernel
theorem dX3_writeOne_39 : decode cX3_writeOne 39 = .ok (.iload_n 1, 1) := by decide +kernel
theorem dX3_writeOne_40 : decode cX3_writeOne 40 = .ok (.iconst 1, 1) := by decide +kernel
theorem dX3_writeOne_41 : decode cX3_writeOne 41 = .ok (.iadd, 1) := by decide +kernel
theorem dX3_writeOne_42 : decode cX3_writeOne 42 = .ok (.iconst 0, 1) := by decide +kernel
theorem dX3_writeOne_43 : decode cX3_writeOne 43 = .ok (.bastore, 1) := by decide +kernel
theorem dX3_writeOne_44 : decode cX3_writeOne 44 = .ok (.iload_n 1, 1) := by decide +kernel
theorem dX3_writeOne_45 : decode cX3_writeOne 45 = .ok (.iconst 1, 1) := by decide +kernel
theorem dX3_writeOne_46 : decode cX3_writeOne 46 = .ok (.iadd, 1) := by decide +kernel
theorem dX3_writeOne_47 : decode cX3_writeOne 47 = .ok (.ireturn, 1) := by decide +kernel
theorem dX3_writeOne_48 : decode cX3_writeOne 48 = .ok (.aload_n 0, 1) := by decide +kernel
theorem dX3_writeOne_49 : decode cX3_writeOne 49 = .ok (.getfield 30, 3) := by decide +kernel
theorem dX3_writeOne_52 : decode cX3_writeOne 52 = .ok (.iload_n 1, 1) := by decide +kernel
theorem dX3_writeOne_53 : decode cX3_writeOne 53 = .ok (.iconst 0, 1) := by decide +kernel
theorem dX3_writeOne_54 : decode cX3_writeOne 54 = .ok (.invokevirtual 98, 3) := by decide +kernel
theorem dX3_writeOne_57 : decode cX3_writeOne 57 = .ok (.istore_n 2, 1) := by decide +kernel
theorem dX3_writeOne_58 : decode cX3_writeOne 58 = .ok (.iload_n 2, 1) := by decide +kernel
theorem dX3_writeOne_59 : decode cX3_writeOne 59 = .ok (.iconst (-1), 1) := by decide +kernel
theorem dX3_writeOne_60 : decode cX3_writeOne 60 = .ok (.if_icmp .ne 21, 3) := by decide +kernel
theorem dX3_writeOne_63 : decode cX3_writeOne 63 = .ok (.aload_n 0, 1) := by decide +kernel
theorem dX3_writeOne_64 : decode cX3_writeOne 64 = .ok (.dup, 1) := by decide +kernel
theorem dX3_writeOne_65 : decode cX3_writeOne 65 = .ok (.getfield 69, 3) := by decide +kernel
theorem dX3_writeOne_68 : decode cX3_writeOne 68 = .ok (.iconst 1, 1) := by decide +kernel
theorem dX3_writeOne_69 : decode cX3_writeOne 69 = .ok (.iadd, 1) := by decide +kernel
theorem dX3_writeOne_70 : decode cX3_writeOne 70 = .ok (.putfield 69, 3) := by decide +kernel
theorem dX3_writeOne_73 : decode cX3_writeOne 73 = .ok (.aload_n 0, 1) := by decide +kernel
theorem dX3_writeOne_74 : decode cX3_writeOne 74 = .ok (.iload_n 1, 1) := by decide +kernel
theorem dX3_writeOne_75 : decode cX3_writeOne 75 = .ok (.invokevirtual 101, 3) := by decide +kernel
theorem dX3_writeOne_78 : decode cX3_writeOne 78 = .ok (.goto 8, 3) := by decide +kernel
theorem dX3_writeOne_81 : decode cX3_writeOne 81 = .ok (.aload_n 0, 1) := by decide +kernel
theorem dX3_writeOne_82 : decode cX3_writeOne 82 = .ok (.iload_n 2, 1) := by decide +kernel
theorem dX3_writeOne_83 : decode cX3_writeOne 83 = .ok (.invokevirtual 95, 3) := by decide +kernel
theorem dX3_writeOne_86 : decode cX3_writeOne 86 = .ok (.iload_n 1, 1) := by decide +kernel
theorem dX3_writeOne_87 : decode cX3_writeOne 87 = .ok (.ireturn, 1) := by decide +kernel
theorem dX3_writeWord_0 : decode cX3_writeWord 0 = .ok (.iconst 0, 1) := by decide +kernel
theorem dX3_writeWord_1 : decode cX3_writeWord 1 = .ok (.istore_n 2, 1) := by decide +kernel
theorem dX3_writeWord_2 : decode cX3_writeWord 2 = .ok (.iload_n 2, 1) := by decide +kernel
theorem dX3_writeWord_3 : decode cX3_writeWord 3 = .ok (.aload_n 0, 1) := by decide +kernel
theorem dX3_writeWord_4 : decode cX3_writeWord 4 = .ok (.getfield 22, 3) := by decide +kernel
theorem dX3_writeWord_7 : decode cX3_writeWord 7 = .ok (.getfield 104, 3) := by decide +kernel
theorem dX3_writeWord_10 : decode cX3_writeWord 10 = .ok (.iload_n 1, 1) := by decide +kernel
theorem dX3_writeWord_11 : decode cX3_writeWord 11 = .ok (.iaload, 1) := by decide +kernel
theorem dX3_writeWord_12 : decode cX3_writeWord 12 = .ok (.if_icmp .ge 22, 3) := by decide +kernel
theorem dX3_writeWord_15 : decode cX3_writeWord 15 = .ok (.aload_n 0, 1) := by decide +kernel
theorem dX3_writeWord_16 : decode cX3_writeWord 16 = .ok (.aload_n 0, 1) := by decide +kernel
theorem dX3_writeWord_17 : decode cX3_writeWord 17 = .ok (.getfield 22, 3) := by decide +kernel
theorem dX3_writeWord_20 : decode cX3_writeWord 20 = .ok (.iload_n 1, 1) := by decide +kernel
theorem dX3_writeWord_21 : decode cX3_writeWord 21 = .ok (.iload_n 2, 1) := by decide +kernel
theorem dX3_writeWord_22 : decode cX3_writeWord 22 = .ok (.invokevirtual 109, 3) := by decide +kernel
theorem dX3_writeWord_25 : decode cX3_writeWord 25 = .ok (.invokevirtual 88, 3) := by decide +kernel
theorem dX3_writeWord_28 : decode cX3_writeWord 28 = .ok (.iinc 2 1, 3) := by decide +kernel
theorem dX3_writeWord_31 : decode cX3_writeWord 31 = .ok (.goto (-29), 3) := by decide +kernel
theorem dX3_writeWord_34 : decode cX3_writeWord 34 = .ok (.return_, 1) := by decide +kernel
theorem dX3_writeCells_0 : decode cX3_writeCells 0 = .ok (.aload_n 0, 1) := by decide +kernel
theorem dX3_writeCells_1 : decode cX3_writeCells 1 = .ok (.getfield 26, 3) := by decide +kernel
theorem dX3_writeCells_4 : decode cX3_writeCells 4 = .ok (.getfield 112, 3) := by decide +kernel
theorem dX3_writeCells_7 : decode cX3_writeCells 7 = .ok (.iload_n 1, 1) := by decide +kernel
theorem dX3_writeCells_8 : decode cX3_writeCells 8 = .ok (.iaload, 1) := by decide +kernel
theorem dX3_writeCells_9 : decode cX3_writeCells 9 = .ok (.istore_n 2, 1) := by decide +kernel
theorem dX3_writeCells_10 : decode cX3_writeCells 10 = .ok (.iload_n 2, 1) := by decide +kernel
theorem dX3_writeCells_11 : decode cX3_writeCells 11 = .ok (.aload_n 0, 1) := by decide +kernel
theorem dX3_writeCells_12 : decode cX3_writeCells 12 = .ok (.getfield 26, 3) := by decide +kernel
theorem dX3_writeCells_15 : decode cX3_writeCells 15 = .ok (.getfield 112, 3) := by decide +kernel
theorem dX3_writeCells_18 : decode cX3_writeCells 18 = .ok (.iload_n 1, 1) := by decide +kernel
theorem dX3_writeCells_19 : decode cX3_writeCells 19 = .ok (.iconst 1, 1) := by decide +kernel
theorem dX3_writeCells_20 : decode cX3_writeCells 20 = .ok (.iadd, 1) := by decide +kernel
theorem dX3_writeCells_21 : decode cX3_writeCells 21 = .ok (.iaload, 1) := by decide +kernel
theorem dX3_writeCells_22 : decode cX3_writeCells 22 = .ok (.if_icmp .ge 36, 3) := by decide +kernel
theorem dX3_writeCells_25 : decode cX3_writeCells 25 = .ok (.aload_n 0, 1) := by decide +kernel
theorem dX3_writeCells_26 : decode cX3_writeCells 26 = .ok (.getfield 26, 3) := by decide +kernel
theorem dX3_writeCells_29 : decode cX3_writeCells 29 = .ok (.getfield 115, 3) := by decide +kernel
theorem dX3_writeCells_32 : decode cX3_writeCells 32 = .ok (.iload_n 2, 1) := by decide +kernel
theorem dX3_writeCells_33 : decode cX3_writeCells 33 = .ok (.iaload, 1) := by decide +kernel
theorem dX3_writeCells_34 : decode cX3_writeCells 34 = .ok (.bipush 10, 2) := by decide +kernel
theorem dX3_writeCells_36 : decode cX3_writeCells 36 = .ok (.if_icmp .eq 16, 3) := by decide +kernel
theorem dX3_writeCells_39 : decode cX3_writeCells 39 = .ok (.aload_n 0, 1) := by decide +kernel
theorem dX3_writeCells_40 : decode cX3_writeCells 40 = .ok (.aload_n 0, 1) := by decide +kernel
theorem dX3_writeCells_41 : decode cX3_writeCells 41 = .ok (.getfield 26, 3) := by decide +kernel
theorem dX3_writeCells_44 : decode cX3_writeCells 44 = .ok (.getfield 115, 3) := by decide +kernel
theorem dX3_writeCells_47 : decode cX3_writeCells 47 = .ok (.iload_n 2, 1) := by decide +kernel
theorem dX3_writeCells_48 : decode cX3_writeCells 48 = .ok (.iaload, 1) := by decide +kernel
theorem dX3_writeCells_49 : decode cX3_writeCells 49 = .ok (.invokevirtual 88, 3) := by decide +kernel
theorem dX3_writeCells_52 : decode cX3_writeCells 52 = .ok (.iinc 2 1, 3) := by decide +kernel
theorem dX3_writeCells_55 : decode cX3_writeCells 55 = .ok (.goto (-45), 3) := by decide +kernel
theorem dX3_writeCells_58 : decode cX3_writeCells 58 = .ok (.return_, 1) := by decide +kernel
theorem dX3_writeByte_0 : decode cX3_writeByte 0 = .ok (.aload_n 0, 1) := by decide +kernel
theorem dX3_writeByte_1 : decode cX3_writeByte 1 = .ok (.getfield 63, 3) := by decide +kernel
theorem dX3_writeByte_4 : decode cX3_writeByte 4 = .ok (.sipush 1000, 3) := by decide +kernel
theorem dX3_writeByte_7 : decode cX3_writeByte 7 = .ok (.if_icmp .ge 23, 3) := by decide +kernel
theorem dX3_writeByte_10 : decode cX3_writeByte 10 = .ok (.aload_n 0, 1) := by decide +kernel
theorem dX3_writeByte_11 : decode cX3_writeByte 11 = .ok (.getfield 11, 3) := by decide +kernel
theorem dX3_writeByte_14 : decode cX3_writeByte 14 = .ok (.aload_n 0, 1) := by decide +kernel
theorem dX3_writeByte_15 : decode cX3_writeByte 15 = .ok (.getfield 63, 3) := by decide +kernel
theorem dX3_writeByte_18 : decode cX3_writeByte 18 = .ok (.iload_n 1, 1) := by decide +kernel
theorem dX3_writeByte_19 : decode cX3_writeByte 19 = .ok (.iastore, 1) := by decide +kernel
theorem dX3_writeByte_20 : decode cX3_writeByte 20 = .ok (.aload_n 0, 1) := by decide +kernel
theorem dX3_writeByte_21 : decode cX3_writeByte 21 = .ok (.dup, 1) := by decide +kernel
theorem dX3_writeByte_22 : decode cX3_writeByte 22 = .ok (.getfield 63, 3) := by decide +kernel
theorem dX3_writeByte_25 : decode cX3_writeByte 25 = .ok (.iconst 1, 1) := by decide +kernel
theorem dX3_writeByte_26 : decode cX3_writeByte 26 = .ok (.iadd, 1) := by decide +kernel
theorem dX3_writeByte_27 : decode cX3_writeByte 27 = .ok (.putfield 63, 3) := by decide +kernel
theorem dX3_writeByte_30 : decode cX3_writeByte 30 = .ok (.return_, 1) := by decide +kernel
theorem dX4_init_0 : decode cX4_init 0 = .ok (.aload_n 0, 1) := by decide +kernel
theorem dX4_init_1 : decode cX4_init 1 = .ok (.invokespecial 3, 3) := by decide +kernel
theorem dX4_init_4 : decode cX4_init 4 = .ok (.aload_n 0, 1) := by decide +kernel
theorem dX4_init_5 : decode cX4_init 5 = .ok (.bipush 24, 2) := by decide +kernel
theorem dX4_init_7 : decode cX4_init 7 = .ok (.newarray .int, 2) := by decide +kernel
theorem dX4_init_9 : decode cX4_init 9 = .ok (.putfield 9, 3) := by decide +kernel
theorem dX4_init_12 : decode cX4_init 12 = .ok (.aload_n 0, 1) := by decide +kernel
theorem dX4_init_13 : decode cX4_init 13 = .ok (.bipush 26, 2) := by decide +kernel
theorem dX4_init_15 : decode cX4_init 15 = .ok (.newarray .int, 2) := by decide +kernel
theorem dX4_init_17 : decode cX4_init 17 = .ok (.putfield 15, 3) := by decide +kernel
theorem dX4_init_20 : decode cX4_init 20 = .ok (.aload_n 0, 1) := by decide +kernel
theorem dX4_init_21 : decode cX4_init 21 = .ok (.sipush 624, 3) := by decide +kernel
theorem dX4_init_24 : decode cX4_init 24 = .ok (.newarray .int, 2) := by decide +kernel
theorem dX4_init_26 : decode cX4_init 26 = .ok (.putfield 18, 3) := by decide +kernel
theorem dX4_init_29 : decode cX4_init 29 = .ok (.aload_n 0, 1) := by decide +kernel
theorem dX4_init_30 : decode cX4_init 30 = .ok (.sipush 624, 3) := by decide +kernel
theorem dX4_init_33 : decode cX4_init 33 = .ok (.newarray .int, 2) := by decide +kernel
theorem dX4_init_35 : decode cX4_init 35 = .ok (.putfield 21, 3) := by decide +kernel
theorem dX4_init_38 : decode cX4_init 38 = .ok (.aload_n 0, 1) := by decide +kernel
theorem dX4_init_39 : decode cX4_init 39 = .ok (.sipush 624, 3) := by decide +kernel
theorem dX4_init_42 : decode cX4_init 42 = .ok (.newarray .int, 2) := by decide +kernel
theorem dX4_init_44 : decode cX4_init 44 = .ok (.putfield 24, 3) := by decide +kernel
theorem dX4_init_47 : decode cX4_init 47 = .ok (.aload_n 0, 1) := by decide +kernel
theorem dX4_init_48 : decode cX4_init 48 = .ok (.sipush 624, 3) := by decide +kernel
theorem dX4_init_51 : decode cX4_init 51 = .ok (.newarray .int, 2) := by decide +kernel
theorem dX4_init_53 : decode cX4_init 53 = .ok (.putfield 27, 3) := by decide +kernel
theorem dX4_init_56 : decode cX4_init 56 = .ok (.aload_n 0, 1) := by decide +kernel
theorem dX4_init_57 : decode cX4_init 57 = .ok (.sipush 1872, 3) := by decide +kernel
theorem dX4_init_60 : decode cX4_init 60 = .ok (.newarray .int, 2) := by decide +kernel
theorem dX4_init_62 : decode cX4_init 62 = .ok (.putfield 30, 3) := by decide +kernel
theorem dX4_init_65 : decode cX4_init 65 = .ok (.aload_n 0, 1) := by decide +kernel
theorem dX4_init_66 : decode cX4_init 66 = .ok (.sipush 624, 3) := by decide +kernel
theorem dX4_init_69 : decode cX4_init 69 = .ok (.newarray .int, 2) := by decide +kernel
theorem dX4_init_71 : decode cX4_init 71 = .ok (.putfield 33, 3) := by decide +kernel
theorem dX4_init_74 : decode cX4_init 74 = .ok (.aload_n 0, 1) := by decide +kernel
theorem dX4_init_75 : decode cX4_init 75 = .ok (.bipush 25, 2) := by decide +kernel
theorem dX4_init_77 : decode cX4_init 77 = .ok (.newarray .int, 2) := by decide +kernel
theorem dX4_init_79 : decode cX4_init 79 = .ok (.putfield 36, 3) := by decide +kernel
theorem dX4_init_82 : decode cX4_init 82 = .ok (.aload_n 0, 1) := by decide +kernel
theorem dX4_init_83 : decode cX4_init 83 = .ok (.aload_n 1, 1) := by decide +kernel
theorem dX4_init_84 : decode cX4_init 84 = .ok (.putfield 39, 3) := by decide +kernel
theorem dX4_init_87 : decode cX4_init 87 = .ok (.aload_n 0, 1) := by decide +kernel
theorem dX4_init_88 : decode cX4_init 88 = .ok (.aload_n 2, 1) := by decide +kernel
theorem dX4_init_89 : decode cX4_init 89 = .ok (.putfield 43, 3) := by decide +kernel
theorem dX4_init_92 : decode cX4_init 92 = .ok (.aload_n 0, 1) := by decide +kernel
theorem dX4_init_93 : decode cX4_init 93 = .ok (.aload_n 3, 1) := by decide +kernel
theorem dX4_init_94 : decode cX4_init 94 = .ok (.putfield 47, 3) := by decide +kernel
theorem dX4_init_97 : decode cX4_init 97 = .ok (.aload_n 0, 1) := by decide +kernel
theorem dX4_init_98 : decode cX4_init 98 = .ok (.aload 4, 2) := by decide +kernel
theorem dX4_init_100 : decode cX4_init 100 = .ok (.putfield 51, 3) := by decide +kernel
theorem dX4_init_103 : decode cX4_init 103 = .ok (.return_, 1) := by decide +kernel
theorem dX4_ofCells_0 : decode cX4_ofCells 0 = .ok (.aload_n 0, 1) := by decide +kernel
theorem dX4_ofCells_1 : decode cX4_ofCells 1 = .ok (.iload_n 2, 1) := by decide +kernel
theorem dX4_ofCells_2 : decode cX4_ofCells 2 = .ok (.invokevirtual 54, 3) := by decide +kernel
theorem dX4_ofCells_5 : decode cX4_ofCells 5 = .ok (.iconst 0, 1) := by decide +kernel
theorem dX4_ofCells_6 : decode cX4_ofCells 6 = .ok (.istore_n 3, 1) := by decide +kernel
theorem dX4_ofCells_7 : decode cX4_ofCells 7 = .ok (.iload_n 3, 1) := by decide +kernel
theorem dX4_ofCells_8 : decode cX4_ofCells 8 = .ok (.aload_n 0, 1) := by decide +kernel
theorem dX4_ofCells_9 : decode cX4_ofCells 9 = .ok (.getfield 58, 3) := by decide +kernel
theorem dX4_ofCells_12 : decode cX4_ofCells 12 = .ok (.if_icmp .ge 26, 3) := by decide +kernel
theorem dX4_ofCells_15 : decode cX4_ofCells 15 = .ok (.aload_n 0, 1) := by decide +kernel
theorem dX4_ofCells_16 : decode cX4_ofCells 16 = .ok (.getfield 9, 3) := by decide +kernel
theorem dX4_ofCells_19 : decode cX4_ofCells 19 = .ok (.iload_n 3, 1) := by decide +kernel
theorem dX4_ofCells_20 : decode cX4_ofCells 20 = .ok (.aload_n 0, 1) := by decide +kernel
theorem dX4_ofCells_21 : decode cX4_ofCells 21 = .ok (.getfield 47, 3) := by decide +kernel
theorem dX4_ofCells_24 : decode cX4_ofCells 24 = .ok (.getfield 62, 3) := by decide +kernel
theorem dX4_ofCells_27 : decode cX4_ofCells 27 = .ok (.iload_n 1, 1) := by decide +kernel
theorem dX4_ofCells_28 : decode cX4_ofCells 28 = .ok (.iload_n 3, 1) := by decide +kernel
theorem dX4_ofCells_29 : decode cX4_ofCells 29 = .ok (.iadd, 1) := by decide +kernel
theorem dX4_ofCells_30 : decode cX4_ofCells 30 = .ok (.iaload, 1) := by decide +kernel
theorem dX4_ofCells_31 : decode cX4_ofCells 31 = .ok (.iastore, 1) := by decide +kernel
theorem dX4_ofCells_32 : decode cX4_ofCells 32 = .ok (.iinc 3 1, 3) := by decide +kernel
theorem dX4_ofCells_35 : decode cX4_ofCells 35 = .ok (.goto (-28), 3) := by decide +kernel
theorem dX4_ofCells_38 : decode cX4_ofCells 38 = .ok (.iconst 0, 1) := by decide +kernel
theorem dX4_ofCells_39 : decode cX4_ofCells 39 = .ok (.istore_n 3, 1) := by decide +kernel
theorem dX4_ofCells_40 : decode cX4_ofCells 40 = .ok (.iload_n 3, 1) := by decide +kernel
theorem dX4_ofCells_41 : decode cX4_ofCells 41 = .ok (.aload_n 0, 1) := by decide +kernel
theorem dX4_ofCells_42 : decode cX4_ofCells 42 = .ok (.getfield 58, 3) := by decide +kernel
theorem dX4_ofCells_45 : decode cX4_ofCells 45 = .ok (.if_icmp .ge 37, 3) := by decide +kernel
theorem dX4_ofCells_48 : decode cX4_ofCells 48 = .ok (.aload_n 0, 1) := by decide +kernel
theorem dX4_ofCells_49 : decode cX4_ofCells 49 = .ok (.getfield 15, 3) := by decide +kernel
theorem dX4_ofCells_52 : decode cX4_ofCells 52 = .ok (.iload_n 3, 1) := by decide +kernel
theorem dX4_ofCells_53 : decode cX4_ofCells 53 = .ok (.aload_n 0, 1) := by decide +kernel
theorem dX4_ofCells_54 : decode cX4_ofCells 54 = .ok (.getfield 65, 3) := by decide +kernel
theorem dX4_ofCells_57 : decode cX4_ofCells 57 = .ok (.iastore, 1) := by decide +kernel
theorem dX4_ofCells_58 : decode cX4_ofCells 58 = .ok (.aload_n 0, 1) := by decide +kernel
theorem dX4_ofCells_59 : decode cX4_ofCells 59 = .ok (.iload_n 3, 1) := by decide +kernel
theorem dX4_ofCells_60 : decode cX4_ofCells 60 = .ok (.invokevirtual 68, 3) := by decide +kernel
theorem dX4_ofCells_63 : decode cX4_ofCells 63 = .ok (.aload_n 0, 1) := by decide +kernel
theorem dX4_ofCells_64 : decode cX4_ofCells 64 = .ok (.iload_n 3, 1) := by decide +kernel
theorem dX4_ofCells_65 : decode cX4_ofCells 65 = .ok (.iload_n 1, 1) := by decide +kernel
theorem dX4_ofCells_66 : decode cX4_ofCells 66 = .ok (.iload_n 3, 1) := by decide +kernel
theorem dX4_ofCells_67 : decode cX4_ofCells 67 = .ok (.iadd, 1) := by decide +kernel
theorem dX4_ofCells_68 : decode cX4_ofCells 68 = .ok (.invokevirtual 71, 3) := by decide +kernel
theorem dX4_ofCells_71 : decode cX4_ofCells 71 = .ok (.aload_n 0, 1) := by decide +kernel
theorem dX4_ofCells_72 : decode cX4_ofCells 72 = .ok (.iload_n 3, 1) := by decide +kernel
theorem dX4_ofCells_73 : decode cX4_ofCells 73 = .ok (.invokevirtual 75, 3) := by decide +kernel
theorem dX4_ofCells_76 : decode cX4_ofCells 76 = .ok (.iinc 3 1, 3) := by decide +kernel
theorem dX4_ofCells_79 : decode cX4_ofCells 79 = .ok (.goto (-39), 3) := by decide +kernel
theorem dX4_ofCells_82 : decode cX4_ofCells 82 = .ok (.aload_n 0, 1) := by decide +kernel
theorem dX4_ofCells_83 : decode cX4_ofCells 83 = .ok (.invokevirtual 78, 3) := by decide +kernel
theorem dX4_ofCells_86 : decode cX4_ofCells 86 = .ok (.return_, 1) := by decide +kernel
theorem dX4_ofWord_0 : decode cX4_ofWord 0 = .ok (.aload_n 0, 1) := by decide +kernel
theorem dX4_ofWord_1 : decode cX4_ofWord 1 = .ok (.aload_n 0, 1) := by decide +kernel
theorem dX4_ofWord_2 : decode cX4_ofWord 2 = .ok (.getfield 39, 3) := by decide +kernel
theorem dX4_ofWord_5 : decode cX4_ofWord 5 = .ok (.getfield 81, 3) := by decide +kernel
theorem dX4_ofWord_8 : decode cX4_ofWord 8 = .ok (.iload_n 1, 1) := by decide +kernel
theorem dX4_ofWord_9 : decode cX4_ofWord 9 = .ok (.iaload, 1) := by decide +kernel
theorem dX4_ofWord_10 : decode cX4_ofWord 10 = .ok (.invokevirtual 54, 3) := by decide +kernel
theorem dX4_ofWord_13 : decode cX4_ofWord 13 = .ok (.iconst 0, 1) := by decide +kernel
theorem dX4_ofWord_14 : decode cX4_ofWord 14 = .ok (.istore_n 2, 1) := by decide +kernel
theorem dX4_ofWord_15 : decode cX4_ofWord 15 = .ok (.iload_n 2, 1) := by decide +kernel
theorem dX4_ofWord_16 : decode cX4_ofWord 16 = .ok (.aload_n 0, 1) := by decide +kernel
theorem dX4_ofWord_17 : decode cX4_ofWord 17 = .ok (.getfield 58, 3) := by decide +kernel
theorem dX4_ofWord_20 : decode cX4_ofWord 20 = .ok (.if_icmp .ge 24, 3) := by decide +kernel
theorem dX4_ofWord_23 : decode cX4_ofWord 23 = .ok (.aload_n 0, 1) := by decide +kernel
theorem dX4_ofWord_24 : decode cX4_ofWord 24 = .ok (.getfield 9, 3) := by decide +kernel
theorem dX4_ofWord_27 : decode cX4_ofWord 27 = .ok (.iload_n 2, 1) := by decide +kernel
theorem dX4_ofWord_28 : decode cX4_ofWord 28 = .ok (.aload_n 0, 1) := by decide +kernel
theorem dX4_ofWord_29 : decode cX4_ofWord 29 = .ok (.getfield 39, 3) := by decide +kernel
theorem dX4_ofWord_32 : decode cX4_ofWord 32 = .ok (.iload_n 1, 1) := by decide +kernel
theorem dX4_ofWord_33 : decode cX4_ofWord 33 = .ok (.iload_n 2, 1) := by decide +kernel
theorem dX4_ofWord_34 : decode cX4_ofWord 34 = .ok (.invokevirtual 86, 3) := by decide +kernel
theorem dX4_ofWord_37 : decode cX4_ofWord 37 = .ok (.iastore, 1) := by decide +kernel
theorem dX4_ofWord_38 : decode cX4_ofWord 38 = .ok (.iinc 2 1, 3) := by decide +kernel
theorem dX4_ofWord_41 : decode cX4_ofWord 41 = .ok (.goto (-26), 3) := by decide +kernel
theorem dX4_ofWord_44 : decode cX4_ofWord 44 = .ok (.iconst 0, 1) := by decide +kernel
theorem dX4_ofWord_45 : decode cX4_ofWord 45 = .ok (.istore_n 2, 1) := by decide +kernel
theorem dX4_ofWord_46 : decode cX4_ofWord 46 = .ok (.iload_n 2, 1) := by decide +kernel
theorem dX4_ofWord_47 : decode cX4_ofWord 47 = .ok (.aload_n 0, 1) := by decide +kernel
theorem dX4_ofWord_48 : decode cX4_ofWord 48 = .ok (.getfield 58, 3) := by decide +kernel
theorem dX4_ofWord_51 : decode cX4_ofWord 51 = .ok (.if_icmp .ge 29, 3) := by decide +kernel
theorem dX4_ofWord_54 : decode cX4_ofWord 54 = .ok (.aload_n 0, 1) := by decide +kernel
theorem dX4_ofWord_55 : decode cX4_ofWord 55 = .ok (.getfield 15, 3) := by decide +kernel
theorem dX4_ofWord_58 : decode cX4_ofWord 58 = .ok (.iload_n 2, 1) := by decide +kernel
theorem dX4_ofWord_59 : decode cX4_ofWord 59 = .ok (.aload_n 0, 1) := by decide +kernel
theorem dX4_ofWord_60 : decode cX4_ofWord 60 = .ok (.getfield 65, 3) := by decide +kernel
theorem dX4_ofWord_63 : decode cX4_ofWord 63 = .ok (.iastore, 1) := by decide +kernel
theorem dX4_ofWord_64 : decode cX4_ofWord 64 = .ok (.aload_n 0, 1) := by decide +kernel
theorem dX4_ofWord_65 : decode cX4_ofWord 65 = .ok (.iload_n 2, 1) := by decide +kernel
theorem dX4_ofWord_66 : decode cX4_ofWord 66 = .ok (.invokevirtual 68, 3) := by decide +kernel
theorem dX4_ofWord_69 : decode cX4_ofWord 69 = .ok (.aload_n 0, 1) := by decide +kernel
theorem dX4_ofWord_70 : decode cX4_ofWord 70 = .ok (.iload_n 2, 1) := by decide +kernel
theorem dX4_ofWord_71 : decode cX4_ofWord 71 = .ok (.invokevirtual 75, 3) := by decide +kernel
theorem dX4_ofWord_74 : decode cX4_ofWord 74 = .ok (.iinc 2 1, 3) := by decide +kernel
theorem dX4_ofWord_77 : decode cX4_ofWord 77 = .ok (.goto (-31), 3) := by decide +kernel
theorem dX4_ofWord_80 : decode cX4_ofWord 80 = .ok (.aload_n 0, 1) := by decide +kernel
theorem dX4_ofWord_81 : decode cX4_ofWord 81 = .ok (.invokevirtual 78, 3) := by decide +kernel
theorem dX4_ofWord_84 : decode cX4_ofWord 84 = .ok (.return_, 1) := by decide +kernel
theorem dX4_begin_0 : decode cX4_begin 0 = .ok (.aload_n 0, 1) := by decide +kernel
theorem dX4_begin_1 : decode cX4_begin 1 = .ok (.iload_n 1, 1) := by decide +kernel
theorem dX4_begin_2 : decode cX4_begin 2 = .ok (.bipush 24, 2) := by decide +kernel
theorem dX4_begin_4 : decode cX4_begin 4 = .ok (.invokestatic 90, 3) := by decide +kernel
theorem dX4_begin_7 : decode cX4_begin 7 = .ok (.putfield 58, 3) := by decide +kernel
theorem dX4_begin_10 : decode cX4_begin 10 = .ok (.aload_n 0, 1) := by decide +kernel
theorem dX4_begin_11 : decode cX4_begin 11 = .ok (.iconst 0, 1) := by decide +kernel
theorem dX4_begin_12 : decode cX4_begin 12 = .ok (.putfield 65, 3) := by decide +kernel
theorem dX4_begin_15 : decode cX4_begin 15 = .ok (.return_, 1) := by decide +kernel
theorem dX4_addRead_0 : decode cX4_addRead 0 = .ok (.aload_n 0, 1) := by decide +kernel
theorem dX4_addRead_1 : decode cX4_addRead 1 = .ok (.getfield 9, 3) := by decide +kernel
theorem dX4_addRead_4 : decode cX4_addRead 4 = .ok (.iload_n 1, 1) := by decide +kernel
theorem dX4_addRead_5 : decode cX4_addRead 5 = .ok (.iaload, 1) := by decide +kernel
theorem dX4_addRead_6 : decode cX4_addRead 6 = .ok (.istore_n 2, 1) := by decide +kernel
theorem dX4_addRead_7 : decode cX4_addRead 7 = .ok (.iload_n 2, 1) := by decide +kernel
theorem dX4_addRead_8 : decode cX4_addRead 8 = .ok (.bipush 63, 2) := by decide +kernel
theorem dX4_addRead_10 : decode cX4_addRead 10 = .ok (.if_icmp .ne 35, 3) := by decide +kernel
theorem dX4_addRead_13 : decode cX4_addRead 13 = .ok (.iconst 0, 1) := by decide +kernel
theorem dX4_addRead_14 : decode cX4_addRead 14 = .ok (.istore_n 3, 1) := by decide +kernel
theorem dX4_addRead_15 : decode cX4_addRead 15 = .ok (.iload_n 3, 1) := by decide +kernel
theorem dX4_addRead_16 : decode cX4_addRead 16 = .ok (.bipush 26, 2) := by decide +kernel
theorem dX4_addRead_18 : decode cX4_addRead 18 = .ok (.if_icmp .ge 24, 3) := by decide +kernel
theorem dX4_addRead_21 : decode cX4_addRead 21 = .ok (.aload_n 0, 1) := by decide +kernel
theorem dX4_addRead_22 : decode cX4_addRead 22 = .ok (.iload_n 1, 1) := by decide +kernel
theorem dX4_addRead_23 : decode cX4_addRead 23 = .ok (.bipush 97, 2) := by decide +kernel
theorem dX4_addRead_25 : decode cX4_addRead 25 = .ok (.iload_n 3, 1) := by decide +kernel
theorem dX4_addRead_26 : decode cX4_addRead 26 = .ok (.iadd, 1) := by decide +kernel
theorem dX4_addRead_27 : decode cX4_addRead 27 = .ok (.aload_n 0, 1) := by decide +kernel
theorem dX4_addRead_28 : decode cX4_addRead 28 = .ok (.getfield 51, 3) := by decide +kernel
theorem dX4_addRead_31 : decode cX4_addRead 31 = .ok (.iconst 2, 1) := by decide +kernel
theorem dX4_addRead_32 : decode cX4_addRead 32 = .ok (.iaload, 1) := by decide +kernel
theorem dX4_addRead_33 : decode cX4_addRead 33 = .ok (.invokevirtual 95, 3) := by decide +kernel
theorem dX4_addRead_36 : decode cX4_addRead 36 = .ok (.iinc 3 1, 3) := by decide +kernel
theorem dX4_addRead_39 : decode cX4_addRead 39 = .ok (.goto (-24), 3) := by decide +kernel
theorem dX4_addRead_42 : decode cX4_addRead 42 = .ok (.goto 42, 3) := by decide +kernel
theorem dX4_addRead_45 : decode cX4_addRead 45 = .ok (.iload_n 2, 1) := by decide +kernel
theorem dX4_addRead_46 : decode cX4_addRead 46 = .ok (.bipush 10, 2) := by decide +kernel
theorem dX4_addRead_48 : decode cX4_addRead 48 = .ok (.if_icmp .ne 29, 3) := by decide +kernel
theorem dX4_addRead_51 : decode cX4_addRead 51 = .ok (.aload_n 0, 1) := by decide +kernel
theorem dX4_addRead_52 : decode cX4_addRead 52 = .ok (.iload_n 1, 1) := by decide +kernel
theorem dX4_addRead_53 : decode cX4_addRead 53 = .ok (.iload_n 1, 1) := by decide +kernel
theorem dX4_addRead_54 : decode cX4_addRead 54 = .ok (.iconst 1, 1) := by decide +kernel
theorem dX4_addRead_55 : decode cX4_addRead 55 = .ok (.iadd, 1) := by decide +kernel
theorem dX4_addRead_56 : decode cX4_addRead 56 = .ok (.iconst 0, 1) := by decide +kernel
theorem dX4_addRead_57 : decode cX4_addRead 57 = .ok (.invokevirtual 99, 3) := by decide +kernel
theorem dX4_addRead_60 : decode cX4_addRead 60 = .ok (.pop, 1) := by decide +kernel
theorem dX4_addRead_61 : decode cX4_addRead 61 = .ok (.aload_n 0, 1) := by decide +kernel
theorem dX4_addRead_62 : decode cX4_addRead 62 = .ok (.iload_n 1, 1) := by decide +kernel
theorem dX4_addRead_63 : decode cX4_addRead 63 = .ok (.bipush 45, 2) := by decide +kernel
theorem dX4_addRead_65 : decode cX4_addRead 65 = .ok (.aload_n 0, 1) := by decide +kernel
theorem dX4_addRead_66 : decode cX4_addRead 66 = .ok (.getfield 51, 3) := by decide +kernel
theorem dX4_addRead_69 : decode cX4_addRead 69 = .ok (.iconst 4, 1) := by decide +kernel
theorem dX4_addRead_70 : decode cX4_addRead 70 = .ok (.iaload, 1) := by decide +kernel
theorem dX4_addRead_71 : decode cX4_addRead 71 = .ok (.invokevirtual 95, 3) := by decide +kernel
theorem dX4_addRead_74 : decode cX4_addRead 74 = .ok (.goto 10, 3) := by decide +kernel
theorem dX4_addRead_77 : decode cX4_addRead 77 = .ok (.aload_n 0, 1) := by decide +kernel
theorem dX4_addRead_78 : decode cX4_addRead 78 = .ok (.iload_n 1, 1) := by decide +kernel
theorem dX4_addRead_79 : decode cX4_addRead 79 = .ok (.iload_n 2, 1) := by decide +kernel
theorem dX4_addRead_80 : decode cX4_addRead 80 = .ok (.iconst 0, 1) := by decide +kernel
theorem dX4_addRead_81 : decode cX4_addRead 81 = .ok (.invokevirtual 95, 3) := by decide +kernel
theorem dX4_addRead_84 : decode cX4_addRead 84 = .ok (.iload_n 2, 1) := by decide +kernel
theorem dX4_addRead_85 : decode cX4_addRead 85 = .ok (.bipush 45, 2) := by decide +kernel
theorem dX4_addRead_87 : decode cX4_addRead 87 = .ok (.if_icmp .ne 18, 3) := by decide +kernel
theorem dX4_addRead_90 : decode cX4_addRead 90 = .ok (.aload_n 0, 1) := by decide +kernel
theorem dX4_addRead_91 : decode cX4_addRead 91 = .ok (.iload_n 1, 1) := by decide +kernel
theorem dX4_addRead_92 : decode cX4_addRead 92 = .ok (.iload_n 1, 1) := by decide +kernel
theorem dX4_addRead_93 : decode cX4_addRead 93 = .ok (.iconst 1, 1) := by decide +kernel
theorem dX4_addRead_94 : decode cX4_addRead 94 = .ok (.iadd, 1) := by decide +kernel
theorem dX4_addRead_95 : decode cX4_addRead 95 = .ok (.aload_n 0, 1) := by decide +kernel
theorem dX4_addRead_96 : decode cX4_addRead 96 = .ok (.getfield 51, 3) := by decide +kernel
theorem dX4_addRead_99 : decode cX4_addRead 99 = .ok (.iconst 3, 1) := by decide +kernel
theorem dX4_addRead_100 : decode cX4_addRead 100 = .ok (.iaload, 1) := by decide +kernel
theorem dX4_addRead_101 : decode cX4_addRead 101 = .ok (.invokevirtual 99, 3) := by decide +kernel
theorem dX4_addRead_104 : decode cX4_addRead 104 = .ok (.pop, 1) := by decide +kernel
theorem dX4_addRead_105 : decode cX4_addRead 105 = .ok (.return_, 1) := by decide +kernel
theorem dX4_addOthers_0 : decode cX4_addOthers 0 = .ok (.iconst 0, 1) := by decide +kernel
theorem dX4_addOthers_1 : decode cX4_addOthers 1 = .ok (.istore_n 3, 1) := by decide +kernel
theorem dX4_addOthers_2 : decode cX4_addOthers 2 = .ok (.iload_n 3, 1) := by decide +kernel
theorem dX4_addOthers_3 : decode cX4_addOthers 3 = .ok (.aload_n 0, 1) := by decide +kernel
theorem dX4_addOthers_4 : decode cX4_addOthers 4 = .ok (.getfield 47, 3) := by decide +kernel
theorem dX4_addOthers_7 : decode cX4_addOthers 7 = .ok (.getfield 103, 3) := by decide +kernel
theorem dX4_addOthers_10 : decode cX4_addOthers 10 = .ok (.iload_n 2, 1) := by decide +kernel
theorem dX4_addOthers_11 : decode cX4_addOthers 11 = .ok (.iaload, 1) := by decide +kernel
theorem dX4_addOthers_12 : decode cX4_addOthers 12 = .ok (.if_icmp .ge 41, 3) := by decide +kernel
theorem dX4_addOthers_15 : decode cX4_addOthers 15 = .ok (.iload_n 2, 1) := by decide +kernel
theorem dX4_addOthers_16 : decode cX4_addOthers 16 = .ok (.iconst 3, 1) := by decide +kernel
theorem dX4_addOthers_17 : decode cX4_addOthers 17 = .ok (.imul, 1) := by decide +kernel
theorem dX4_addOthers_18 : decode cX4_addOthers 18 = .ok (.iload_n 3, 1) := by decide +kernel
theorem dX4_addOthers_19 : decode cX4_addOthers 19 = .ok (.iadd, 1) := by decide +kernel
theorem dX4_addOthers_20 : decode cX4_addOthers 20 = .ok (.istore 4, 2) := by decide +kernel
theorem dX4_addOthers_22 : decode cX4_addOthers 22 = .ok (.aload_n 0, 1) := by decide +kernel
theorem dX4_addOthers_23 : decode cX4_addOthers 23 = .ok (.iload_n 1, 1) := by decide +kernel
theorem dX4_addOthers_24 : decode cX4_addOthers 24 = .ok (.aload_n 0, 1) := by decide +kernel
theorem dX4_addOthers_25 : decode cX4_addOthers 25 = .ok (.getfield 47, 3) := by decide +kernel
theorem dX4_addOthers_28 : decode cX4_addOthers 28 = .ok (.getfield 106, 3) := by decide +kernel
theorem dX4_addOthers_31 : decode cX4_addOthers 31 = .ok (.iload 4, 2) := by decide +kernel
theorem dX4_addOthers_33 : decode cX4_addOthers 33 = .ok (.iaload, 1) := by decide +kernel
theorem dX4_addOthers_34 : decode cX4_addOthers 34 = .ok (.aload_n 0, 1) := by decide +kernel
theorem dX4_addOthers_35 : decode cX4_addOthers 35 = .ok (.getfield 47, 3) := by decide +kernel
theorem dX4_addOthers_38 : decode cX4_addOthers 38 = .ok (.getfield 109, 3) := by decide +kernel
theorem dX4_addOthers_41 : decode cX4_addOthers 41 = .ok (.iload 4, 2) := by decide +kernel
theorem dX4_addOthers_43 : decode cX4_addOthers 43 = .ok (.iaload, 1) := by decide +kernel
theorem dX4_addOthers_44 : decode cX4_addOthers 44 = .ok (.invokevirtual 95, 3) := by decide +kernel
theorem dX4_addOthers_47 : decode cX4_addOthers 47 = .ok (.iinc 3 1, 3) := by decide +kernel
theorem dX4_addOthers_50 : decode cX4_addOthers 50 = .ok (.goto (-48), 3) := by decide +kernel
theorem dX4_addOthers_53 : decode cX4_addOthers 53 = .ok (.return_, 1) := by decide +kernel
theorem dX4_addShapes_0 : decode cX4_addShapes 0 = .ok (.iconst 0, 1) := by decide +kernel
theorem dX4_addShapes_1 : decode cX4_addShapes 1 = .ok (.istore_n 2, 1) := by decide +kernel
theorem dX4_addShapes_2 : decode cX4_addShapes 2 = .ok (.iload_n 2, 1) := by decide +kernel
theorem dX4_addShapes_3 : decode cX4_addShapes 3 = .ok (.aload_n 0, 1) := by decide +kernel
theorem dX4_addShapes_4 : decode cX4_addShapes 4 = .ok (.getfield 43, 3) := by decide +kernel
theorem dX4_addShapes_7 : decode cX4_addShapes 7 = .ok (.getfield 112, 3) := by decide +kernel
theorem dX4_addShapes_10 : decode cX4_addShapes 10 = .ok (.if_icmp .ge 24, 3) := by decide +kernel
theorem dX4_addShapes_13 : decode cX4_addShapes 13 = .ok (.aload_n 0, 1) := by decide +kernel
theorem dX4_addShapes_14 : decode cX4_addShapes 14 = .ok (.iload_n 2, 1) := by decide +kernel
theorem dX4_addShapes_15 : decode cX4_addShapes 15 = .ok (.iload_n 1, 1) := by decide +kernel
theorem dX4_addShapes_16 : decode cX4_addShapes 16 = .ok (.invokevirtual 117, 3) := by decide +kernel
theorem dX4_addShapes_19 : decode cX4_addShapes 19 = .ok (.ifCond .eq 9, 3) := by decide +kernel
theorem dX4_addShapes_22 : decode cX4_addShapes 22 = .ok (.aload_n 0, 1) := by decide +kernel
theorem dX4_addShapes_23 : decode cX4_addShapes 23 = .ok (.iload_n 2, 1) := by decide +kernel
theorem dX4_addShapes_24 : decode cX4_addShapes 24 = .ok (.iload_n 1, 1) := by decide +kernel
theorem dX4_addShapes_25 : decode cX4_addShapes 25 = .ok (.invokevirtual 121, 3) := by decide +kernel
theorem dX4_addShapes_28 : decode cX4_addShapes 28 = .ok (.iinc 2 1, 3) := by decide +kernel
theorem dX4_addShapes_31 : decode cX4_addShapes 31 = .ok (.goto (-29), 3) := by decide +kernel
theorem dX4_addShapes_34 : decode cX4_addShapes 34 = .ok (.return_, 1) := by decide +kernel
theorem dX4_standsAt_0 : decode cX4_standsAt 0 = .ok (.aload_n 0, 1) := by decide +kernel
theorem dX4_standsAt_1 : decode cX4_standsAt 1 = .ok (.getfield 43, 3) := by decide +kernel
theorem dX4_standsAt_4 : decode cX4_standsAt 4 = .ok (.getfield 124, 3) := by decide +kernel
theorem dX4_standsAt_7 : decode cX4_standsAt 7 = .ok (.iload_n 1, 1) := by decide +kernel
theorem dX4_standsAt_8 : decode cX4_standsAt 8 = .ok (.iaload, 1) := by decide +kernel
theorem dX4_standsAt_9 : decode cX4_standsAt 9 = .ok (.istore_n 3, 1) := by decide +kernel
theorem dX4_standsAt_10 : decode cX4_standsAt 10 = .ok (.iload_n 2, 1) := by decide +kernel
theorem dX4_standsAt_11 : decode cX4_standsAt 11 = .ok (.iload_n 3, 1) := by decide +kernel
theorem dX4_standsAt_12 : decode cX4_standsAt 12 = .ok (.iadd, 1) := by decide +kernel
theorem dX4_standsAt_13 : decode cX4_standsAt 13 = .ok (.aload_n 0, 1) := by decide +kernel
theorem dX4_standsAt_14 : decode cX4_standsAt 14 = .ok (.getfield 58, 3) := by decide +kernel
theorem dX4_standsAt_17 : decode cX4_standsAt 17 = .ok (.if_icmp .le 5, 3) := by decide +kernel
theorem dX4_standsAt_20 : decode cX4_standsAt 20 = .ok (.iconst 0, 1) := by decide +kernel
theorem dX4_standsAt_21 : decode cX4_standsAt 21 = .ok (.ireturn, 1) := by decide +kernel
theorem dX4_standsAt_22 : decode cX4_standsAt 22 = .ok (.iconst 0, 1) := by decide +kernel
theorem dX4_standsAt_23 : decode cX4_standsAt 23 = .ok (.istore 4, 2) := by decide +kernel
theorem dX4_standsAt_25 : decode cX4_standsAt 25 = .ok (.iload 4, 2) := by decide +kernel
theorem dX4_standsAt_27 : decode cX4_standsAt 27 = .ok (.iload_n 3, 1) := by decide +kernel
theorem dX4_standsAt_28 : decode cX4_standsAt 28 = .ok (.if_icmp .ge 37, 3) := by decide +kernel
theorem dX4_standsAt_31 : decode cX4_standsAt 31 = .ok (.aload_n 0, 1) := by decide +kernel
theorem dX4_standsAt_32 : decode cX4_standsAt 32 = .ok (.getfield 9, 3) := by decide +kernel
theorem dX4_standsAt_35 : decode cX4_standsAt 35 = .ok (.iload_n 2, 1) := by decide +kernel
theorem dX4_standsAt_36 : decode cX4_standsAt 36 = .ok (.iload 4, 2) := by decide +kernel
theorem dX4_standsAt_38 : decode cX4_standsAt 38 = .ok (.iadd, 1) := by decide +kernel
theorem dX4_standsAt_39 : decode cX4_standsAt 39 = .ok (.iaload, 1) := by decide +kernel
theorem dX4_standsAt_40 : decode cX4_standsAt 40 = .ok (.aload_n 0, 1) := by decide +kernel
theorem dX4_standsAt_41 : decode cX4_standsAt 41 = .ok (.getfield 43, 3) := by decide +kernel
theorem dX4_standsAt_44 : decode cX4_standsAt 44 = .ok (.getfield 127, 3) := by decide +kernel
theorem dX4_standsAt_47 : decode cX4_standsAt 47 = .ok (.iload_n 1, 1) := by decide +kernel
theorem dX4_standsAt_48 : decode cX4_standsAt 48 = .ok (.iconst 3, 1) := by decide +kernel
theorem dX4_standsAt_49 : decode cX4_standsAt 49 = .ok (.imul, 1) := by decide +kernel
theorem dX4_standsAt_50 : decode cX4_standsAt 50 = .ok (.iload 4, 2) := by decide +kernel
theorem dX4_standsAt_52 : decode cX4_standsAt 52 = .ok (.iadd, 1) := by decide +kernel
theorem dX4_standsAt_53 : decode cX4_standsAt 53 = .ok (.iaload, 1) := by decide +kernel
theorem dX4_standsAt_54 : decode cX4_standsAt 54 = .ok (.if_icmp .eq 5, 3) := by decide +kernel
theorem dX4_standsAt_57 : decode cX4_standsAt 57 = .ok (.iconst 0, 1) := by decide +kernel
theorem dX4_standsAt_58 : decode cX4_standsAt 58 = .ok (.ireturn, 1) := by decide +kernel
theorem dX4_standsAt_59 : decode cX4_standsAt 59 = .ok (.iinc 4 1, 3) := by decide +kernel
theorem dX4_standsAt_62 : decode cX4_standsAt 62 = .ok (.goto (-37), 3) := by decide +kernel
theorem dX4_standsAt_65 : decode cX4_standsAt 65 = .ok (.iconst 1, 1) := by decide +kernel
theorem dX4_standsAt_66 : decode cX4_standsAt 66 = .ok (.ireturn, 1) := by decide +kernel
theorem dX4_addShape_0 : decode cX4_addShape 0 = .ok (.aload_n 0, 1) := by decide +kernel
theorem dX4_addShape_1 : decode cX4_addShape 1 = .ok (.iload_n 2, 1) := by decide +kernel
theorem dX4_addShape_2 : decode cX4_addShape 2 = .ok (.iload_n 2, 1) := by decide +kernel
theorem dX4_addShape_3 : decode cX4_addShape 3 = .ok (.aload_n 0, 1) := by decide +kernel
theorem dX4_addShape_4 : decode cX4_addShape 4 = .ok (.getfield 43, 3) := by decide +kernel
theorem dX4_addShape_7 : decode cX4_addShape 7 = .ok (.getfield 124, 3) := by decide +kernel
theorem dX4_addShape_10 : decode cX4_addShape 10 = .ok (.iload_n 1, 1) := by decide +kernel
theorem dX4_addShape_11 : decode cX4_addShape 11 = .ok (.iaload, 1) := by decide +kernel
theorem dX4_addShape_12 : decode cX4_addShape 12 = .ok (.iadd, 1) := by decide +kernel
theorem dX4_addShape_13 : decode cX4_addShape 13 = .ok (.aload_n 0, 1) := by decide +kernel
theorem dX4_addShape_14 : decode cX4_addShape 14 = .ok (.getfield 43, 3) := by decide +kernel
theorem dX4_addShape_17 : decode cX4_addShape 17 = .ok (.getfield 130, 3) := by decide +kernel
theorem dX4_addShape_20 : decode cX4_addShape 20 = .ok (.iload_n 1, 1) := by decide +kernel
theorem dX4_addShape_21 : decode cX4_addShape 21 = .ok (.iaload, 1) := by decide +kernel
theorem dX4_addShape_22 : decode cX4_addShape 22 = .ok (.invokevirtual 99, 3) := by decide +kernel
theorem dX4_addShape_25 : decode cX4_addShape 25 = .ok (.istore_n 3, 1) := by decide +kernel
theorem dX4_addShape_26 : decode cX4_addShape 26 = .ok (.iload_n 3, 1) := by decide +kernel
theorem dX4_addShape_27 : decode cX4_addShape 27 = .ok (.iconst (-1), 1) := by decide +kernel
theorem dX4_addShape_28 : decode cX4_addShape 28 = .ok (.if_icmp .ne 4, 3) := by decide +kernel
theorem dX4_addShape_31 : decode cX4_addShape 31 = .ok (.return_, 1) := by decide +kernel
theorem dX4_addShape_32 : decode cX4_addShape 32 = .ok (.aload_n 0, 1) := by decide +kernel
theorem dX4_addShape_33 : decode cX4_addShape 33 = .ok (.getfield 33, 3) := by decide +kernel
theorem dX4_addShape_36 : decode cX4_addShape 36 = .ok (.iload_n 3, 1) := by decide +kernel
theorem dX4_addShape_37 : decode cX4_addShape 37 = .ok (.iload_n 1, 1) := by decide +kernel
theorem dX4_addShape_38 : decode cX4_addShape 38 = .ok (.iastore, 1) := by decide +kernel
theorem dX4_addShape_39 : decode cX4_addShape 39 = .ok (.aload_n 0, 1) := by decide +kernel
theorem dX4_addShape_40 : decode cX4_addShape 40 = .ok (.getfield 27, 3) := by decide +kernel
theorem dX4_addShape_43 : decode cX4_addShape 43 = .ok (.iload_n 3, 1) := by decide +kernel
theorem dX4_addShape_44 : decode cX4_addShape 44 = .ok (.aload_n 0, 1) := by decide +kernel
theorem dX4_addShape_45 : decode cX4_addShape 45 = .ok (.getfield 43, 3) := by decide +kernel
theorem dX4_addShape_48 : decode cX4_addShape 48 = .ok (.getfield 131, 3) := by decide +kernel
theorem dX4_addShape_51 : decode cX4_addShape 51 = .ok (.iload_n 1, 1) := by decide +kernel
theorem dX4_addShape_52 : decode cX4_addShape 52 = .ok (.iaload, 1) := by decide +kernel
theorem dX4_addShape_53 : decode cX4_addShape 53 = .ok (.iastore, 1) := by decide +kernel
theorem dX4_addShape_54 : decode cX4_addShape 54 = .ok (.iconst 0, 1) := by decide +kernel
theorem dX4_addShape_55 : decode cX4_addShape 55 = .ok (.istore 4, 2) := by decide +kernel
theorem dX4_addShape_57 : decode cX4_addShape 57 = .ok (.iload 4, 2) := by decide +kernel
theorem dX4_addShape_59 : decode cX4_addShape 59 = .ok (.aload_n 0, 1) := by decide +kernel
theorem dX4_addShape_60 : decode cX4_addShape 60 = .ok (.getfield 27, 3) := by decide +kernel
theorem dX4_addShape_63 : decode cX4_addShape 63 = .ok (.iload_n 3, 1) := by decide +kernel
theorem dX4_addShape_64 : decode cX4_addShape 64 = .ok (.iaload, 1) := by decide +kernel
theorem dX4_addShape_65 : decode cX4_addShape 65 = .ok (.if_icmp .ge 34, 3) := by decide +kernel
theorem dX4_addShape_68 : decode cX4_addShape 68 = .ok (.aload_n 0, 1) := by decide +kernel
theorem dX4_addShape_69 : decode cX4_addShape 69 = .ok (.getfield 30, 3) := by decide +kernel
theorem dX4_addShape_72 : decode cX4_addShape 72 = .ok (.iload_n 3, 1) := by decide +kernel
theorem dX4_addShape_73 : decode cX4_addShape 73 = .ok (.iconst 3, 1) := by decide +kernel
theorem dX4_addShape_74 : decode cX4_addShape 74 = .ok (.imul, 1) := by decide +kernel
theorem dX4_addShape_75 : decode cX4_addShape 75 = .ok (.iload 4, 2) := by decide +kernel
theorem dX4_addShape_77 : decode cX4_addShape 77 = .ok (.iadd, 1) := by decide +kernel
theorem dX4_addShape_78 : decode cX4_addShape 78 = .ok (.aload_n 0, 1) := by decide +kernel
theorem dX4_addShape_79 : decode cX4_addShape 79 = .ok (.getfield 43, 3) := by decide +kernel
theorem dX4_addShape_82 : decode cX4_addShape 82 = .ok (.getfield 134, 3) := by decide +kernel
theorem dX4_addShape_85 : decode cX4_addShape 85 = .ok (.iload_n 1, 1) := by decide +kernel
theorem dX4_addShape_86 : decode cX4_addShape 86 = .ok (.iconst 3, 1) := by decide +kernel
theorem dX4_addShape_87 : decode cX4_addShape 87 = .ok (.imul, 1) := by decide +kernel
theorem dX4_addShape_88 : decode cX4_addShape 88 = .ok (.iload 4, 2) := by decide +kernel
theorem dX4_addShape_90 : decode cX4_addShape 90 = .ok (.iadd, 1) := by decide +kernel
theorem dX4_addShape_91 : decode cX4_addShape 91 = .ok (.iaload, 1) := by decide +kernel
theorem dX4_addShape_92 : decode cX4_addShape 92 = .ok (.iastore, 1) := by decide +kernel
theorem dX4_addShape_93 : decode cX4_addShape 93 = .ok (.iinc 4 1, 3) := by decide +kernel
theorem dX4_addShape_96 : decode cX4_addShape 96 = .ok (.goto (-39), 3) := by decide +kernel
theorem dX4_addShape_99 : decode cX4_addShape 99 = .ok (.return_, 1) := by decide +kernel
theorem dX4_addSign_0 : decode cX4_addSign 0 = .ok (.aload_n 0, 1) := by decide +kernel
theorem dX4_addSign_1 : decode cX4_addSign 1 = .ok (.iload_n 1, 1) := by decide +kernel
theorem dX4_addSign_2 : decode cX4_addSign 2 = .ok (.iload_n 1, 1) := by decide +kernel
theorem dX4_addSign_3 : decode cX4_addSign 3 = .ok (.iconst 1, 1) := by decide +kernel
theorem dX4_addSign_4 : decode cX4_addSign 4 = .ok (.iadd, 1) := by decide +kernel
theorem dX4_addSign_5 : decode cX4_addSign 5 = .ok (.iload_n 3, 1) := by decide +kernel
theorem dX4_addSign_6 : decode cX4_addSign 6 = .ok (.invokevirtual 99, 3) := by decide +kernel
theorem dX4_addSign_9 : decode cX4_addSign 9 = .ok (.istore 4, 2) := by decide +kernel
theorem dX4_addSign_11 : decode cX4_addSign 11 = .ok (.iload 4, 2) := by decide +kernel
theorem dX4_addSign_13 : decode cX4_addSign 13 = .ok (.iconst (-1), 1) := by decide +kernel
theorem dX4_addSign_14 : decode cX4_addSign 14 = .ok (.if_icmp .eq 21, 3) := by decide +kernel
theorem dX4_addSign_17 : decode cX4_addSign 17 = .ok (.aload_n 0, 1) := by decide +kernel
theorem dX4_addSign_18 : decode cX4_addSign 18 = .ok (.getfield 27, 3) := by decide +kernel
theorem dX4_addSign_21 : decode cX4_addSign 21 = .ok (.iload 4, 2) := by decide +kernel
theorem dX4_addSign_23 : decode cX4_addSign 23 = .ok (.iconst 1, 1) := by decide +kernel
theorem dX4_addSign_24 : decode cX4_addSign 24 = .ok (.iastore, 1) := by decide +kernel
theorem dX4_addSign_25 : decode cX4_addSign 25 = .ok (.aload_n 0, 1) := by decide +kernel
theorem dX4_addSign_26 : decode cX4_addSign 26 = .ok (.getfield 30, 3) := by decide +kernel
theorem dX4_addSign_29 : decode cX4_addSign 29 = .ok (.iload 4, 2) := by decide +kernel
theorem dX4_addSign_31 : decode cX4_addSign 31 = .ok (.iconst 3, 1) := by decide +kernel
theorem dX4_addSign_32 : decode cX4_addSign 32 = .ok (.imul, 1) := by decide +kernel
theorem dX4_addSign_33 : decode cX4_addSign 33 = .ok (.iload_n 2, 1) := by decide +kernel
theorem dX4_addSign_34 : decode cX4_addSign 34 = .ok (.iastore, 1) := by decide +kernel
theorem dX4_addSign_35 : decode cX4_addSign 35 = .ok (.return_, 1) := by decide +kernel
theorem dX4_addEdge_0 : decode cX4_addEdge 0 = .ok (.aload_n 0, 1) := by decide +kernel
theorem dX4_addEdge_1 : decode cX4_addEdge 1 = .ok (.getfield 65, 3) := by decide +kernel
theorem dX4_addEdge_4 : decode cX4_addEdge 4 = .ok (.istore 4, 2) := by decide +kernel
theorem dX4_addEdge_6 : decode cX4_addEdge 6 = .ok (.iload 4, 2) := by decide +kernel
theorem dX4_addEdge_8 : decode cX4_addEdge 8 = .ok (.sipush 624, 3) := by decide +kernel
theorem dX4_addEdge_11 : decode cX4_addEdge 11 = .ok (.if_icmp .lt 5, 3) := by decide +kernel
theorem dX4_addEdge_14 : decode cX4_addEdge 14 = .ok (.iconst (-1), 1) := by decide +kernel
theorem dX4_addEdge_15 : decode cX4_addEdge 15 = .ok (.ireturn, 1) := by decide +kernel
theorem dX4_addEdge_16 : decode cX4_addEdge 16 = .ok (.aload_n 0, 1) := by decide +kernel
theorem dX4_addEdge_17 : decode cX4_addEdge 17 = .ok (.dup, 1) := by decide +kernel
theorem dX4_addEdge_18 : decode cX4_addEdge 18 = .ok (.getfield 65, 3) := by decide +kernel
theorem dX4_addEdge_21 : decode cX4_addEdge 21 = .ok (.iconst 1, 1) := by decide +kernel
theorem dX4_addEdge_22 : decode cX4_addEdge 22 = .ok (.iadd, 1) := by decide +kernel
theorem dX4_addEdge_23 : decode cX4_addEdge 23 = .ok (.putfield 65, 3) := by decide +kernel
theorem dX4_addEdge_26 : decode cX4_addEdge 26 = .ok (.aload_n 0, 1) := by decide +kernel
theorem dX4_addEdge_27 : decode cX4_addEdge 27 = .ok (.getfield 18, 3) := by decide +kernel
theorem dX4_addEdge_30 : decode cX4_addEdge 30 = .ok (.iload 4, 2) := by decide +kernel
theorem dX4_addEdge_32 : decode cX4_addEdge 32 = .ok (.iload_n 1, 1) := by decide +kernel
theorem dX4_addEdge_33 : decode cX4_addEdge 33 = .ok (.iastore, 1) := by decide +kernel
theorem dX4_addEdge_34 : decode cX4_addEdge 34 = .ok (.aload_n 0, 1) := by decide +kernel
theorem dX4_addEdge_35 : decode cX4_addEdge 35 = .ok (.getfield 21, 3) := by decide +kernel
theorem dX4_addEdge_38 : decode cX4_addEdge 38 = .ok (.iload 4, 2) := by decide +kernel
theorem dX4_addEdge_40 : decode cX4_addEdge 40 = .ok (.iload_n 2, 1) := by decide +kernel
theorem dX4_addEdge_41 : decode cX4_addEdge 41 = .ok (.iastore, 1) := by decide +kernel
theorem dX4_addEdge_42 : decode cX4_addEdge 42 = .ok (.aload_n 0, 1) := by decide +kernel
theorem dX4_addEdge_43 : decode cX4_addEdge 43 = .ok (.getfield 24, 3) := by decide +kernel
theorem dX4_addEdge_46 : decode cX4_addEdge 46 = .ok (.iload 4, 2) := by decide +kernel
theorem dX4_addEdge_48 : decode cX4_addEdge 48 = .ok (.iload_n 3, 1) := by decide +kernel
theorem dX4_addEdge_49 : decode cX4_addEdge 49 = .ok (.iastore, 1) := by decide +kernel
theorem dX4_addEdge_50 : decode cX4_addEdge 50 = .ok (.aload_n 0, 1) := by decide +kernel
theorem dX4_addEdge_51 : decode cX4_addEdge 51 = .ok (.getfield 27, 3) := by decide +kernel
theorem dX4_addEdge_54 : decode cX4_addEdge 54 = .ok (.iload 4, 2) := by decide +kernel
theorem dX4_addEdge_56 : decode cX4_addEdge 56 = .ok (.iconst 0, 1) := by decide +kernel
theorem dX4_addEdge_57 : decode cX4_addEdge 57 = .ok (.iastore, 1) := by decide +kernel
theorem dX4_addEdge_58 : decode cX4_addEdge 58 = .ok (.aload_n 0, 1) := by decide +kernel
theorem dX4_addEdge_59 : decode cX4_addEdge 59 = .ok (.getfield 33, 3) := by decide +kernel
theorem dX4_addEdge_62 : decode cX4_addEdge 62 = .ok (.iload 4, 2) := by decide +kernel
theorem dX4_addEdge_64 : decode cX4_addEdge 64 = .ok (.iconst (-1), 1) := by decide +kernel
theorem dX4_addEdge_65 : decode cX4_addEdge 65 = .ok (.iastore, 1) := by decide +kernel
theorem dX4_addEdge_66 : decode cX4_addEdge 66 = .ok (.iload 4, 2) := by decide +kernel
theorem dX4_addEdge_68 : decode cX4_addEdge 68 = .ok (.ireturn, 1) := by decide +kernel
theorem dX4_end_0 : decode cX4_end 0 = .ok (.aload_n 0, 1) := by decide +kernel
theorem dX4_end_1 : decode cX4_end 1 = .ok (.getfield 15, 3) := by decide +kernel
theorem dX4_end_4 : decode cX4_end 4 = .ok (.aload_n 0, 1) := by decide +kernel
theorem dX4_end_5 : decode cX4_end 5 = .ok (.getfield 58, 3) := by decide +kernel
theorem dX4_end_8 : decode cX4_end 8 = .ok (.aload_n 0, 1) := by decide +kernel
theorem dX4_end_9 : decode cX4_end 9 = .ok (.getfield 65, 3) := by decide +kernel
theorem dX4_end_12 : decode cX4_end 12 = .ok (.iastore, 1) := by decide +kernel
theorem dX4_end_13 : decode cX4_end 13 = .ok (.aload_n 0, 1) := by decide +kernel
theorem dX4_end_14 : decode cX4_end 14 = .ok (.getfield 15, 3) := by decide +kernel
theorem dX4_end_17 : decode cX4_end 17 = .ok (.aload_n 0, 1) := by decide +kernel
theorem dX4_end_18 : decode cX4_end 18 = .ok (.getfield 58, 3) := by decide +kernel
theorem dX4_end_21 : decode cX4_end 21 = .ok (.iconst 1, 1) := by decide +kernel
theorem dX4_end_22 : decode cX4_end 22 = .ok (.iadd, 1) := by decide +kernel
theorem dX4_end_23 : decode cX4_end 23 = .ok (.aload_n 0, 1) := by decide +kernel
theorem dX4_end_24 : decode cX4_end 24 = .ok (.getfield 65, 3) := by decide +kernel
theorem dX4_end_27 : decode cX4_end 27 = .ok (.iastore, 1) := by decide +kernel
theorem dX4_end_28 : decode cX4_end 28 = .ok (.aload_n 0, 1) := by decide +kernel
theorem dX4_end_29 : decode cX4_end 29 = .ok (.getfield 36, 3) := by decide +kernel
theorem dX4_end_32 : decode cX4_end 32 = .ok (.aload_n 0, 1) := by decide +kernel
theorem dX4_end_33 : decode cX4_end 33 = .ok (.getfield 58, 3) := by decide +kernel
theorem dX4_end_36 : decode cX4_end 36 = .ok (.iconst 0, 1) := by decide +kernel
theorem dX4_end_37 : decode cX4_end 37 = .ok (.iastore, 1) := by decide +kernel
theorem dX4_end_38 : decode cX4_end 38 = .ok (.aload_n 0, 1) := by decide +kernel
theorem dX4_end_39 : decode cX4_end 39 = .ok (.getfield 58, 3) := by decide +kernel
theorem dX4_end_42 : decode cX4_end 42 = .ok (.iconst 1, 1) := by decide +kernel
theorem dX4_end_43 : decode cX4_end 43 = .ok (.isub, 1) := by decide +kernel
theorem dX4_end_44 : decode cX4_end 44 = .ok (.istore_n 1, 1) := by decide +kernel
theorem dX4_end_45 : decode cX4_end 45 = .ok (.iload_n 1, 1) := by decide +kernel
theorem dX4_end_46 : decode cX4_end 46 = .ok (.ifCond .lt 75, 3) := by decide +kernel
theorem dX4_end_49 : decode cX4_end 49 = .ok (.aload_n 0, 1) := by decide +kernel
theorem dX4_end_50 : decode cX4_end 50 = .ok (.getfield 36, 3) := by decide +kernel
theorem dX4_end_53 : decode cX4_end 53 = .ok (.iload_n 1, 1) := by decide +kernel
theorem dX4_end_54 : decode cX4_end 54 = .ok (.ldc 137, 2) := by decide +kernel
theorem dX4_end_56 : decode cX4_end 56 = .ok (.iastore, 1) := by decide +kernel
theorem dX4_end_57 : decode cX4_end 57 = .ok (.aload_n 0, 1) := by decide +kernel
theorem dX4_end_58 : decode cX4_end 58 = .ok (.getfield 15, 3) := by decide +kernel
theorem dX4_end_61 : decode cX4_end 61 = .ok (.iload_n 1, 1) := by decide +kernel
theorem dX4_end_62 : decode cX4_end 62 = .ok (.iaload, 1) := by decide +kernel
theorem dX4_end_63 : decode cX4_end 63 = .ok (.istore_n 2, 1) := by decide +kernel
theorem dX4_end_64 : decode cX4_end 64 = .ok (.iload_n 2, 1) := by decide +kernel
theorem dX4_end_65 : decode cX4_end 65 = .ok (.aload_n 0, 1) := by decide +kernel
theorem dX4_end_66 : decode cX4_end 66 = .ok (.getfield 15, 3) := by decide +kernel
theorem dX4_end_69 : decode cX4_end 69 = .ok (.iload_n 1, 1) := by decide +kernel
theorem dX4_end_70 : decode cX4_end 70 = .ok (.iconst 1, 1) := by decide +kernel
theorem dX4_end_71 : decode cX4_end 71 = .ok (.iadd, 1) := by decide +kernel
theorem dX4_end_72 : decode cX4_end 72 = .ok (.iaload, 1) := by decide +kernel
theorem dX4_end_73 : decode cX4_end 73 = .ok (.if_icmp .ge 42, 3) := by decide +kernel
theorem dX4_end_76 : decode cX4_end 76 = .ok (.aload_n 0, 1) := by decide +kernel
theorem dX4_end_77 : decode cX4_end 77 = .ok (.getfield 36, 3) := by decide +kernel
theorem dX4_end_80 : decode cX4_end 80 = .ok (.iload_n 1, 1) := by decide +kernel
theorem dX4_end_81 : decode cX4_end 81 = .ok (.aload_n 0, 1) := by decide +kernel
theorem dX4_end_82 : decode cX4_end 82 = .ok (.getfield 36, 3) := by decide +kernel
theorem dX4_end_85 : decode cX4_end 85 = .ok (.iload_n 1, 1) := by decide +kernel
theorem dX4_end_86 : decode cX4_end 86 = .ok (.iaload, 1) := by decide +kernel
theorem dX4_end_87 : decode cX4_end 87 = .ok (.aload_n 0, 1) := by decide +kernel
theorem dX4_end_88 : decode cX4_end 88 = .ok (.getfield 24, 3) := by decide +kernel
theorem dX4_end_91 : decode cX4_end 91 = .ok (.iload_n 2, 1) := by decide +kernel
theorem dX4_end_92 : decode cX4_end 92 = .ok (.iaload, 1) := by decide +kernel
theorem dX4_end_93 : decode cX4_end 93 = .ok (.aload_n 0, 1) := by decide +kernel
theorem dX4_end_94 : decode cX4_end 94 = .ok (.getfield 36, 3) := by decide +kernel
theorem dX4_end_97 : decode cX4_end 97 = .ok (.aload_n 0, 1) := by decide +kernel
theorem dX4_end_98 : decode cX4_end 98 = .ok (.getfield 21, 3) := by decide +kernel
theorem dX4_end_101 : decode cX4_end 101 = .ok (.iload_n 2, 1) := by decide +kernel
theorem dX4_end_102 : decode cX4_end 102 = .ok (.iaload, 1) := by decide +kernel
theorem dX4_end_103 : decode cX4_end 103 = .ok (.iaload, 1) := by decide +kernel
theorem dX4_end_104 : decode cX4_end 104 = .ok (.iadd, 1) := by decide +kernel
theorem dX4_end_105 : decode cX4_end 105 = .ok (.invokestatic 90, 3) := by decide +kernel
theorem dX4_end_108 : decode cX4_end 108 = .ok (.iastore, 1) := by decide +kernel
theorem dX4_end_109 : decode cX4_end 109 = .ok (.iinc 2 1, 3) := by decide +kernel
theorem dX4_end_112 : decode cX4_end 112 = .ok (.goto (-48), 3) := by decide +kernel
theorem dX4_end_115 : decode cX4_end 115 = .ok (.iinc 1 (-1), 3) := by decide +kernel
theorem dX4_end_118 : decode cX4_end 118 = .ok (.goto (-73), 3) := by decide +kernel
theorem dX4_end_121 : decode cX4_end 121 = .ok (.return_, 1) := by decide +kernel
theorem dX5_init_0 : decode cX5_init 0 = .ok (.aload_n 0, 1) := by decide +kernel
theorem dX5_init_1 : decode cX5_init 1 = .ok (.invokespecial 3, 3) := by decide +kernel
theorem dX5_init_4 : decode cX5_init 4 = .ok (.aload_n 0, 1) := by decide +kernel
theorem dX5_init_5 : decode cX5_init 5 = .ok (.bipush 41, 2) := by decide +kernel
theorem dX5_init_7 : decode cX5_init 7 = .ok (.newarray .int, 2) := by decide +kernel
theorem dX5_init_9 : decode cX5_init 9 = .ok (.putfield 9, 3) := by decide +kernel
theorem dX5_init_12 : decode cX5_init 12 = .ok (.aload_n 0, 1) := by decide +kernel
theorem dX5_init_13 : decode cX5_init 13 = .ok (.bipush 40, 2) := by decide +kernel
theorem dX5_init_15 : decode cX5_init 15 = .ok (.newarray .int, 2) := by decide +kernel
theorem dX5_init_17 : decode cX5_init 17 = .ok (.putfield 15, 3) := by decide +kernel
theorem dX5_init_20 : decode cX5_init 20 = .ok (.aload_n 0, 1) := by decide +kernel
theorem dX5_init_21 : decode cX5_init 21 = .ok (.bipush 40, 2) := by decide +kernel
theorem dX5_init_23 : decode cX5_init 23 = .ok (.newarray .boolean, 2) := by decide +kernel
theorem dX5_init_25 : decode cX5_init 25 = .ok (.putfield 18, 3) := by decide +kernel
theorem dX5_init_28 : decode cX5_init 28 = .ok (.aload_n 0, 1) := by decide +kernel
theorem dX5_init_29 : decode cX5_init 29 = .ok (.bipush 40, 2) := by decide +kernel
theorem dX5_init_31 : decode cX5_init 31 = .ok (.newarray .boolean, 2) := by decide +kernel
theorem dX5_init_33 : decode cX5_init 33 = .ok (.putfield 22, 3) := by decide +kernel
theorem dX5_init_36 : decode cX5_init 36 = .ok (.aload_n 0, 1) := by decide +kernel
theorem dX5_init_37 : decode cX5_init 37 = .ok (.sipush 400, 3) := by decide +kernel
theorem dX5_init_40 : decode cX5_init 40 = .ok (.newarray .int, 2) := by decide +kernel
theorem dX5_init_42 : decode cX5_init 42 = .ok (.putfield 25, 3) := by decide +kernel
theorem dX5_init_45 : decode cX5_init 45 = .ok (.aload_n 0, 1) := by decide +kernel
theorem dX5_init_46 : decode cX5_init 46 = .ok (.sipush 400, 3) := by decide +kernel
theorem dX5_init_49 : decode cX5_init 49 = .ok (.newarray .int, 2) := by decide +kernel
theorem dX5_init_51 : decode cX5_init 51 = .ok (.putfield 28, 3) := by decide +kernel
theorem dX5_init_54 : decode cX5_init 54 = .ok (.aload_n 0, 1) := by decide +kernel
theorem dX5_init_55 : decode cX5_init 55 = .ok (.sipush 1200, 3) := by decide +kernel
theorem dX5_init_58 : decode cX5_init 58 = .ok (.newarray .int, 2) := by decide +kernel
theorem dX5_init_60 : decode cX5_init 60 = .ok (.putfield 31, 3) := by decide +kernel
theorem dX5_init_63 : decode cX5_init 63 = .ok (.aload_n 0, 1) := by decide +kernel
theorem dX5_init_64 : decode cX5_init 64 = .ok (.sipush 1200, 3) := by decide +kernel
theorem dX5_init_67 : decode cX5_init 67 = .ok (.newarray .int, 2) := by decide +kernel
theorem dX5_init_69 : decode cX5_init 69 = .ok (.putfield 34, 3) := by decide +kernel
theorem dX5_init_72 : decode cX5_init 72 = .ok (.return_, 1) := by decide +kernel
theorem dX5_cellsOf_0 : decode cX5_cellsOf 0 = .ok (.aload_n 0, 1) := by decide +kernel
theorem dX5_cellsOf_1 : decode cX5_cellsOf 1 = .ok (.getfield 9, 3) := by decide +kernel
theorem dX5_cellsOf_4 : decode cX5_cellsOf 4 = .ok (.iload_n 1, 1) := by decide +kernel
theorem dX5_cellsOf_5 : decode cX5_cellsOf 5 = .ok (.iconst 1, 1) := by decide +kernel
theorem dX5_cellsOf_6 : decode cX5_cellsOf 6 = .ok (.iadd, 1) := by decide +kernel
theorem dX5_cellsOf_7 : decode cX5_cellsOf 7 = .ok (.iaload, 1) := by decide +kernel
theorem dX5_cellsOf_8 : decode cX5_cellsOf 8 = .ok (.aload_n 0, 1) := by decide +kernel
theorem dX5_cellsOf_9 : decode cX5_cellsOf 9 = .ok (.getfield 9, 3) := by decide +kernel
theorem dX5_cellsOf_12 : decode cX5_cellsOf 12 = .ok (.iload_n 1, 1) := by decide +kernel
theorem dX5_cellsOf_13 : decode cX5_cellsOf 13 = .ok (.iaload, 1) := by decide +kernel
theorem dX5_cellsOf_14 : decode cX5_cellsOf 14 = .ok (.isub, 1) := by decide +kernel
theorem dX5_cellsOf_15 : decode cX5_cellsOf 15 = .ok (.ireturn, 1) := by decide +kernel
theorem dX5_countBreaks_0 : decode cX5_countBreaks 0 = .ok (.iconst 0, 1) := by decide +kernel
theorem dX5_countBreaks_1 : decode cX5_countBreaks 1 = .ok (.istore_n 2, 1) := by decide +kernel
theorem dX5_countBreaks_2 : decode cX5_countBreaks 2 = .ok (.aload_n 0, 1) := by decide +kernel
theorem dX5_countBreaks_3 : decode cX5_countBreaks 3 = .ok (.getfield 9, 3) := by decide +kernel
theorem dX5_countBreaks_6 : decode cX5_countBreaks 6 = .ok (.iload_n 1, 1) := by decide +kernel
theorem dX5_countBreaks_7 : decode cX5_countBreaks 7 = .ok (.iaload, 1) := by decide +kernel
theorem dX5_countBreaks_8 : decode cX5_countBreaks 8 = .ok (.istore_n 3, 1) := by decide +kernel
theorem dX5_countBreaks_9 : decode cX5_countBreaks 9 = .ok (.iload_n 3, 1) := by decide +kernel
theorem dX5_countBreaks_10 : decode cX5_countBreaks 10 = .ok (.aload_n 0, 1) := by decide +kernel
theorem dX5_countBreaks_11 : decode cX5_countBreaks 11 = .ok (.getfield 9, 3) := by decide +kernel
theorem dX5_countBreaks_14 : decode cX5_countBreaks 14 = .ok (.iload_n 1, 1) := by decide +kernel
theorem dX5_countBreaks_15 : decode cX5_countBreaks 15 = .ok (.iconst 1, 1) := by decide +kernel
theorem dX5_countBreaks_16 : decode cX5_countBreaks 16 = .ok (.iadd, 1) := by decide +kernel
theorem dX5_countBreaks_17 : decode cX5_countBreaks 17 = .ok (.iaload, 1) := by decide +kernel
theorem dX5_countBreaks_18 : decode cX5_countBreaks 18 = .ok (.if_icmp .ge 23, 3) := by decide +kernel
theorem dX5_countBreaks_21 : decode cX5_countBreaks 21 = .ok (.aload_n 0, 1) := by decide +kernel
theorem dX5_countBreaks_22 : decode cX5_countBreaks 22 = .ok (.getfield 25, 3) := by decide +kernel
theorem dX5_countBreaks_25 : decode cX5_countBreaks 25 = .ok (.iload_n 3, 1) := by decide +kernel
theorem dX5_countBreaks_26 : decode cX5_countBreaks 26 = .ok (.iaload, 1) := by decide +kernel
theorem dX5_countBreaks_27 : decode cX5_countBreaks 27 = .ok (.bipush 10, 2) := by decide +kernel
theorem dX5_countBreaks_29 : decode cX5_countBreaks 29 = .ok (.if_icmp .ne 6, 3) := by decide +kernel
theorem dX5_countBreaks_32 : decode cX5_countBreaks 32 = .ok (.iinc 2 1, 3) := by decide +kernel
theorem dX5_countBreaks_35 : decode cX5_countBreaks 35 = .ok (.iinc 3 1, 3) := by decide +kernel
theorem dX5_countBreaks_38 : decode cX5_countBreaks 38 = .ok (.goto (-29), 3) := by decide +kernel
theorem dX5_countBreaks_41 : decode cX5_countBreaks 41 = .ok (.iload_n 2, 1) := by decide +kernel
theorem dX5_countBreaks_42 : decode cX5_countBreaks 42 = .ok (.ireturn, 1) := by decide +kernel
theorem dX5_leastOther_0 : decode cX5_leastOther 0 = .ok (.iconst (-1), 1) := by decide +kernel
theorem dX5_leastOther_1 : decode cX5_leastOther 1 = .ok (.istore_n 2, 1) := by decide +kernel
theorem dX5_leastOther_2 : decode cX5_leastOther 2 = .ok (.iconst 0, 1) := by decide +kernel
theorem dX5_leastOther_3 : decode cX5_leastOther 3 = .ok (.istore_n 3, 1) := by decide +kernel
theorem dX5_leastOther_4 : decode cX5_leastOther 4 = .ok (.iload_n 3, 1) := by decide +kernel
theorem dX5_leastOther_5 : decode cX5_leastOther 5 = .ok (.aload_n 0, 1) := by decide +kernel
theorem dX5_leastOther_6 : decode cX5_leastOther 6 = .ok (.getfield 28, 3) := by decide +kernel
theorem dX5_leastOther_9 : decode cX5_leastOther 9 = .ok (.iload_n 1, 1) := by decide +kernel
theorem dX5_leastOther_10 : decode cX5_leastOther 10 = .ok (.iaload, 1) := by decide +kernel
theorem dX5_leastOther_11 : decode cX5_leastOther 11 = .ok (.if_icmp .ge 38, 3) := by decide +kernel
theorem dX5_leastOther_14 : decode cX5_leastOther 14 = .ok (.aload_n 0, 1) := by decide +kernel
theorem dX5_leastOther_15 : decode cX5_leastOther 15 = .ok (.getfield 34, 3) := by decide +kernel
theorem dX5_leastOther_18 : decode cX5_leastOther 18 = .ok (.iload_n 1, 1) := by decide +kernel
theorem dX5_leastOther_19 : decode cX5_leastOther 19 = .ok (.iconst 3, 1) := by decide +kernel
theorem dX5_leastOther_20 : decode cX5_leastOther 20 = .ok (.imul, 1) := by decide +kernel
theorem dX5_leastOther_21 : decode cX5_leastOther 21 = .ok (.iload_n 3, 1) := by decide +kernel
theorem dX5_leastOther_22 : decode cX5_leastOther 22 = .ok (.iadd, 1) := by decide +kernel
theorem dX5_leastOther_23 : decode cX5_leastOther 23 = .ok (.iaload, 1) := by decide +kernel
theorem dX5_leastOther_24 : decode cX5_leastOther 24 = .ok (.istore 4, 2) := by decide +kernel
theorem dX5_leastOther_26 : decode cX5_leastOther 26 = .ok (.iload_n 2, 1) := by decide +kernel
theorem dX5_leastOther_27 : decode cX5_leastOther 27 = .ok (.iconst (-1), 1) := by decide +kernel
theorem dX5_leastOther_28 : decode cX5_leastOther 28 = .ok (.if_icmp .ne 8, 3) := by decide +kernel
theorem dX5_leastOther_31 : decode cX5_leastOther 31 = .ok (.iload 4, 2) := by decide +kernel
theorem dX5_leastOther_33 : decode cX5_leastOther 33 = .ok (.goto 9, 3) := by decide +kernel
theorem dX5_leastOther_36 : decode cX5_leastOther 36 = .ok (.iload_n 2, 1) := by decide +kernel
theorem dX5_leastOther_37 : decode cX5_leastOther 37 = .ok (.iload 4, 2) := by decide +kernel
theorem dX5_leastOther_39 : decode cX5_leastOther 39 = .ok (.invokestatic 37, 3) := by decide +kernel
theorem dX5_leastOther_42 : decode cX5_leastOther 42 = .ok (.istore_n 2, 1) := by decide +kernel
theorem dX5_leastOther_43 : decode cX5_leastOther 43 = .ok (.iinc 3 1, 3) := by decide +kernel
theorem dX5_leastOther_46 : decode cX5_leastOther 46 = .ok (.goto (-42), 3) := by decide +kernel
theorem dX5_leastOther_49 : decode cX5_leastOther 49 = .ok (.iload_n 2, 1) := by decide +kernel
theorem dX5_leastOther_50 : decode cX5_leastOther 50 = .ok (.ireturn, 1) := by decide +kernel
theorem dX5_readAs_0 : decode cX5_readAs 0 = .ok (.iconst 0, 1) := by decide +kernel
theorem dX5_readAs_1 : decode cX5_readAs 1 = .ok (.istore_n 3, 1) := by decide +kernel
theorem dX5_readAs_2 : decode cX5_readAs 2 = .ok (.aload_n 0, 1) := by decide +kernel
theorem dX5_readAs_3 : decode cX5_readAs 3 = .ok (.getfield 9, 3) := by decide +kernel
theorem dX5_readAs_6 : decode cX5_readAs 6 = .ok (.iload_n 1, 1) := by decide +kernel
theorem dX5_readAs_7 : decode cX5_readAs 7 = .ok (.iaload, 1) := by decide +kernel
theorem dX5_readAs_8 : decode cX5_readAs 8 = .ok (.istore 4, 2) := by decide +kernel
theorem dX5_readAs_10 : decode cX5_readAs 10 = .ok (.iload 4, 2) := by decide +kernel
theorem dX5_readAs_12 : decode cX5_readAs 12 = .ok (.aload_n 0, 1) := by decide +kernel
theorem dX5_readAs_13 : decode cX5_readAs 13 = .ok (.getfield 9, 3) := by decide +kernel
theorem dX5_readAs_16 : decode cX5_readAs 16 = .ok (.iload_n 1, 1) := by decide +kernel
theorem dX5_readAs_17 : decode cX5_readAs 17 = .ok (.iconst 1, 1) := by decide +kernel
theorem dX5_readAs_18 : decode cX5_readAs 18 = .ok (.iadd, 1) := by decide +kernel
theorem dX5_readAs_19 : decode cX5_readAs 19 = .ok (.iaload, 1) := by decide +kernel
theorem dX5_readAs_20 : decode cX5_readAs 20 = .ok (.if_icmp .ge 41, 3) := by decide +kernel
theorem dX5_readAs_23 : decode cX5_readAs 23 = .ok (.aload_n 0, 1) := by decide +kernel
theorem dX5_readAs_24 : decode cX5_readAs 24 = .ok (.getfield 25, 3) := by decide +kernel
theorem dX5_readAs_27 : decode cX5_readAs 27 = .ok (.iload 4, 2) := by decide +kernel
theorem dX5_readAs_29 : decode cX5_readAs 29 = .ok (.iaload, 1) := by decide +kernel
theorem dX5_readAs_30 : decode cX5_readAs 30 = .ok (.bipush 10, 2) := by decide +kernel
theorem dX5_readAs_32 : decode cX5_readAs 32 = .ok (.if_icmp .eq 16, 3) := by decide +kernel
theorem dX5_readAs_35 : decode cX5_readAs 35 = .ok (.aload_n 2, 1) := by decide +kernel
theorem dX5_readAs_36 : decode cX5_readAs 36 = .ok (.iload_n 3, 1) := by decide +kernel
theorem dX5_readAs_37 : decode cX5_readAs 37 = .ok (.aload_n 0, 1) := by decide +kernel
theorem dX5_readAs_38 : decode cX5_readAs 38 = .ok (.getfield 25, 3) := by decide +kernel
theorem dX5_readAs_41 : decode cX5_readAs 41 = .ok (.iload 4, 2) := by decide +kernel
theorem dX5_readAs_43 : decode cX5_readAs 43 = .ok (.iaload, 1) := by decide +kernel
theorem dX5_readAs_44 : decode cX5_readAs 44 = .ok (.invokevirtual 43, 3) := by decide +kernel
theorem dX5_readAs_47 : decode cX5_readAs 47 = .ok (.istore_n 3, 1) := by decide +kernel
theorem dX5_readAs_48 : decode cX5_readAs 48 = .ok (.iload_n 3, 1) := by decide +kernel
theorem dX5_readAs_49 : decode cX5_readAs 49 = .ok (.iconst (-1), 1) := by decide +kernel
theorem dX5_readAs_50 : decode cX5_readAs 50 = .ok (.if_icmp .ne 5, 3) := by decide +kernel
theorem dX5_readAs_53 : decode cX5_readAs 53 = .ok (.iconst (-1), 1) := by decide +kernel
theorem dX5_readAs_54 : decode cX5_readAs 54 = .ok (.ireturn, 1) := by decide +kernel
theorem dX5_readAs_55 : decode cX5_readAs 55 = .ok (.iinc 4 1, 3) := by decide +kernel
theorem dX5_readAs_58 : decode cX5_readAs 58 = .ok (.goto (-48), 3) := by decide +kernel
theorem dX5_readAs_61 : decode cX5_readAs 61 = .ok (.aload_n 2, 1) := by decide +kernel
theorem dX5_readAs_62 : decode cX5_readAs 62 = .ok (.getfield 48, 3) := by decide +kernel
theorem dX5_readAs_65 : decode cX5_readAs 65 = .ok (.iload_n 3, 1) := by decide +kernel
theorem dX5_readAs_66 : decode cX5_readAs 66 = .ok (.iaload, 1) := by decide +kernel
theorem dX5_readAs_67 : decode cX5_readAs 67 = .ok (.ireturn, 1) := by decide +kernel
theorem dX5_readText_0 : decode cX5_readText 0 = .ok (.aload_n 0, 1) := by decide +kernel
theorem dX5_readText_1 : decode cX5_readText 1 = .ok (.iconst 0, 1) := by decide +kernel
theorem dX5_readText_2 : decode cX5_readText 2 = .ok (.putfield 51, 3) := by decide +kernel
theorem dX5_readText_5 : decode cX5_readText 5 = .ok (.aload_n 0, 1) := by decide +kernel
theorem dX5_readText_6 : decode cX5_readText 6 = .ok (.iconst 0, 1) := by decide +kernel
theorem dX5_readText_7 : decode cX5_readText 7 = .ok (.putfield 55, 3) := by decide +kernel
theorem dX5_readText_10 : decode cX5_readText 10 = .ok (.aload_n 0, 1) := by decide +kernel
theorem dX5_readText_11 : decode cX5_readText 11 = .ok (.iconst 1, 1) := by decide +kernel
theorem dX5_readText_12 : decode cX5_readText 12 = .ok (.putfield 58, 3) := by decide +kernel
theorem dX5_readText_15 : decode cX5_readText 15 = .ok (.iconst 0, 1) := by decide +kernel
theorem dX5_readText_16 : decode cX5_readText 16 = .ok (.istore_n 2, 1) := by decide +kernel
theorem dX5_readText_17 : decode cX5_readText 17 = .ok (.iload_n 2, 1) := by decide +kernel
theorem dX5_readText_18 : decode cX5_readText 18 = .ok (.bipush 40, 2) := by decide +kernel
theorem dX5_readText_20 : decode cX5_readText 20 = .ok (.if_icmp .gt 33, 3) := by decide +kernel
theorem dX5_readText_23 : decode cX5_readText 23 = .ok (.aload_n 0, 1) := by decide +kernel
theorem dX5_readText_24 : decode cX5_readText 24 = .ok (.aload_n 1, 1) := by decide +kernel
theorem dX5_readText_25 : decode cX5_readText 25 = .ok (.invokevirtual 61, 3) := by decide +kernel
theorem dX5_readText_28 : decode cX5_readText 28 = .ok (.aload_n 1, 1) := by decide +kernel
theorem dX5_readText_29 : decode cX5_readText 29 = .ok (.invokevirtual 65, 3) := by decide +kernel
theorem dX5_readText_32 : decode cX5_readText 32 = .ok (.ifCond .eq 5, 3) := by decide +kernel
theorem dX5_readText_35 : decode cX5_readText 35 = .ok (.iconst 1, 1) := by decide +kernel
theorem dX5_readText_36 : decode cX5_readText 36 = .ok (.ireturn, 1) := by decide +kernel
theorem dX5_readText_37 : decode cX5_readText 37 = .ok (.aload_n 0, 1) := by decide +kernel
theorem dX5_readText_38 : decode cX5_readText 38 = .ok (.aload_n 1, 1) := by decide +kernel
theorem dX5_readText_39 : decode cX5_readText 39 = .ok (.invokevirtual 71, 3) := by decide +kernel
theorem dX5_readText_42 : decode cX5_readText 42 = .ok (.ifCond .ne 5, 3) := by decide +kernel
theorem dX5_readText_45 : decode cX5_readText 45 = .ok (.iconst 0, 1) := by decide +kernel
theorem dX5_readText_46 : decode cX5_readText 46 = .ok (.ireturn, 1) := by decide +kernel
theorem dX5_readText_47 : decode cX5_readText 47 = .ok (.iinc 2 1, 3) := by decide +kernel
theorem dX5_readText_50 : decode cX5_readText 50 = .ok (.goto (-33), 3) := by decide +kernel
theorem dX5_readText_53 : decode cX5_readText 53 = .ok (.iconst 0, 1) := by decide +kernel
theorem dX5_readText_54 : decode cX5_readText 54 = .ok (.ireturn, 1) := by decide +kernel
theorem dX5_readGap_0 : decode cX5_readGap 0 = .ok (.iconst 0, 1) := by decide +kernel
theorem dX5_readGap_1 : decode cX5_readGap 1 = .ok (.istore_n 2, 1) := by decide +kernel
theorem dX5_readGap_2 : decode cX5_readGap 2 = .ok (.iconst 0, 1) := by decide +kernel
theorem dX5_readGap_3 : decode cX5_readGap 3 = .ok (.istore_n 3, 1) := by decide +kernel
theorem dX5_readGap_4 : decode cX5_readGap 4 = .ok (.aload_n 1, 1) := by decide +kernel
theorem dX5_readGap_5 : decode cX5_readGap 5 = .ok (.invokevirtual 65, 3) := by decide +kernel
theorem dX5_readGap_8 : decode cX5_readGap 8 = .ok (.ifCond .ne 47, 3) := by decide +kernel
theorem dX5_readGap_11 : decode cX5_readGap 11 = .ok (.aload_n 0, 1) := by decide +kernel
theorem dX5_readGap_12 : decode cX5_readGap 12 = .ok (.aload_n 1, 1) := by decide +kernel
theorem dX5_readGap_13 : decode cX5_readGap 13 = .ok (.iconst 0, 1) := by decide +kernel
theorem dX5_readGap_14 : decode cX5_readGap 14 = .ok (.invokevirtual 75, 3) := by decide +kernel
theorem dX5_readGap_17 : decode cX5_readGap 17 = .ok (.invokevirtual 79, 3) := by decide +kernel
theorem dX5_readGap_20 : decode cX5_readGap 20 = .ok (.ifCond .eq 35, 3) := by decide +kernel
theorem dX5_readGap_23 : decode cX5_readGap 23 = .ok (.aload_n 1, 1) := by decide +kernel
theorem dX5_readGap_24 : decode cX5_readGap 24 = .ok (.iconst 0, 1) := by decide +kernel
theorem dX5_readGap_25 : decode cX5_readGap 25 = .ok (.invokevirtual 75, 3) := by decide +kernel
theorem dX5_readGap_28 : decode cX5_readGap 28 = .ok (.bipush 10, 2) := by decide +kernel
theorem dX5_readGap_30 : decode cX5_readGap 30 = .ok (.if_icmp .ne 9, 3) := by decide +kernel
theorem dX5_readGap_33 : decode cX5_readGap 33 = .ok (.iinc 2 1, 3) := by decide +kernel
theorem dX5_readGap_36 : decode cX5_readGap 36 = .ok (.goto 6, 3) := by decide +kernel
theorem dX5_readGap_39 : decode cX5_readGap 39 = .ok (.iinc 3 1, 3) := by decide +kernel
theorem dX5_readGap_42 : decode cX5_readGap 42 = .ok (.aload_n 1, 1) := by decide +kernel
theorem dX5_readGap_43 : decode cX5_readGap 43 = .ok (.dup, 1) := by decide +kernel
theorem dX5_readGap_44 : decode cX5_readGap 44 = .ok (.getfield 83, 3) := by decide +kernel
theorem dX5_readGap_47 : decode cX5_readGap 47 = .ok (.iconst 1, 1) := by decide +kernel
theorem dX5_readGap_48 : decode cX5_readGap 48 = .ok (.iadd, 1) := by decide +kernel
theorem dX5_readGap_49 : decode cX5_readGap 49 = .ok (.putfield 83, 3) := by decide +kernel
theorem dX5_readGap_52 : decode cX5_readGap 52 = .ok (.goto (-48), 3) := by decide +kernel
theorem dX5_readGap_55 : decode cX5_readGap 55 = .ok (.aload_n 0, 1) := by decide +kernel
theorem dX5_readGap_56 : decode cX5_readGap 56 = .ok (.dup, 1) := by decide +kernel
theorem dX5_readGap_57 : decode cX5_readGap 57 = .ok (.getfield 58, 3) := by decide +kernel
theorem dX5_readGap_60 : decode cX5_readGap 60 = .ok (.iload_n 2, 1) := by decide +kernel
theorem dX5_readGap_61 : decode cX5_readGap 61 = .ok (.iadd, 1) := by decide +kernel
theorem dX5_readGap_62 : decode cX5_readGap 62 = .ok (.putfield 58, 3) := by decide +kernel
theorem dX5_readGap_65 : decode cX5_readGap 65 = .ok (.aload_n 0, 1) := by decide +kernel
theorem dX5_readGap_66 : decode cX5_readGap 66 = .ok (.getfield 51, 3) := by decide +kernel
theorem dX5_readGap_69 : decode cX5_readGap 69 = .ok (.ifCond .le 55, 3) := by decide +kernel
theorem dX5_readGap_72 : decode cX5_readGap 72 = .ok (.aload_n 0, 1) := by decide +kernel
theorem dX5_readGap_73 : decode cX5_readGap 73 = .ok (.getfield 22, 3) := by decide +kernel
theorem dX5_readGap_76 : decode cX5_readGap 76 = .ok (.aload_n 0, 1) := by decide +kernel
theorem dX5_readGap_77 : decode cX5_readGap 77 = .ok (.getfield 51, 3) := by decide +kernel
theorem dX5_readGap_80 : decode cX5_readGap 80 = .ok (.iconst 1, 1) := by decide +kernel
theorem dX5_readGap_81 : decode cX5_readGap 81 = .ok (.isub, 1) := by decide +kernel
theorem dX5_readGap_82 : decode cX5_readGap 82 = .ok (.iload_n 2, 1) := by decide +kernel
theorem dX5_readGap_83 : decode cX5_readGap 83 = .ok (.ifCond .le 7, 3) := by decide +kernel
theorem dX5_readGap_86 : decode cX5_readGap 86 = .ok (.iconst 1, 1) := by decide +kernel
theorem dX5_readGap_87 : decode cX5_readGap 87 = .ok (.goto 4, 3) := by decide +kernel
theorem dX5_readGap_90 : decode cX5_readGap 90 = .ok (.iconst 0, 1) := by decide +kernel
theorem dX5_readGap_91 : decode cX5_readGap 91 = .ok (.bastore, 1) := by decide +kernel
theorem dX5_readGap_92 : decode cX5_readGap 92 = .ok (.aload_n 0, 1) := by decide +kernel
theorem dX5_readGap_93 : decode cX5_readGap 93 = .ok (.getfield 18, 3) := by decide +kernel
theorem dX5_readGap_96 : decode cX5_readGap 96 = .ok (.aload_n 0, 1) := by decide +kernel
theorem dX5_readGap_97 : decode cX5_readGap 97 = .ok (.getfield 51, 3) := by decide +kernel
theorem dX5_readGap_100 : decode cX5_readGap 100 = .ok (.iconst 1, 1) := by decide +kernel
theorem dX5_readGap_101 : decode cX5_readGap 101 = .ok (.isub, 1) := by decide +kernel
theorem dX5_readGap_102 : decode cX5_readGap 102 = .ok (.iload_n 2, 1) := by decide +kernel
theorem dX5_readGap_103 : decode cX5_readGap 103 = .ok (.iconst 1, 1) := by decide +kernel
theorem dX5_readGap_104 : decode cX5_readGap 104 = .ok (.if_icmp .ne 18, 3) := by decide +kernel
theorem dX5_readGap_107 : decode cX5_readGap 107 = .ok (.iload_n 3, 1) := by decide +kernel
theorem dX5_readGap_108 : decode cX5_readGap 108 = .ok (.ifCond .ne 14, 3) := by decide +kernel
theorem dX5_readGap_111 : decode cX5_readGap 111 = .ok (.aload_n 1, 1) := by decide +kernel
theorem dX5_readGap_112 : decode cX5_readGap 112 = .ok (.invokevirtual 65, 3) := by decide +kernel
theorem dX5_readGap_115 : decode cX5_readGap 115 = .ok (.ifCond .ne 7, 3) := by decide +kernel
theorem dX5_readGap_118 : decode cX5_readGap 118 = .ok (.iconst 1, 1) := by decide +kernel
theorem dX5_readGap_119 : decode cX5_readGap 119 = .ok (.goto 4, 3) := by decide +kernel
theorem dX5_readGap_122 : decode cX5_readGap 122 = .ok (.iconst 0, 1) := by decide +kernel
theorem dX5_readGap_123 : decode cX5_readGap 123 = .ok (.bastore, 1) := by decide +kernel
theorem dX5_readGap_124 : decode cX5_readGap 124 = .ok (.return_, 1) := by decide +kernel
theorem dX5_isGap_0 : decode cX5_isGap 0 = .ok (.iload_n 1, 1) := by decide +kernel
theorem dX5_isGap_1 : decode cX5_isGap 1 = .ok (.bipush 32, 2) := by decide +kernel
theorem dX5_isGap_3 : decode cX5_isGap 3 = .ok (.if_icmp .eq 9, 3) := by decide +kernel
theorem dX5_isGap_6 : decode cX5_isGap 6 = .ok (.iload_n 1, 1) := by decide +kernel
theorem dX5_isGap_7 : decode cX5_isGap 7 = .ok (.bipush 10, 2) := by decide +kernel
theorem dX5_isGap_9 : decode cX5_isGap 9 = .ok (.if_icmp .ne 7, 3) := by decide +kernel
theorem dX5_isGap_12 : decode cX5_isGap 12 = .ok (.iconst 1, 1) := by decide +kernel
theorem dX5_isGap_13 : decode cX5_isGap 13 = .ok (.goto 4, 3) := by decide +kernel
theorem dX5_isGap_16 : decode cX5_isGap 16 = .ok (.iconst 0, 1) := by decide +kernel
theorem dX5_isGap_17 : decode cX5_isGap 17 = .ok (.ireturn, 1) := by decide +kernel
theorem dX5_readToken_0 : decode cX5_readToken 0 = .ok (.aload_n 0, 1) := by decide +kernel
theorem dX5_readToken_1 : decode cX5_readToken 1 = .ok (.aload_n 1, 1) := by decide +kernel
theorem dX5_readToken_2 : decode cX5_readToken 2 = .ok (.iconst 0, 1) := by decide +kernel
theorem dX5_readToken_3 : decode cX5_readToken 3 = .ok (.invokevirtual 75, 3) := by decide +kernel
theorem dX5_readToken_6 : decode cX5_readToken 6 = .ok (.invokevirtual 86, 3) := by decide +kernel
theorem dX5_readToken_9 : decode cX5_readToken 9 = .ok (.ifCond .ne 13, 3) := by decide +kernel
theorem dX5_readToken_12 : decode cX5_readToken 12 = .ok (.aload_n 1, 1) := by decide +kernel
theorem dX5_readToken_13 : decode cX5_readToken 13 = .ok (.iconst 1, 1) := by decide +kernel
theorem dX5_readToken_14 : decode cX5_readToken 14 = .ok (.aload_n 1, 1) := by decide +kernel
theorem dX5_readToken_15 : decode cX5_readToken 15 = .ok (.getfield 83, 3) := by decide +kernel
theorem dX5_readToken_18 : decode cX5_readToken 18 = .ok (.invokevirtual 89, 3) := by decide +kernel
theorem dX5_readToken_21 : decode cX5_readToken 21 = .ok (.ireturn, 1) := by decide +kernel
theorem dX5_readToken_22 : decode cX5_readToken 22 = .ok (.aload_n 0, 1) := by decide +kernel
theorem dX5_readToken_23 : decode cX5_readToken 23 = .ok (.getfield 51, 3) := by decide +kernel
theorem dX5_readToken_26 : decode cX5_readToken 26 = .ok (.bipush 40, 2) := by decide +kernel
theorem dX5_readToken_28 : decode cX5_readToken 28 = .ok (.if_icmp .lt 13, 3) := by decide +kernel
theorem dX5_readToken_31 : decode cX5_readToken 31 = .ok (.aload_n 1, 1) := by decide +kernel
theorem dX5_readToken_32 : decode cX5_readToken 32 = .ok (.iconst 3, 1) := by decide +kernel
theorem dX5_readToken_33 : decode cX5_readToken 33 = .ok (.aload_n 1, 1) := by decide +kernel
theorem dX5_readToken_34 : decode cX5_readToken 34 = .ok (.getfield 83, 3) := by decide +kernel
theorem dX5_readToken_37 : decode cX5_readToken 37 = .ok (.invokevirtual 89, 3) := by decide +kernel
theorem dX5_readToken_40 : decode cX5_readToken 40 = .ok (.ireturn, 1) := by decide +kernel
theorem dX5_readToken_41 : decode cX5_readToken 41 = .ok (.aload_n 0, 1) := by decide +kernel
theorem dX5_readToken_42 : decode cX5_readToken 42 = .ok (.getfield 9, 3) := by decide +kernel
theorem dX5_readToken_45 : decode cX5_readToken 45 = .ok (.aload_n 0, 1) := by decide +kernel
theorem dX5_readToken_46 : decode cX5_readToken 46 = .ok (.getfield 51, 3) := by decide +kernel
theorem dX5_readToken_49 : decode cX5_readToken 49 = .ok (.aload_n 0, 1) := by decide +kernel
theorem dX5_readToken_50 : decode cX5_readToken 50 = .ok (.getfield 55, 3) := by decide +kernel
theorem dX5_readToken_53 : decode cX5_readToken 53 = .ok (.iastore, 1) := by decide +kernel
theorem dX5_readToken_54 : decode cX5_readToken 54 = .ok (.aload_n 0, 1) := by decide +kernel
theorem dX5_readToken_55 : decode cX5_readToken 55 = .ok (.getfield 15, 3) := by decide +kernel
theorem dX5_readToken_58 : decode cX5_readToken 58 = .ok (.aload_n 0, 1) := by decide +kernel
theorem dX5_readToken_59 : decode cX5_readToken 59 = .ok (.getfield 51, 3) := by decide +kernel
theorem dX5_readToken_62 : decode cX5_readToken 62 = .ok (.aload_n 0, 1) := by decide +kernel
theorem dX5_readToken_63 : decode cX5_readToken 63 = .ok (.getfield 58, 3) := by decide +kernel
theorem dX5_readToken_66 : decode cX5_readToken 66 = .ok (.iconst 1, 1) := by decide +kernel
theorem dX5_readToken_67 : decode cX5_readToken 67 = .ok (.isub, 1) := by decide +kernel
theorem dX5_readToken_68 : decode cX5_readToken 68 = .ok (.iastore, 1) := by decide +kernel
theorem dX5_readToken_69 : decode cX5_readToken 69 = .ok (.aload_n 0, 1) := by decide +kernel
theorem dX5_readToken_70 : decode cX5_readToken 70 = .ok (.dup, 1) := by decide +kernel
theorem dX5_readToken_71 : decode cX5_readToken 71 = .ok (.getfield 51, 3) := by decide +kernel
theorem dX5_readToken_74 : decode cX5_readToken 74 = .ok (.iconst 1, 1) := by decide +kernel
theorem dX5_readToken_75 : decode cX5_readToken 75 = .ok (.iadd, 1) := by decide +kernel
theorem dX5_readToken_76 : decode cX5_readToken 76 = .ok (.putfield 51, 3) := by decide +kernel
theorem dX5_readToken_79 : decode cX5_readToken 79 = .ok (.iconst 0, 1) := by decide +kernel
theorem dX5_readToken_80 : decode cX5_readToken 80 = .ok (.istore_n 2, 1) := by decide +kernel
theorem dX5_readToken_81 : decode cX5_readToken 81 = .ok (.iload_n 2, 1) := by decide +kernel
theorem dX5_readToken_82 : decode cX5_readToken 82 = .ok (.bipush 24, 2) := by decide +kernel
theorem dX5_readToken_84 : decode cX5_readToken 84 = .ok (.if_icmp .gt 88, 3) := by decide +kernel
theorem dX5_readToken_87 : decode cX5_readToken 87 = .ok (.aload_n 1, 1) := by decide +kernel
theorem dX5_readToken_88 : decode cX5_readToken 88 = .ok (.iconst 0, 1) := by decide +kernel
theorem dX5_readToken_89 : decode cX5_readToken 89 = .ok (.invokevirtual 75, 3) := by decide +kernel
theorem dX5_readToken_92 : decode cX5_readToken 92 = .ok (.istore_n 3, 1) := by decide +kernel
theorem dX5_readToken_93 : decode cX5_readToken 93 = .ok (.iload_n 3, 1) := by decide +kernel
theorem dX5_readToken_94 : decode cX5_readToken 94 = .ok (.iconst (-1), 1) := by decide +kernel
theorem dX5_readToken_95 : decode cX5_readToken 95 = .ok (.if_icmp .eq 11, 3) := by decide +kernel
theorem dX5_readToken_98 : decode cX5_readToken 98 = .ok (.aload_n 0, 1) := by decide +kernel
theorem dX5_readToken_99 : decode cX5_readToken 99 = .ok (.iload_n 3, 1) := by decide +kernel
theorem dX5_readToken_100 : decode cX5_readToken 100 = .ok (.invokevirtual 79, 3) := by decide +kernel
theorem dX5_readToken_103 : decode cX5_readToken 103 = .ok (.ifCond .eq 18, 3) := by decide +kernel
theorem dX5_readToken_106 : decode cX5_readToken 106 = .ok (.aload_n 0, 1) := by decide +kernel
theorem dX5_readToken_107 : decode cX5_readToken 107 = .ok (.getfield 9, 3) := by decide +kernel
theorem dX5_readToken_110 : decode cX5_readToken 110 = .ok (.aload_n 0, 1) := by decide +kernel
theorem dX5_readToken_111 : decode cX5_readToken 111 = .ok (.getfield 51, 3) := by decide +kernel
theorem dX5_readToken_114 : decode cX5_readToken 114 = .ok (.aload_n 0, 1) := by decide +kernel
theorem dX5_readToken_115 : decode cX5_readToken 115 = .ok (.getfield 55, 3) := by decide +kernel
theorem dX5_readToken_118 : decode cX5_readToken 118 = .ok (.iastore, 1) := by decide +kernel
theorem dX5_readToken_119 : decode cX5_readToken 119 = .ok (.iconst 1, 1) := by decide +kernel
theorem dX5_readToken_120 : decode cX5_readToken 120 = .ok (.ireturn, 1) := by decide +kernel
theorem dX5_readToken_121 : decode cX5_readToken 121 = .ok (.aload_n 0, 1) := by decide +kernel
theorem dX5_readToken_122 : decode cX5_readToken 122 = .ok (.iload_n 3, 1) := by decide +kernel
theorem dX5_readToken_123 : decode cX5_readToken 123 = .ok (.invokevirtual 86, 3) := by decide +kernel
theorem dX5_readToken_126 : decode cX5_readToken 126 = .ok (.ifCond .ne 13, 3) := by decide +kernel
theorem dX5_readToken_129 : decode cX5_readToken 129 = .ok (.aload_n 1, 1) := by decide +kernel
theorem dX5_readToken_130 : decode cX5_readToken 130 = .ok (.iconst 1, 1) := by decide +kernel
theorem dX5_readToken_131 : decode cX5_readToken 131 = .ok (.aload_n 1, 1) := by decide +kernel
theorem dX5_readToken_132 : decode cX5_readToken 132 = .ok (.getfield 83, 3) := by decide +kernel
theorem dX5_readToken_135 : decode cX5_readToken 135 = .ok (.invokevirtual 89, 3) := by decide +kernel
theorem dX5_readToken_138 : decode cX5_readToken 138 = .ok (.ireturn, 1) := by decide +kernel
theorem dX5_readToken_139 : decode cX5_readToken 139 = .ok (.iload_n 2, 1) := by decide +kernel
theorem dX5_readToken_140 : decode cX5_readToken 140 = .ok (.bipush 24, 2) := by decide +kernel
theorem dX5_readToken_142 : decode cX5_readToken 142 = .ok (.if_icmp .ne 13, 3) := by decide +kernel
theorem dX5_readToken_145 : decode cX5_readToken 145 = .ok (.aload_n 1, 1) := by decide +kernel
theorem dX5_readToken_146 : decode cX5_readToken 146 = .ok (.iconst 3, 1) := by decide +kernel
theorem dX5_readToken_147 : decode cX5_readToken 147 = .ok (.aload_n 1, 1) := by decide +kernel
theorem dX5_readToken_148 : decode cX5_readToken 148 = .ok (.getfield 83, 3) := by decide +kernel
theorem dX5_readToken_151 : decode cX5_readToken 151 = .ok (.invokevirtual 89, 3) := by decide +kernel
theorem dX5_readToken_154 : decode cX5_readToken 154 = .ok (.ireturn, 1) := by decide +kernel
theorem dX5_readToken_155 : decode cX5_readToken 155 = .ok (.aload_n 0, 1) := by decide +kernel
theorem dX5_readToken_156 : decode cX5_readToken 156 = .ok (.aload_n 1, 1) := by decide +kernel
theorem dX5_readToken_157 : decode cX5_readToken 157 = .ok (.iload_n 3, 1) := by decide +kernel
theorem dX5_readToken_158 : decode cX5_readToken 158 = .ok (.invokevirtual 93, 3) := by decide +kernel
theorem dX5_readToken_161 : decode cX5_readToken 161 = .ok (.ifCond .ne 5, 3) := by decide +kernel
theorem dX5_readToken_164 : decode cX5_readToken 164 = .ok (.iconst 0, 1) := by decide +kernel
theorem dX5_readToken_165 : decode cX5_readToken 165 = .ok (.ireturn, 1) := by decide +kernel
theorem dX5_readToken_166 : decode cX5_readToken 166 = .ok (.iinc 2 1, 3) := by decide +kernel
theorem dX5_readToken_169 : decode cX5_readToken 169 = .ok (.goto (-88), 3) := by decide +kernel
theorem dX5_readToken_172 : decode cX5_readToken 172 = .ok (.iconst 0, 1) := by decide +kernel
theorem dX5_readToken_173 : decode cX5_readToken 173 = .ok (.ireturn, 1) := by decide +kernel
theorem dX5_beginsCell_0 : decode cX5_beginsCell 0 = .ok (.iload_n 1, 1) := by decide +kernel
theorem dX5_beginsCell_1 : decode cX5_beginsCell 1 = .ok (.invokestatic 97, 3) := by decide +kernel
theorem dX5_beginsCell_4 : decode cX5_beginsCell 4 = .ok (.ifCond .ne 15, 3) := by decide +kernel
theorem dX5_beginsCell_7 : decode cX5_beginsCell 7 = .ok (.iload_n 1, 1) := by decide +kernel
theorem dX5_beginsCell_8 : decode cX5_beginsCell 8 = .ok (.bipush 63, 2) := by decide +kernel
theorem dX5_beginsCell_10 : decode cX5_beginsCell 10 = .ok (.if_icmp .eq 9, 3) := by decide +kernel
theorem dX5_beginsCell_13 : decode cX5_beginsCell 13 = .ok (.iload_n 1, 1) := by decide +kernel
theorem dX5_beginsCell_14 : decode cX5_beginsCell 14 = .ok (.bipush 45, 2) := by decide +kernel
theorem dX5_beginsCell_16 : decode cX5_beginsCell 16 = .ok (.if_icmp .ne 7, 3) := by decide +kernel
theorem dX5_beginsCell_19 : decode cX5_beginsCell 19 = .ok (.iconst 1, 1) := by decide +kernel
theorem dX5_beginsCell_20 : decode cX5_beginsCell 20 = .ok (.goto 4, 3) := by decide +kernel
theorem dX5_beginsCell_23 : decode cX5_beginsCell 23 = .ok (.iconst 0, 1) := by decide +kernel
theorem dX5_beginsCell_24 : decode cX5_beginsCell 24 = .ok (.ireturn, 1) := by decide +kernel
theorem dX5_readCell_0 : decode cX5_readCell 0 = .ok (.aload_n 0, 1) := by decide +kernel
theorem dX5_readCell_1 : decode cX5_readCell 1 = .ok (.getfield 55, 3) := by decide +kernel
theorem dX5_readCell_4 : decode cX5_readCell 4 = .ok (.istore_n 3, 1) := by decide +kernel
theorem dX5_readCell_5 : decode cX5_readCell 5 = .ok (.iload_n 3, 1) := by decide +kernel
theorem dX5_readCell_6 : decode cX5_readCell 6 = .ok (.sipush 400, 3) := by decide +kernel
theorem dX5_readCell_9 : decode cX5_readCell 9 = .ok (.if_icmp .lt 5, 3) := by decide +kernel
theorem dX5_readCell_12 : decode cX5_readCell 12 = .ok (.iconst 0, 1) := by decide +kernel
theorem dX5_readCell_13 : decode cX5_readCell 13 = .ok (.ireturn, 1) := by decide +kernel
theorem dX5_readCell_14 : decode cX5_readCell 14 = .ok (.aload_n 0, 1) := by decide +kernel
theorem dX5_readCell_15 : decode cX5_readCell 15 = .ok (.dup, 1) := by decide +kernel
theorem dX5_readCell_16 : decode cX5_readCell 16 = .ok (.getfield 55, 3) := by decide +kernel
theorem dX5_readCell_19 : decode cX5_readCell 19 = .ok (.iconst 1, 1) := by decide +kernel
theorem dX5_readCell_20 : decode cX5_readCell 20 = .ok (.iadd, 1) := by decide +kernel
theorem dX5_readCell_21 : decode cX5_readCell 21 = .ok (.putfield 55, 3) := by decide +kernel
theorem dX5_readCell_24 : decode cX5_readCell 24 = .ok (.aload_n 1, 1) := by decide +kernel
theorem dX5_readCell_25 : decode cX5_readCell 25 = .ok (.dup, 1) := by decide +kernel
theorem dX5_readCell_26 : decode cX5_readCell 26 = .ok (.getfield 83, 3) := by decide +kernel
theorem dX5_readCell_29 : decode cX5_readCell 29 = .ok (.iconst 1, 1) := by decide +kernel
theorem dX5_readCell_30 : decode cX5_readCell 30 = .ok (.iadd, 1) := by decide +kernel
theorem dX5_readCell_31 : decode cX5_readCell 31 = .ok (.putfield 83, 3) := by decide +kernel
theorem dX5_readCell_34 : decode cX5_readCell 34 = .ok (.aload_n 0, 1) := by decide +kernel
theorem dX5_readCell_35 : decode cX5_readCell 35 = .ok (.getfield 25, 3) := by decide +kernel
theorem dX5_readCell_38 : decode cX5_readCell 38 = .ok (.iload_n 3, 1) := by decide +kernel
theorem dX5_readCell_39 : decode cX5_readCell 39 = .ok (.iload_n 2, 1) := by decide +kernel
theorem dX5_readCell_40 : decode cX5_readCell 40 = .ok (.iastore, 1) := by decide +kernel
theorem dX5_readCell_41 : decode cX5_readCell 41 = .ok (.aload_n 0, 1) := by decide +kernel
theorem dX5_readCell_42 : decode cX5_readCell 42 = .ok (.getfield 28, 3) := by decide +kernel
theorem dX5_readCell_45 : decode cX5_readCell 45 = .ok (.iload_n 3, 1) := by decide +kernel
theorem dX5_readCell_46 : decode cX5_readCell 46 = .ok (.iconst 0, 1) := by decide +kernel
theorem dX5_readCell_47 : decode cX5_readCell 47 = .ok (.iastore, 1) := by decide +kernel
theorem dX5_readCell_48 : decode cX5_readCell 48 = .ok (.iload_n 2, 1) := by decide +kernel
theorem dX5_readCell_49 : decode cX5_readCell 49 = .ok (.bipush 45, 2) := by decide +kernel
theorem dX5_readCell_51 : decode cX5_readCell 51 = .ok (.if_icmp .ne 39, 3) := by decide +kernel
theorem dX5_readCell_54 : decode cX5_readCell 54 = .ok (.aload_n 0, 1) := by decide +kernel
theorem dX5_readCell_55 : decode cX5_readCell 55 = .ok (.aload_n 1, 1) := by decide +kernel
theorem dX5_readCell_56 : decode cX5_readCell 56 = .ok (.invokevirtual 100, 3) := by decide +kernel
theorem dX5_readCell_59 : decode cX5_readCell 59 = .ok (.ifCond .eq 31, 3) := by decide +kernel
theorem dX5_readCell_62 : decode cX5_readCell 62 = .ok (.aload_n 0, 1) := by decide +kernel
theorem dX5_readCell_63 : decode cX5_readCell 63 = .ok (.getfield 25, 3) := by decide +kernel
theorem dX5_readCell_66 : decode cX5_readCell 66 = .ok (.iload_n 3, 1) := by decide +kernel
theorem dX5_readCell_67 : decode cX5_readCell 67 = .ok (.bipush 10, 2) := by decide +kernel
theorem dX5_readCell_69 : decode cX5_readCell 69 = .ok (.iastore, 1) := by decide +kernel
theorem dX5_readCell_70 : decode cX5_readCell 70 = .ok (.aload_n 0, 1) := by decide +kernel
theorem dX5_readCell_71 : decode cX5_readCell 71 = .ok (.dup, 1) := by decide +kernel
theorem dX5_readCell_72 : decode cX5_readCell 72 = .ok (.getfield 58, 3) := by decide +kernel
theorem dX5_readCell_75 : decode cX5_readCell 75 = .ok (.iconst 1, 1) := by decide +kernel
theorem dX5_readCell_76 : decode cX5_readCell 76 = .ok (.iadd, 1) := by decide +kernel
theorem dX5_readCell_77 : decode cX5_readCell 77 = .ok (.putfield 58, 3) := by decide +kernel
theorem dX5_readCell_80 : decode cX5_readCell 80 = .ok (.aload_n 1, 1) := by decide +kernel
theorem dX5_readCell_81 : decode cX5_readCell 81 = .ok (.dup, 1) := by decide +kernel
theorem dX5_readCell_82 : decode cX5_readCell 82 = .ok (.getfield 83, 3) := by decide +kernel
theorem dX5_readCell_85 : decode cX5_readCell 85 = .ok (.iconst 1, 1) := by decide +kernel
theorem dX5_readCell_86 : decode cX5_readCell 86 = .ok (.iadd, 1) := by decide +kernel
theorem dX5_readCell_87 : decode cX5_readCell 87 = .ok (.putfield 83, 3) := by decide +kernel
theorem dX5_readCell_90 : decode cX5_readCell 90 = .ok (.iload_n 2, 1) := by decide +kernel
theorem dX5_readCell_91 : decode cX5_readCell 91 = .ok (.invokestatic 97, 3) := by decide +kernel
theorem dX5_readCell_94 : decode cX5_readCell 94 = .ok (.ifCond .eq 22, 3) := by decide +kernel
theorem dX5_readCell_97 : decode cX5_readCell 97 = .ok (.aload_n 1, 1) := by decide +kernel
theorem dX5_readCell_98 : decode cX5_readCell 98 = .ok (.iconst 0, 1) := by decide +kernel
theorem dX5_readCell_99 : decode cX5_readCell 99 = .ok (.invokevirtual 75, 3) := by decide +kernel
theorem dX5_readCell_102 : decode cX5_readCell 102 = .ok (.bipush 91, 2) := by decide +kernel
theorem dX5_readCell_104 : decode cX5_readCell 104 = .ok (.if_icmp .ne 12, 3) := by decide +kernel
theorem dX5_readCell_107 : decode cX5_readCell 107 = .ok (.aload_n 0, 1) := by decide +kernel
theorem dX5_readCell_108 : decode cX5_readCell 108 = .ok (.aload_n 1, 1) := by decide +kernel
theorem dX5_readCell_109 : decode cX5_readCell 109 = .ok (.iload_n 3, 1) := by decide +kernel
theorem dX5_readCell_110 : decode cX5_readCell 110 = .ok (.invokevirtual 103, 3) := by decide +kernel
theorem dX5_readCell_113 : decode cX5_readCell 113 = .ok (.ifCond .eq 7, 3) := by decide +kernel
theorem dX5_readCell_116 : decode cX5_readCell 116 = .ok (.iconst 1, 1) := by decide +kernel
theorem dX5_readCell_117 : decode cX5_readCell 117 = .ok (.goto 4, 3) := by decide +kernel
theorem dX5_readCell_120 : decode cX5_readCell 120 = .ok (.iconst 0, 1) := by decide +kernel
theorem dX5_readCell_121 : decode cX5_readCell 121 = .ok (.ireturn, 1) := by decide +kernel
theorem dX5_isBreak_0 : decode cX5_isBreak 0 = .ok (.aload_n 1, 1) := by decide +kernel
theorem dX5_isBreak_1 : decode cX5_isBreak 1 = .ok (.iconst 0, 1) := by decide +kernel
theorem dX5_isBreak_2 : decode cX5_isBreak 2 = .ok (.invokevirtual 75, 3) := by decide +kernel
theorem dX5_isBreak_5 : decode cX5_isBreak 5 = .ok (.bipush 10, 2) := by decide +kernel
theorem dX5_isBreak_7 : decode cX5_isBreak 7 = .ok (.if_icmp .ne 28, 3) := by decide +kernel
theorem dX5_isBreak_10 : decode cX5_isBreak 10 = .ok (.aload_n 1, 1) := by decide +kernel
theorem dX5_isBreak_11 : decode cX5_isBreak 11 = .ok (.iconst 1, 1) := by decide +kernel
theorem dX5_isBreak_12 : decode cX5_isBreak 12 = .ok (.invokevirtual 75, 3) := by decide +kernel
theorem dX5_isBreak_15 : decode cX5_isBreak 15 = .ok (.invokestatic 97, 3) := by decide +kernel
theorem dX5_isBreak_18 : decode cX5_isBreak 18 = .ok (.ifCond .ne 13, 3) := by decide +kernel
theorem dX5_isBreak_21 : decode cX5_isBreak 21 = .ok (.aload_n 1, 1) := by decide +kernel
theorem dX5_isBreak_22 : decode cX5_isBreak 22 = .ok (.iconst 1, 1) := by decide +kernel
theorem dX5_isBreak_23 : decode cX5_isBreak 23 = .ok (.invokevirtual 75, 3) := by decide +kernel
theorem dX5_isBreak_26 : decode cX5_isBreak 26 = .ok (.bipush 63, 2) := by decide +kernel
theorem dX5_isBreak_28 : decode cX5_isBreak 28 = .ok (.if_icmp .ne 7, 3) := by decide +kernel
theorem dX5_isBreak_31 : decode cX5_isBreak 31 = .ok (.iconst 1, 1) := by decide +kernel
theorem dX5_isBreak_32 : decode cX5_isBreak 32 = .ok (.goto 4, 3) := by decide +kernel
theorem dX5_isBreak_35 : decode cX5_isBreak 35 = .ok (.iconst 0, 1) := by decide +kernel
theorem dX5_isBreak_36 : decode cX5_isBreak 36 = .ok (.ireturn, 1) := by decide +kernel
theorem dX5_readOthers_0 : decode cX5_readOthers 0 = .ok (.aload_n 1, 1) := by decide +kernel
theorem dX5_readOthers_1 : decode cX5_readOthers 1 = .ok (.dup, 1) := by decide +kernel
theorem dX5_readOthers_2 : decode cX5_readOthers 2 = .ok (.getfield 83, 3) := by decide +kernel
theorem dX5_readOthers_5 : decode cX5_readOthers 5 = .ok (.iconst 1, 1) := by decide +kernel
theorem dX5_readOthers_6 : decode cX5_readOthers 6 = .ok (.iadd, 1) := by decide +kernel
theorem dX5_readOthers_7 : decode cX5_readOthers 7 = .ok (.putfield 83, 3) := by decide +kernel
theorem dX5_readOthers_10 : decode cX5_readOthers 10 = .ok (.aload_n 1, 1) := by decide +kernel
theorem dX5_readOthers_11 : decode cX5_readOthers 11 = .ok (.iconst 0, 1) := by decide +kernel
theorem dX5_readOthers_12 : decode cX5_readOthers 12 = .ok (.invokevirtual 75, 3) := by decide +kernel
theorem dX5_readOthers_15 : decode cX5_readOthers 15 = .ok (.bipush 93, 2) := by decide +kernel
theorem dX5_readOthers_17 : decode cX5_readOthers 17 = .ok (.if_icmp .ne 15, 3) := by decide +kernel
theorem dX5_readOthers_20 : decode cX5_readOthers 20 = .ok (.aload_n 1, 1) := by decide +kernel
theorem dX5_readOthers_21 : decode cX5_readOthers 21 = .ok (.dup, 1) := by decide +kernel
theorem dX5_readOthers_22 : decode cX5_readOthers 22 = .ok (.getfield 83, 3) := by decide +kernel
theorem dX5_readOthers_25 : decode cX5_readOthers 25 = .ok (.iconst 1, 1) := by decide +kernel
theorem dX5_readOthers_26 : decode cX5_readOthers 26 = .ok (.iadd, 1) := by decide +kernel
theorem dX5_readOthers_27 : decode cX5_readOthers 27 = .ok (.putfield 83, 3) := by decide +kernel
theorem dX5_readOthers_30 : decode cX5_readOthers 30 = .ok (.iconst 1, 1) := by decide +kernel
theorem dX5_readOthers_31 : decode cX5_readOthers 31 = .ok (.ireturn, 1) := by decide +kernel
theorem dX5_readOthers_32 : decode cX5_readOthers 32 = .ok (.iconst 0, 1) := by decide +kernel
theorem dX5_readOthers_33 : decode cX5_readOthers 33 = .ok (.istore_n 3, 1) := by decide +kernel
theorem dX5_readOthers_34 : decode cX5_readOthers 34 = .ok (.iload_n 3, 1) := by decide +kernel
theorem dX5_readOthers_35 : decode cX5_readOthers 35 = .ok (.iconst 3, 1) := by decide +kernel
theorem dX5_readOthers_36 : decode cX5_readOthers 36 = .ok (.if_icmp .gt 153, 3) := by decide +kernel
theorem dX5_readOthers_39 : decode cX5_readOthers 39 = .ok (.aload_n 1, 1) := by decide +kernel
theorem dX5_readOthers_40 : decode cX5_readOthers 40 = .ok (.iconst 0, 1) := by decide +kernel
theorem dX5_readOthers_41 : decode cX5_readOthers 41 = .ok (.invokevirtual 75, 3) := by decide +kernel
theorem dX5_readOthers_44 : decode cX5_readOthers 44 = .ok (.istore 4, 2) := by decide +kernel
theorem dX5_readOthers_46 : decode cX5_readOthers 46 = .ok (.iload 4, 2) := by decide +kernel
theorem dX5_readOthers_48 : decode cX5_readOthers 48 = .ok (.invokestatic 97, 3) := by decide +kernel
theorem dX5_readOthers_51 : decode cX5_readOthers 51 = .ok (.ifCond .ne 13, 3) := by decide +kernel
theorem dX5_readOthers_54 : decode cX5_readOthers 54 = .ok (.aload_n 1, 1) := by decide +kernel
theorem dX5_readOthers_55 : decode cX5_readOthers 55 = .ok (.iconst 1, 1) := by decide +kernel
theorem dX5_readOthers_56 : decode cX5_readOthers 56 = .ok (.aload_n 1, 1) := by decide +kernel
theorem dX5_readOthers_57 : decode cX5_readOthers 57 = .ok (.getfield 83, 3) := by decide +kernel
theorem dX5_readOthers_60 : decode cX5_readOthers 60 = .ok (.invokevirtual 89, 3) := by decide +kernel
theorem dX5_readOthers_63 : decode cX5_readOthers 63 = .ok (.ireturn, 1) := by decide +kernel
theorem dX5_readOthers_64 : decode cX5_readOthers 64 = .ok (.iload_n 3, 1) := by decide +kernel
theorem dX5_readOthers_65 : decode cX5_readOthers 65 = .ok (.iconst 3, 1) := by decide +kernel
theorem dX5_readOthers_66 : decode cX5_readOthers 66 = .ok (.if_icmp .ne 13, 3) := by decide +kernel
theorem dX5_readOthers_69 : decode cX5_readOthers 69 = .ok (.aload_n 1, 1) := by decide +kernel
theorem dX5_readOthers_70 : decode cX5_readOthers 70 = .ok (.iconst 3, 1) := by decide +kernel
theorem dX5_readOthers_71 : decode cX5_readOthers 71 = .ok (.aload_n 1, 1) := by decide +kernel
theorem dX5_readOthers_72 : decode cX5_readOthers 72 = .ok (.getfield 83, 3) := by decide +kernel
theorem dX5_readOthers_75 : decode cX5_readOthers 75 = .ok (.invokevirtual 89, 3) := by decide +kernel
theorem dX5_readOthers_78 : decode cX5_readOthers 78 = .ok (.ireturn, 1) := by decide +kernel
theorem dX5_readOthers_79 : decode cX5_readOthers 79 = .ok (.aload_n 1, 1) := by decide +kernel
theorem dX5_readOthers_80 : decode cX5_readOthers 80 = .ok (.dup, 1) := by decide +kernel
theorem dX5_readOthers_81 : decode cX5_readOthers 81 = .ok (.getfield 83, 3) := by decide +kernel
theorem dX5_readOthers_84 : decode cX5_readOthers 84 = .ok (.iconst 1, 1) := by decide +kernel
theorem dX5_readOthers_85 : decode cX5_readOthers 85 = .ok (.iadd, 1) := by decide +kernel
theorem dX5_readOthers_86 : decode cX5_readOthers 86 = .ok (.putfield 83, 3) := by decide +kernel
theorem dX5_readOthers_89 : decode cX5_readOthers 89 = .ok (.aload_n 1, 1) := by decide +kernel
theorem dX5_readOthers_90 : decode cX5_readOthers 90 = .ok (.iconst 1, 1) := by decide +kernel
theorem dX5_readOthers_91 : decode cX5_readOthers 91 = .ok (.invokevirtual 106, 3) := by decide +kernel
theorem dX5_readOthers_94 : decode cX5_readOthers 94 = .ok (.istore 5, 2) := by decide +kernel
theorem dX5_readOthers_96 : decode cX5_readOthers 96 = .ok (.iload 5, 2) := by decide +kernel
theorem dX5_readOthers_98 : decode cX5_readOthers 98 = .ok (.iconst (-1), 1) := by decide +kernel
theorem dX5_readOthers_99 : decode cX5_readOthers 99 = .ok (.if_icmp .ne 5, 3) := by decide +kernel
theorem dX5_readOthers_102 : decode cX5_readOthers 102 = .ok (.iconst 0, 1) := by decide +kernel
theorem dX5_readOthers_103 : decode cX5_readOthers 103 = .ok (.ireturn, 1) := by decide +kernel
theorem dX5_readOthers_104 : decode cX5_readOthers 104 = .ok (.aload_n 0, 1) := by decide +kernel
theorem dX5_readOthers_105 : decode cX5_readOthers 105 = .ok (.getfield 31, 3) := by decide +kernel
theorem dX5_readOthers_108 : decode cX5_readOthers 108 = .ok (.iload_n 2, 1) := by decide +kernel
theorem dX5_readOthers_109 : decode cX5_readOthers 109 = .ok (.iconst 3, 1) := by decide +kernel
theorem dX5_readOthers_110 : decode cX5_readOthers 110 = .ok (.imul, 1) := by decide +kernel
theorem dX5_readOthers_111 : decode cX5_readOthers 111 = .ok (.iload_n 3, 1) := by decide +kernel
theorem dX5_readOthers_112 : decode cX5_readOthers 112 = .ok (.iadd, 1) := by decide +kernel
theorem dX5_readOthers_113 : decode cX5_readOthers 113 = .ok (.iload 4, 2) := by decide +kernel
theorem dX5_readOthers_115 : decode cX5_readOthers 115 = .ok (.iastore, 1) := by decide +kernel
theorem dX5_readOthers_116 : decode cX5_readOthers 116 = .ok (.aload_n 0, 1) := by decide +kernel
theorem dX5_readOthers_117 : decode cX5_readOthers 117 = .ok (.getfield 34, 3) := by decide +kernel
theorem dX5_readOthers_120 : decode cX5_readOthers 120 = .ok (.iload_n 2, 1) := by decide +kernel
theorem dX5_readOthers_121 : decode cX5_readOthers 121 = .ok (.iconst 3, 1) := by decide +kernel
theorem dX5_readOthers_122 : decode cX5_readOthers 122 = .ok (.imul, 1) := by decide +kernel
theorem dX5_readOthers_123 : decode cX5_readOthers 123 = .ok (.iload_n 3, 1) := by decide +kernel
theorem dX5_readOthers_124 : decode cX5_readOthers 124 = .ok (.iadd, 1) := by decide +kernel
theorem dX5_readOthers_125 : decode cX5_readOthers 125 = .ok (.iload 5, 2) := by decide +kernel
theorem dX5_readOthers_127 : decode cX5_readOthers 127 = .ok (.iastore, 1) := by decide +kernel
theorem dX5_readOthers_128 : decode cX5_readOthers 128 = .ok (.aload_n 0, 1) := by decide +kernel
theorem dX5_readOthers_129 : decode cX5_readOthers 129 = .ok (.getfield 28, 3) := by decide +kernel
theorem dX5_readOthers_132 : decode cX5_readOthers 132 = .ok (.iload_n 2, 1) := by decide +kernel
theorem dX5_readOthers_133 : decode cX5_readOthers 133 = .ok (.iload_n 3, 1) := by decide +kernel
theorem dX5_readOthers_134 : decode cX5_readOthers 134 = .ok (.iconst 1, 1) := by decide +kernel
theorem dX5_readOthers_135 : decode cX5_readOthers 135 = .ok (.iadd, 1) := by decide +kernel
theorem dX5_readOthers_136 : decode cX5_readOthers 136 = .ok (.iastore, 1) := by decide +kernel
theorem dX5_readOthers_137 : decode cX5_readOthers 137 = .ok (.aload_n 1, 1) := by decide +kernel
theorem dX5_readOthers_138 : decode cX5_readOthers 138 = .ok (.iconst 0, 1) := by decide +kernel
theorem dX5_readOthers_139 : decode cX5_readOthers 139 = .ok (.invokevirtual 75, 3) := by decide +kernel
theorem dX5_readOthers_142 : decode cX5_readOthers 142 = .ok (.bipush 93, 2) := by decide +kernel
theorem dX5_readOthers_144 : decode cX5_readOthers 144 = .ok (.if_icmp .ne 15, 3) := by decide +kernel
theorem dX5_readOthers_147 : decode cX5_readOthers 147 = .ok (.aload_n 1, 1) := by decide +kernel
theorem dX5_readOthers_148 : decode cX5_readOthers 148 = .ok (.dup, 1) := by decide +kernel
theorem dX5_readOthers_149 : decode cX5_readOthers 149 = .ok (.getfield 83, 3) := by decide +kernel
theorem dX5_readOthers_152 : decode cX5_readOthers 152 = .ok (.iconst 1, 1) := by decide +kernel
theorem dX5_readOthers_153 : decode cX5_readOthers 153 = .ok (.iadd, 1) := by decide +kernel
theorem dX5_readOthers_154 : decode cX5_readOthers 154 = .ok (.putfield 83, 3) := by decide +kernel
theorem dX5_readOthers_157 : decode cX5_readOthers 157 = .ok (.iconst 1, 1) := by decide +kernel
theorem dX5_readOthers_158 : decode cX5_readOthers 158 = .ok (.ireturn, 1) := by decide +kernel
theorem dX5_readOthers_159 : decode cX5_readOthers 159 = .ok (.aload_n 1, 1) := by decide +kernel
theorem dX5_readOthers_160 : decode cX5_readOthers 160 = .ok (.iconst 0, 1) := by decide +kernel
theorem dX5_readOthers_161 : decode cX5_readOthers 161 = .ok (.invokevirtual 75, 3) := by decide +kernel
theorem dX5_readOthers_164 : decode cX5_readOthers 164 = .ok (.bipush 32, 2) := by decide +kernel
theorem dX5_readOthers_166 : decode cX5_readOthers 166 = .ok (.if_icmp .eq 13, 3) := by decide +kernel
theorem dX5_readOthers_169 : decode cX5_readOthers 169 = .ok (.aload_n 1, 1) := by decide +kernel
theorem dX5_readOthers_170 : decode cX5_readOthers 170 = .ok (.iconst 1, 1) := by decide +kernel
theorem dX5_readOthers_171 : decode cX5_readOthers 171 = .ok (.aload_n 1, 1) := by decide +kernel
theorem dX5_readOthers_172 : decode cX5_readOthers 172 = .ok (.getfield 83, 3) := by decide +kernel
theorem dX5_readOthers_175 : decode cX5_readOthers 175 = .ok (.invokevirtual 89, 3) := by decide +kernel
theorem dX5_readOthers_178 : decode cX5_readOthers 178 = .ok (.ireturn, 1) := by decide +kernel
theorem dX5_readOthers_179 : decode cX5_readOthers 179 = .ok (.aload_n 1, 1) := by decide +kernel
theorem dX5_readOthers_180 : decode cX5_readOthers 180 = .ok (.invokevirtual 109, 3) := by decide +kernel
theorem dX5_readOthers_183 : decode cX5_readOthers 183 = .ok (.iinc 3 1, 3) := by decide +kernel
theorem dX5_readOthers_186 : decode cX5_readOthers 186 = .ok (.goto (-152), 3) := by decide +kernel
theorem dX5_readOthers_189 : decode cX5_readOthers 189 = .ok (.iconst 0, 1) := by decide +kernel
theorem dX5_readOthers_190 : decode cX5_readOthers 190 = .ok (.ireturn, 1) := by decide +kernel
theorem dX6_init_0 : decode cX6_init 0 = .ok (.aload_n 0, 1) := by decide +kernel
theorem dX6_init_1 : decode cX6_init 1 = .ok (.invokespecial 5, 3) := by decide +kernel
theorem dX6_init_4 : decode cX6_init 4 = .ok (.aload_n 0, 1) := by decide +kernel
theorem dX6_init_5 : decode cX6_init 5 = .ok (.bipush 60, 2) := by decide +kernel
theorem dX6_init_7 : decode cX6_init 7 = .ok (.newarray .int, 2) := by decide +kernel
theorem dX6_init_9 : decode cX6_init 9 = .ok (.putfield 11, 3) := by decide +kernel
theorem dX6_init_12 : decode cX6_init 12 = .ok (.aload_n 0, 1) := by decide +kernel
theorem dX6_init_13 : decode cX6_init 13 = .ok (.bipush 60, 2) := by decide +kernel
theorem dX6_init_15 : decode cX6_init 15 = .ok (.newarray .int, 2) := by decide +kernel
theorem dX6_init_17 : decode cX6_init 17 = .ok (.putfield 15, 3) := by decide +kernel
theorem dX6_init_20 : decode cX6_init 20 = .ok (.aload_n 0, 1) := by decide +kernel
theorem dX6_init_21 : decode cX6_init 21 = .ok (.bipush 60, 2) := by decide +kernel
theorem dX6_init_23 : decode cX6_init 23 = .ok (.newarray .int, 2) := by decide +kernel
theorem dX6_init_25 : decode cX6_init 25 = .ok (.putfield 18, 3) := by decide +kernel
theorem dX6_init_28 : decode cX6_init 28 = .ok (.aload_n 0, 1) := by decide +kernel
theorem dX6_init_29 : decode cX6_init 29 = .ok (.sipush 18085, 3) := by decide +kernel
theorem dX6_init_32 : decode cX6_init 32 = .ok (.newarray .int, 2) := by decide +kernel
theorem dX6_init_34 : decode cX6_init 34 = .ok (.putfield 21, 3) := by decide +kernel
theorem dX6_init_37 : decode cX6_init 37 = .ok (.aload_n 0, 1) := by decide +kernel
theorem dX6_init_38 : decode cX6_init 38 = .ok (.sipush 18085, 3) := by decide +kernel
theorem dX6_init_41 : decode cX6_init 41 = .ok (.newarray .int, 2) := by decide +kernel
theorem dX6_init_43 : decode cX6_init 43 = .ok (.putfield 24, 3) := by decide +kernel
theorem dX6_init_46 : decode cX6_init 46 = .ok (.aload_n 0, 1) := by decide +kernel
theorem dX6_init_47 : decode cX6_init 47 = .ok (.sipush 18085, 3) := by decide +kernel
theorem dX6_init_50 : decode cX6_init 50 = .ok (.newarray .int, 2) := by decide +kernel
theorem dX6_init_52 : decode cX6_init 52 = .ok (.putfield 27, 3) := by decide +kernel
theorem dX6_init_55 : decode cX6_init 55 = .ok (.aload_n 0, 1) := by decide +kernel
theorem dX6_init_56 : decode cX6_init 56 = .ok (.aload_n 1, 1) := by decide +kernel
theorem dX6_init_57 : decode cX6_init 57 = .ok (.putfield 30, 3) := by decide +kernel
theorem dX6_init_60 : decode cX6_init 60 = .ok (.aload_n 0, 1) := by decide +kernel
theorem dX6_init_61 : decode cX6_init 61 = .ok (.aload_n 2, 1) := by decide +kernel
theorem dX6_init_62 : decode cX6_init 62 = .ok (.putfield 34, 3) := by decide +kernel
theorem dX6_init_65 : decode cX6_init 65 = .ok (.return_, 1) := by decide +kernel
theorem dX6_run_0 : decode cX6_run 0 = .ok (.aload_n 0, 1) := by decide +kernel
theorem dX6_run_1 : decode cX6_run 1 = .ok (.invokevirtual 38, 3) := by decide +kernel
theorem dX6_run_4 : decode cX6_run 4 = .ok (.aload_n 0, 1) := by decide +kernel
theorem dX6_run_5 : decode cX6_run 5 = .ok (.getfield 30, 3) := by decide +kernel
theorem dX6_run_8 : decode cX6_run 8 = .ok (.getfield 41, 3) := by decide +kernel
theorem dX6_run_11 : decode cX6_run 11 = .ok (.ifCond .ne 4, 3) := by decide +kernel
theorem dX6_run_14 : decode cX6_run 14 = .ok (.return_, 1) := by decide +kernel
theorem dX6_run_15 : decode cX6_run 15 = .ok (.aload_n 0, 1) := by decide +kernel
theorem dX6_run_16 : decode cX6_run 16 = .ok (.aload_n 0, 1) := by decide +kernel
theorem dX6_run_17 : decode cX6_run 17 = .ok (.iconst 0, 1) := by decide +kernel
theorem dX6_run_18 : decode cX6_run 18 = .ok (.iconst 0, 1) := by decide +kernel
theorem dX6_run_19 : decode cX6_run 19 = .ok (.invokevirtual 47, 3) := by decide +kernel
theorem dX6_run_22 : decode cX6_run 22 = .ok (.aload_n 0, 1) := by decide +kernel
theorem dX6_run_23 : decode cX6_run 23 = .ok (.getfield 34, 3) := by decide +kernel
theorem dX6_run_26 : decode cX6_run 26 = .ok (.getfield 51, 3) := by decide +kernel
theorem dX6_run_29 : decode cX6_run 29 = .ok (.iconst 0, 1) := by decide +kernel
theorem dX6_run_30 : decode cX6_run 30 = .ok (.iaload, 1) := by decide +kernel
theorem dX6_run_31 : decode cX6_run 31 = .ok (.aload_n 0, 1) := by decide +kernel
theorem dX6_run_32 : decode cX6_run 32 = .ok (.getfield 30, 3) := by decide +kernel
theorem dX6_run_35 : decode cX6_run 35 = .ok (.getfield 56, 3) := by decide +kernel
theorem dX6_run_38 : decode cX6_run 38 = .ok (.iconst 0, 1) := by decide +kernel
theorem dX6_run_39 : decode cX6_run 39 = .ok (.iaload, 1) := by decide +kernel
theorem dX6_run_40 : decode cX6_run 40 = .ok (.iadd, 1) := by decide +kernel
theorem dX6_run_41 : decode cX6_run 41 = .ok (.invokevirtual 59, 3) := by decide +kernel
theorem dX6_run_44 : decode cX6_run 44 = .ok (.iconst 0, 1) := by decide +kernel
theorem dX6_run_45 : decode cX6_run 45 = .ok (.istore_n 2, 1) := by decide +kernel
theorem dX6_run_46 : decode cX6_run 46 = .ok (.iload_n 2, 1) := by decide +kernel
theorem dX6_run_47 : decode cX6_run 47 = .ok (.sipush 18085, 3) := by decide +kernel
theorem dX6_run_50 : decode cX6_run 50 = .ok (.if_icmp .ge 66, 3) := by decide +kernel
theorem dX6_run_53 : decode cX6_run 53 = .ok (.aload_n 0, 1) := by decide +kernel
theorem dX6_run_54 : decode cX6_run 54 = .ok (.getfield 63, 3) := by decide +kernel
theorem dX6_run_57 : decode cX6_run 57 = .ok (.ifCond .le 59, 3) := by decide +kernel
theorem dX6_run_60 : decode cX6_run 60 = .ok (.aload_n 0, 1) := by decide +kernel
theorem dX6_run_61 : decode cX6_run 61 = .ok (.getfield 66, 3) := by decide +kernel
theorem dX6_run_64 : decode cX6_run 64 = .ok (.iload_n 1, 1) := by decide +kernel
theorem dX6_run_65 : decode cX6_run 65 = .ok (.if_icmp .ge 51, 3) := by decide +kernel
theorem dX6_run_68 : decode cX6_run 68 = .ok (.aload_n 0, 1) := by decide +kernel
theorem dX6_run_69 : decode cX6_run 69 = .ok (.invokevirtual 69, 3) := by decide +kernel
theorem dX6_run_72 : decode cX6_run 72 = .ok (.istore_n 3, 1) := by decide +kernel
theorem dX6_run_73 : decode cX6_run 73 = .ok (.iload_n 3, 1) := by decide +kernel
theorem dX6_run_74 : decode cX6_run 74 = .ok (.sipush 32767, 3) := by decide +kernel
theorem dX6_run_77 : decode cX6_run 77 = .ok (.iand, 1) := by decide +kernel
theorem dX6_run_78 : decode cX6_run 78 = .ok (.istore 4, 2) := by decide +kernel
theorem dX6_run_80 : decode cX6_run 80 = .ok (.iload 4, 2) := by decide +kernel
theorem dX6_run_82 : decode cX6_run 82 = .ok (.bipush 60, 2) := by decide +kernel
theorem dX6_run_84 : decode cX6_run 84 = .ok (.if_icmp .ge 16, 3) := by decide +kernel
theorem dX6_run_87 : decode cX6_run 87 = .ok (.aload_n 0, 1) := by decide +kernel
theorem dX6_run_88 : decode cX6_run 88 = .ok (.iload 4, 2) := by decide +kernel
theorem dX6_run_90 : decode cX6_run 90 = .ok (.iload_n 3, 1) := by decide +kernel
theorem dX6_run_91 : decode cX6_run 91 = .ok (.bipush 15, 2) := by decide +kernel
theorem dX6_run_93 : decode cX6_run 93 = .ok (.ishr, 1) := by decide +kernel
theorem dX6_run_94 : decode cX6_run 94 = .ok (.invokevirtual 73, 3) := by decide +kernel
theorem dX6_run_97 : decode cX6_run 97 = .ok (.goto 13, 3) := by decide +kernel
theorem dX6_run_100 : decode cX6_run 100 = .ok (.aload_n 0, 1) := by decide +kernel
theorem dX6_run_101 : decode cX6_run 101 = .ok (.iload 4, 2) := by decide +kernel
theorem dX6_run_103 : decode cX6_run 103 = .ok (.iload_n 3, 1) := by decide +kernel
theorem dX6_run_104 : decode cX6_run 104 = .ok (.bipush 15, 2) := by decide +kernel
theorem dX6_run_106 : decode cX6_run 106 = .ok (.ishr, 1) := by decide +kernel
theorem dX6_run_107 : decode cX6_run 107 = .ok (.invokevirtual 76, 3) := by decide +kernel
theorem dX6_run_110 : decode cX6_run 110 = .ok (.iinc 2 1, 3) := by decide +kernel
theorem dX6_run_113 : decode cX6_run 113 = .ok (.goto (-67), 3) := by decide +kernel
theorem dX6_run_116 : decode cX6_run 116 = .ok (.return_, 1) := by decide +kernel
theorem dX6_clear_0 : decode cX6_clear 0 = .ok (.iconst 0, 1) := by decide +kernel
theorem dX6_clear_1 : decode cX6_clear 1 = .ok (.istore_n 1, 1) := by decide +kernel
theorem dX6_clear_2 : decode cX6_clear 2 = .ok (.iload_n 1, 1) := by decide +kernel
theorem dX6_clear_3 : decode cX6_clear 3 = .ok (.aload_n 0, 1) := by decide +kernel
theorem dX6_clear_4 : decode cX6_clear 4 = .ok (.getfield 79, 3) := by decide +kernel
theorem dX6_clear_7 : decode cX6_clear 7 = .ok (.if_icmp .ge 21, 3) := by decide +kernel
theorem dX6_clear_10 : decode cX6_clear 10 = .ok (.aload_n 0, 1) := by decide +kernel
theorem dX6_clear_11 : decode cX6_clear 11 = .ok (.getfield 24, 3) := by decide +kernel
theorem dX6_clear_14 : decode cX6_clear 14 = .ok (.aload_n 0, 1) := by decide +kernel
theorem dX6_clear_15 : decode cX6_clear 15 = .ok (.getfield 27, 3) := by decide +kernel
theorem dX6_clear_18 : decode cX6_clear 18 = .ok (.iload_n 1, 1) := by decide +kernel
theorem dX6_clear_19 : decode cX6_clear 19 = .ok (.iaload, 1) := by decide +kernel
theorem dX6_clear_20 : decode cX6_clear 20 = .ok (.iconst 0, 1) := by decide +kernel
theorem dX6_clear_21 : decode cX6_clear 21 = .ok (.iastore, 1) := by decide +kernel
theorem dX6_clear_22 : decode cX6_clear 22 = .ok (.iinc 1 1, 3) := by decide +kernel
theorem dX6_clear_25 : decode cX6_clear 25 = .ok (.goto (-23), 3) := by decide +kernel
theorem dX6_clear_28 : decode cX6_clear 28 = .ok (.aload_n 0, 1) := by decide +kernel
theorem dX6_clear_29 : decode cX6_clear 29 = .ok (.iconst 0, 1) := by decide +kernel
theorem dX6_clear_30 : decode cX6_clear 30 = .ok (.putfield 79, 3) := by decide +kernel
theorem dX6_clear_33 : decode cX6_clear 33 = .ok (.aload_n 0, 1) := by decide +kernel
theorem dX6_clear_34 : decode cX6_clear 34 = .ok (.iconst 0, 1) := by decide +kernel
theorem dX6_clear_35 : decode cX6_clear 35 = .ok (.putfield 63, 3) := by decide +kernel
theorem dX6_clear_38 : decode cX6_clear 38 = .ok (.aload_n 0, 1) := by decide +kernel
theorem dX6_clear_39 : decode cX6_clear 39 = .ok (.iconst 0, 1) := by decide +kernel
theorem dX6_clear_40 : decode cX6_clear 40 = .ok (.putfield 66, 3) := by decide +kernel
theorem dX6_clear_43 : decode cX6_clear 43 = .ok (.aload_n 0, 1) := by decide +kernel
theorem dX6_clear_44 : decode cX6_clear 44 = .ok (.iconst 0, 1) := by decide +kernel
theorem dX6_clear_45 : decode cX6_clear 45 = .ok (.putfield 82, 3) := by decide +kernel
theorem dX6_clear_48 : decode cX6_clear 48 = .ok (.return_, 1) := by decide +kernel
theorem dX6_itemOf_0 : decode cX6_itemOf 0 = .ok (.bipush 60, 2) := by decide +kernel
theorem dX6_itemOf_2 : decode cX6_itemOf 2 = .ok (.bipush 24, 2) := by decide +kernel
theorem dX6_itemOf_4 : decode cX6_itemOf 4 = .ok (.iload_n 1, 1) := by decide +kernel
theorem dX6_itemOf_5 : decode cX6_itemOf 5 = .ok (.isub, 1) := by decide +kernel
theorem dX6_itemOf_6 : decode cX6_itemOf 6 = .ok (.sipush 721, 3) := by decide +kernel
theorem dX6_itemOf_9 : decode cX6_itemOf 9 = .ok (.imul, 1) := by decide +kernel
theorem dX6_itemOf_10 : decode cX6_itemOf 10 = .ok (.iadd, 1) := by decide +kernel
theorem dX6_itemOf_11 : decode cX6_itemOf 11 = .ok (.iload_n 2, 1) := by decide +kernel
theorem dX6_itemOf_12 : decode cX6_itemOf 12 = .ok (.iadd, 1) := by decide +kernel
theorem dX6_itemOf_13 : decode cX6_itemOf 13 = .ok (.ireturn, 1) := by decide +kernel
theorem dX6_note_0 : decode cX6_note 0 = .ok (.aload_n 0, 1) := by decide +kernel
theorem dX6_note_1 : decode cX6_note 1 = .ok (.getfield 66, 3) := by decide +kernel
theorem dX6_note_4 : decode cX6_note 4 = .ok (.bipush 60, 2) := by decide +kernel
theorem dX6_note_6 : decode cX6_note 6 = .ok (.if_icmp .ge 46, 3) := by decide +kernel
theorem dX6_note_9 : decode cX6_note 9 = .ok (.aload_n 0, 1) := by decide +kernel
theorem dX6_note_10 : decode cX6_note 10 = .ok (.getfield 11, 3) := by decide +kernel
theorem dX6_note_13 : decode cX6_note 13 = .ok (.aload_n 0, 1) := by decide +kernel
theorem dX6_note_14 : decode cX6_note 14 = .ok (.getfield 66, 3) := by decide +kernel
theorem dX6_note_17 : decode cX6_note 17 = .ok (.iload_n 1, 1) := by decide +kernel
theorem dX6_note_18 : decode cX6_note 18 = .ok (.iastore, 1) := by decide +kernel
theorem dX6_note_19 : decode cX6_note 19 = .ok (.aload_n 0, 1) := by decide +kernel
theorem dX6_note_20 : decode cX6_note 20 = .ok (.getfield 15, 3) := by decide +kernel
theorem dX6_note_23 : decode cX6_note 23 = .ok (.aload_n 0, 1) := by decide +kernel
theorem dX6_note_24 : decode cX6_note 24 = .ok (.getfield 66, 3) := by decide +kernel
theorem dX6_note_27 : decode cX6_note 27 = .ok (.iload_n 2, 1) := by decide +kernel
theorem dX6_note_28 : decode cX6_note 28 = .ok (.iastore, 1) := by decide +kernel
theorem dX6_note_29 : decode cX6_note 29 = .ok (.aload_n 0, 1) := by decide +kernel
theorem dX6_note_30 : decode cX6_note 30 = .ok (.getfield 18, 3) := by decide +kernel
theorem dX6_note_33 : decode cX6_note 33 = .ok (.aload_n 0, 1) := by decide +kernel
theorem dX6_note_34 : decode cX6_note 34 = .ok (.getfield 66, 3) := by decide +kernel
theorem dX6_note_37 : decode cX6_note 37 = .ok (.aload_n 0, 1) := by decide +kernel
theorem dX6_note_38 : decode cX6_note 38 = .ok (.getfield 82, 3) := by decide +kernel
theorem dX6_note_41 : decode cX6_note 41 = .ok (.iastore, 1) := by decide +kernel
theorem dX6_note_42 : decode cX6_note 42 = .ok (.aload_n 0, 1) := by decide +kernel
theorem dX6_note_43 : decode cX6_note 43 = .ok (.dup, 1) := by decide +kernel
theorem dX6_note_44 : decode cX6_note 44 = .ok (.getfield 66, 3) := by decide +kernel
theorem dX6_note_47 : decode cX6_note 47 = .ok (.iconst 1, 1) := by decide +kernel
theorem dX6_note_48 : decode cX6_note 48 = .ok (.iadd, 1) := by decide +kernel
theorem dX6_note_49 : decode cX6_note 49 = .ok (.putfield 66, 3) := by decide +kernel
theorem dX6_note_52 : decode cX6_note 52 = .ok (.return_, 1) := by decide +kernel
theorem dX6_open_0 : decode cX6_open 0 = .ok (.bipush 24, 2) := by decide +kernel
theorem dX6_open_2 : decode cX6_open 2 = .ok (.iload_n 1, 1) := by decide +kernel
theorem dX6_open_3 : decode cX6_open 3 = .ok (.bipush 60, 2) := by decide +kernel
theorem dX6_open_5 : decode cX6_open 5 = .ok (.isub, 1) := by decide +kernel
theorem dX6_open_6 : decode cX6_open 6 = .ok (.sipush 721, 3) := by decide +kernel
theorem dX6_open_9 : decode cX6_open 9 = .ok (.idiv, 1) := by decide +kernel
theorem dX6_open_10 : decode cX6_open 10 = .ok (.isub, 1) := by decide +kernel
theorem dX6_open_11 : decode cX6_open 11 = .ok (.istore_n 3, 1) := by decide +kernel
theorem dX6_open_12 : decode cX6_open 12 = .ok (.iload_n 1, 1) := by decide +kernel
theorem dX6_open_13 : decode cX6_open 13 = .ok (.bipush 60, 2) := by decide +kernel
theorem dX6_open_15 : decode cX6_open 15 = .ok (.isub, 1) := by decide +kernel
theorem dX6_open_16 : decode cX6_open 16 = .ok (.sipush 721, 3) := by decide +kernel
theorem dX6_open_19 : decode cX6_open 19 = .ok (.irem, 1) := by decide +kernel
theorem dX6_open_20 : decode cX6_open 20 = .ok (.istore 4, 2) := by decide +kernel
theorem dX6_open_22 : decode cX6_open 22 = .ok (.iload_n 2, 1) := by decide +kernel
theorem dX6_open_23 : decode cX6_open 23 = .ok (.aload_n 0, 1) := by decide +kernel
theorem dX6_open_24 : decode cX6_open 24 = .ok (.getfield 34, 3) := by decide +kernel
theorem dX6_open_27 : decode cX6_open 27 = .ok (.getfield 51, 3) := by decide +kernel
theorem dX6_open_30 : decode cX6_open 30 = .ok (.iload_n 3, 1) := by decide +kernel
theorem dX6_open_31 : decode cX6_open 31 = .ok (.iaload, 1) := by decide +kernel
theorem dX6_open_32 : decode cX6_open 32 = .ok (.isub, 1) := by decide +kernel
theorem dX6_open_33 : decode cX6_open 33 = .ok (.aload_n 0, 1) := by decide +kernel
theorem dX6_open_34 : decode cX6_open 34 = .ok (.getfield 30, 3) := by decide +kernel
theorem dX6_open_37 : decode cX6_open 37 = .ok (.getfield 56, 3) := by decide +kernel
theorem dX6_open_40 : decode cX6_open 40 = .ok (.iload 4, 2) := by decide +kernel
theorem dX6_open_42 : decode cX6_open 42 = .ok (.iaload, 1) := by decide +kernel
theorem dX6_open_43 : decode cX6_open 43 = .ok (.isub, 1) := by decide +kernel
theorem dX6_open_44 : decode cX6_open 44 = .ok (.istore 5, 2) := by decide +kernel
theorem dX6_open_46 : decode cX6_open 46 = .ok (.aload_n 0, 1) := by decide +kernel
theorem dX6_open_47 : decode cX6_open 47 = .ok (.dup, 1) := by decide +kernel
theorem dX6_open_48 : decode cX6_open 48 = .ok (.getfield 82, 3) := by decide +kernel
theorem dX6_open_51 : decode cX6_open 51 = .ok (.iconst 1, 1) := by decide +kernel
theorem dX6_open_52 : decode cX6_open 52 = .ok (.iadd, 1) := by decide +kernel
theorem dX6_open_53 : decode cX6_open 53 = .ok (.putfield 82, 3) := by decide +kernel
theorem dX6_open_56 : decode cX6_open 56 = .ok (.aload_n 0, 1) := by decide +kernel
theorem dX6_open_57 : decode cX6_open 57 = .ok (.getfield 30, 3) := by decide +kernel
theorem dX6_open_60 : decode cX6_open 60 = .ok (.getfield 85, 3) := by decide +kernel
theorem dX6_open_63 : decode cX6_open 63 = .ok (.iload 4, 2) := by decide +kernel
theorem dX6_open_65 : decode cX6_open 65 = .ok (.iaload, 1) := by decide +kernel
theorem dX6_open_66 : decode cX6_open 66 = .ok (.istore 6, 2) := by decide +kernel
theorem dX6_open_68 : decode cX6_open 68 = .ok (.iload_n 3, 1) := by decide +kernel
theorem dX6_open_69 : decode cX6_open 69 = .ok (.aload_n 0, 1) := by decide +kernel
theorem dX6_open_70 : decode cX6_open 70 = .ok (.getfield 34, 3) := by decide +kernel
theorem dX6_open_73 : decode cX6_open 73 = .ok (.getfield 88, 3) := by decide +kernel
theorem dX6_open_76 : decode cX6_open 76 = .ok (.if_icmp .ne 28, 3) := by decide +kernel
theorem dX6_open_79 : decode cX6_open 79 = .ok (.iload 6, 2) := by decide +kernel
theorem dX6_open_81 : decode cX6_open 81 = .ok (.iconst (-1), 1) := by decide +kernel
theorem dX6_open_82 : decode cX6_open 82 = .ok (.if_icmp .eq 22, 3) := by decide +kernel
theorem dX6_open_85 : decode cX6_open 85 = .ok (.aload_n 0, 1) := by decide +kernel
theorem dX6_open_86 : decode cX6_open 86 = .ok (.iload 6, 2) := by decide +kernel
theorem dX6_open_88 : decode cX6_open 88 = .ok (.iload 5, 2) := by decide +kernel
theorem dX6_open_90 : decode cX6_open 90 = .ok (.aload_n 0, 1) := by decide +kernel
theorem dX6_open_91 : decode cX6_open 91 = .ok (.getfield 30, 3) := by decide +kernel
theorem dX6_open_94 : decode cX6_open 94 = .ok (.getfield 91, 3) := by decide +kernel
theorem dX6_open_97 : decode cX6_open 97 = .ok (.iload 6, 2) := by decide +kernel
theorem dX6_open_99 : decode cX6_open 99 = .ok (.iaload, 1) := by decide +kernel
theorem dX6_open_100 : decode cX6_open 100 = .ok (.iadd, 1) := by decide +kernel
theorem dX6_open_101 : decode cX6_open 101 = .ok (.invokevirtual 59, 3) := by decide +kernel
theorem dX6_open_104 : decode cX6_open 104 = .ok (.aload_n 0, 1) := by decide +kernel
theorem dX6_open_105 : decode cX6_open 105 = .ok (.getfield 34, 3) := by decide +kernel
theorem dX6_open_108 : decode cX6_open 108 = .ok (.getfield 94, 3) := by decide +kernel
theorem dX6_open_111 : decode cX6_open 111 = .ok (.iload_n 3, 1) := by decide +kernel
theorem dX6_open_112 : decode cX6_open 112 = .ok (.iaload, 1) := by decide +kernel
theorem dX6_open_113 : decode cX6_open 113 = .ok (.istore 7, 2) := by decide +kernel
theorem dX6_open_115 : decode cX6_open 115 = .ok (.iload 7, 2) := by decide +kernel
theorem dX6_open_117 : decode cX6_open 117 = .ok (.aload_n 0, 1) := by decide +kernel
theorem dX6_open_118 : decode cX6_open 118 = .ok (.getfield 34, 3) := by decide +kernel
theorem dX6_open_121 : decode cX6_open 121 = .ok (.getfield 94, 3) := by decide +kernel
theorem dX6_open_124 : decode cX6_open 124 = .ok (.iload_n 3, 1) := by decide +kernel
theorem dX6_open_125 : decode cX6_open 125 = .ok (.iconst 1, 1) := by decide +kernel
theorem dX6_open_126 : decode cX6_open 126 = .ok (.iadd, 1) := by decide +kernel
theorem dX6_open_127 : decode cX6_open 127 = .ok (.iaload, 1) := by decide +kernel
theorem dX6_open_128 : decode cX6_open 128 = .ok (.if_icmp .ge 88, 3) := by decide +kernel
theorem dX6_open_131 : decode cX6_open 131 = .ok (.aload_n 0, 1) := by decide +kernel
theorem dX6_open_132 : decode cX6_open 132 = .ok (.iload 4, 2) := by decide +kernel
theorem dX6_open_134 : decode cX6_open 134 = .ok (.iload 7, 2) := by decide +kernel
theorem dX6_open_136 : decode cX6_open 136 = .ok (.invokevirtual 97, 3) := by decide +kernel
theorem dX6_open_139 : decode cX6_open 139 = .ok (.istore 8, 2) := by decide +kernel
theorem dX6_open_141 : decode cX6_open 141 = .ok (.iload 8, 2) := by decide +kernel
theorem dX6_open_143 : decode cX6_open 143 = .ok (.iconst (-1), 1) := by decide +kernel
theorem dX6_open_144 : decode cX6_open 144 = .ok (.if_icmp .eq 66, 3) := by decide +kernel
theorem dX6_open_147 : decode cX6_open 147 = .ok (.aload_n 0, 1) := by decide +kernel
theorem dX6_open_148 : decode cX6_open 148 = .ok (.getfield 34, 3) := by decide +kernel
theorem dX6_open_151 : decode cX6_open 151 = .ok (.getfield 100, 3) := by decide +kernel
theorem dX6_open_154 : decode cX6_open 154 = .ok (.iload 7, 2) := by decide +kernel
theorem dX6_open_156 : decode cX6_open 156 = .ok (.iaload, 1) := by decide +kernel
theorem dX6_open_157 : decode cX6_open 157 = .ok (.istore 9, 2) := by decide +kernel
theorem dX6_open_159 : decode cX6_open 159 = .ok (.iload 5, 2) := by decide +kernel
theorem dX6_open_161 : decode cX6_open 161 = .ok (.aload_n 0, 1) := by decide +kernel
theorem dX6_open_162 : decode cX6_open 162 = .ok (.getfield 34, 3) := by decide +kernel
theorem dX6_open_165 : decode cX6_open 165 = .ok (.getfield 103, 3) := by decide +kernel
theorem dX6_open_168 : decode cX6_open 168 = .ok (.iload 7, 2) := by decide +kernel
theorem dX6_open_170 : decode cX6_open 170 = .ok (.iaload, 1) := by decide +kernel
theorem dX6_open_171 : decode cX6_open 171 = .ok (.iadd, 1) := by decide +kernel
theorem dX6_open_172 : decode cX6_open 172 = .ok (.istore 10, 2) := by decide +kernel
theorem dX6_open_174 : decode cX6_open 174 = .ok (.aload_n 0, 1) := by decide +kernel
theorem dX6_open_175 : decode cX6_open 175 = .ok (.aload_n 0, 1) := by decide +kernel
theorem dX6_open_176 : decode cX6_open 176 = .ok (.iload 9, 2) := by decide +kernel
theorem dX6_open_178 : decode cX6_open 178 = .ok (.iload 8, 2) := by decide +kernel
theorem dX6_open_180 : decode cX6_open 180 = .ok (.invokevirtual 47, 3) := by decide +kernel
theorem dX6_open_183 : decode cX6_open 183 = .ok (.iload 10, 2) := by decide +kernel
theorem dX6_open_185 : decode cX6_open 185 = .ok (.aload_n 0, 1) := by decide +kernel
theorem dX6_open_186 : decode cX6_open 186 = .ok (.getfield 34, 3) := by decide +kernel
theorem dX6_open_189 : decode cX6_open 189 = .ok (.getfield 51, 3) := by decide +kernel
theorem dX6_open_192 : decode cX6_open 192 = .ok (.iload 9, 2) := by decide +kernel
theorem dX6_open_194 : decode cX6_open 194 = .ok (.iaload, 1) := by decide +kernel
theorem dX6_open_195 : decode cX6_open 195 = .ok (.iadd, 1) := by decide +kernel
theorem dX6_open_196 : decode cX6_open 196 = .ok (.aload_n 0, 1) := by decide +kernel
theorem dX6_open_197 : decode cX6_open 197 = .ok (.getfield 30, 3) := by decide +kernel
theorem dX6_open_200 : decode cX6_open 200 = .ok (.getfield 56, 3) := by decide +kernel
theorem dX6_open_203 : decode cX6_open 203 = .ok (.iload 8, 2) := by decide +kernel
theorem dX6_open_205 : decode cX6_open 205 = .ok (.iaload, 1) := by decide +kernel
theorem dX6_open_206 : decode cX6_open 206 = .ok (.iadd, 1) := by decide +kernel
theorem dX6_open_207 : decode cX6_open 207 = .ok (.invokevirtual 59, 3) := by decide +kernel
theorem dX6_open_210 : decode cX6_open 210 = .ok (.iinc 7 1, 3) := by decide +kernel
theorem dX6_open_213 : decode cX6_open 213 = .ok (.goto (-98), 3) := by decide +kernel
theorem dX6_open_216 : decode cX6_open 216 = .ok (.return_, 1) := by decide +kernel
theorem dX6_walk_0 : decode cX6_walk 0 = .ok (.iload_n 1, 1) := by decide +kernel
theorem dX6_walk_1 : decode cX6_walk 1 = .ok (.istore_n 3, 1) := by decide +kernel
theorem dX6_walk_2 : decode cX6_walk 2 = .ok (.iconst 0, 1) := by decide +kernel
theorem dX6_walk_3 : decode cX6_walk 3 = .ok (.istore 4, 2) := by decide +kernel
theorem dX6_walk_5 : decode cX6_walk 5 = .ok (.iload 4, 2) := by decide +kernel
theorem dX6_walk_7 : decode cX6_walk 7 = .ok (.aload_n 0, 1) := by decide +kernel
theorem dX6_walk_8 : decode cX6_walk 8 = .ok (.getfield 34, 3) := by decide +kernel
theorem dX6_walk_11 : decode cX6_walk 11 = .ok (.getfield 106, 3) := by decide +kernel
theorem dX6_walk_14 : decode cX6_walk 14 = .ok (.iload_n 2, 1) := by decide +kernel
theorem dX6_walk_15 : decode cX6_walk 15 = .ok (.iaload, 1) := by decide +kernel
theorem dX6_walk_16 : decode cX6_walk 16 = .ok (.if_icmp .ge 37, 3) := by decide +kernel
theorem dX6_walk_19 : decode cX6_walk 19 = .ok (.iload_n 3, 1) := by decide +kernel
theorem dX6_walk_20 : decode cX6_walk 20 = .ok (.iconst (-1), 1) := by decide +kernel
theorem dX6_walk_21 : decode cX6_walk 21 = .ok (.if_icmp .eq 32, 3) := by decide +kernel
theorem dX6_walk_24 : decode cX6_walk 24 = .ok (.aload_n 0, 1) := by decide +kernel
theorem dX6_walk_25 : decode cX6_walk 25 = .ok (.getfield 30, 3) := by decide +kernel
theorem dX6_walk_28 : decode cX6_walk 28 = .ok (.iload_n 3, 1) := by decide +kernel
theorem dX6_walk_29 : decode cX6_walk 29 = .ok (.aload_n 0, 1) := by decide +kernel
theorem dX6_walk_30 : decode cX6_walk 30 = .ok (.getfield 34, 3) := by decide +kernel
theorem dX6_walk_33 : decode cX6_walk 33 = .ok (.getfield 109, 3) := by decide +kernel
theorem dX6_walk_36 : decode cX6_walk 36 = .ok (.iload_n 2, 1) := by decide +kernel
theorem dX6_walk_37 : decode cX6_walk 37 = .ok (.iconst 3, 1) := by decide +kernel
theorem dX6_walk_38 : decode cX6_walk 38 = .ok (.imul, 1) := by decide +kernel
theorem dX6_walk_39 : decode cX6_walk 39 = .ok (.iload 4, 2) := by decide +kernel
theorem dX6_walk_41 : decode cX6_walk 41 = .ok (.iadd, 1) := by decide +kernel
theorem dX6_walk_42 : decode cX6_walk 42 = .ok (.iaload, 1) := by decide +kernel
theorem dX6_walk_43 : decode cX6_walk 43 = .ok (.invokevirtual 112, 3) := by decide +kernel
theorem dX6_walk_46 : decode cX6_walk 46 = .ok (.istore_n 3, 1) := by decide +kernel
theorem dX6_walk_47 : decode cX6_walk 47 = .ok (.iinc 4 1, 3) := by decide +kernel
theorem dX6_walk_50 : decode cX6_walk 50 = .ok (.goto (-45), 3) := by decide +kernel
theorem dX6_walk_53 : decode cX6_walk 53 = .ok (.iload_n 3, 1) := by decide +kernel
theorem dX6_walk_54 : decode cX6_walk 54 = .ok (.ireturn, 1) := by decide +kernel
theorem dX6_put_0 : decode cX6_put 0 = .ok (.iload_n 2, 1) := by decide +kernel
theorem dX6_put_1 : decode cX6_put 1 = .ok (.bipush 15, 2) := by decide +kernel
theorem dX6_put_3 : decode cX6_put 3 = .ok (.ishl, 1) := by decide +kernel
theorem dX6_put_4 : decode cX6_put 4 = .ok (.iload_n 1, 1) := by decide +kernel
theorem dX6_put_5 : decode cX6_put 5 = .ok (.ior, 1) := by decide +kernel
theorem dX6_put_6 : decode cX6_put 6 = .ok (.istore_n 3, 1) := by decide +kernel
theorem dX6_put_7 : decode cX6_put 7 = .ok (.aload_n 0, 1) := by decide +kernel
theorem dX6_put_8 : decode cX6_put 8 = .ok (.getfield 24, 3) := by decide +kernel
theorem dX6_put_11 : decode cX6_put 11 = .ok (.iload_n 1, 1) := by decide +kernel
theorem dX6_put_12 : decode cX6_put 12 = .ok (.iaload, 1) := by decide +kernel
theorem dX6_put_13 : decode cX6_put 13 = .ok (.istore 4, 2) := by decide +kernel
theorem dX6_put_15 : decode cX6_put 15 = .ok (.iload 4, 2) := by decide +kernel
theorem dX6_put_17 : decode cX6_put 17 = .ok (.ifCond .ne 67, 3) := by decide +kernel
theorem dX6_put_20 : decode cX6_put 20 = .ok (.aload_n 0, 1) := by decide +kernel
theorem dX6_put_21 : decode cX6_put 21 = .ok (.getfield 63, 3) := by decide +kernel
theorem dX6_put_24 : decode cX6_put 24 = .ok (.sipush 18085, 3) := by decide +kernel
theorem dX6_put_27 : decode cX6_put 27 = .ok (.if_icmp .ge 57, 3) := by decide +kernel
theorem dX6_put_30 : decode cX6_put 30 = .ok (.aload_n 0, 1) := by decide +kernel
theorem dX6_put_31 : decode cX6_put 31 = .ok (.getfield 79, 3) := by decide +kernel
theorem dX6_put_34 : decode cX6_put 34 = .ok (.sipush 18085, 3) := by decide +kernel
theorem dX6_put_37 : decode cX6_put 37 = .ok (.if_icmp .ge 47, 3) := by decide +kernel
theorem dX6_put_40 : decode cX6_put 40 = .ok (.aload_n 0, 1) := by decide +kernel
theorem dX6_put_41 : decode cX6_put 41 = .ok (.getfield 27, 3) := by decide +kernel
theorem dX6_put_44 : decode cX6_put 44 = .ok (.aload_n 0, 1) := by decide +kernel
theorem dX6_put_45 : decode cX6_put 45 = .ok (.getfield 79, 3) := by decide +kernel
theorem dX6_put_48 : decode cX6_put 48 = .ok (.iload_n 1, 1) := by decide +kernel
theorem dX6_put_49 : decode cX6_put 49 = .ok (.iastore, 1) := by decide +kernel
theorem dX6_put_50 : decode cX6_put 50 = .ok (.aload_n 0, 1) := by decide +kernel
theorem dX6_put_51 : decode cX6_put 51 = .ok (.dup, 1) := by decide +kernel
theorem dX6_put_52 : decode cX6_put 52 = .ok (.getfield 79, 3) := by decide +kernel
theorem dX6_put_55 : decode cX6_put 55 = .ok (.iconst 1, 1) := by decide +kernel
theorem dX6_put_56 : decode cX6_put 56 = .ok (.iadd, 1) := by decide +kernel
theorem dX6_put_57 : decode cX6_put 57 = .ok (.putfield 79, 3) := by decide +kernel
theorem dX6_put_60 : decode cX6_put 60 = .ok (.aload_n 0, 1) := by decide +kernel
theorem dX6_put_61 : decode cX6_put 61 = .ok (.dup, 1) := by decide +kernel
theorem dX6_put_62 : decode cX6_put 62 = .ok (.getfield 63, 3) := by decide +kernel
theorem dX6_put_65 : decode cX6_put 65 = .ok (.iconst 1, 1) := by decide +kernel
theorem dX6_put_66 : decode cX6_put 66 = .ok (.iadd, 1) := by decide +kernel
theorem dX6_put_67 : decode cX6_put 67 = .ok (.putfield 63, 3) := by decide +kernel
theorem dX6_put_70 : decode cX6_put 70 = .ok (.aload_n 0, 1) := by decide +kernel
theorem dX6_put_71 : decode cX6_put 71 = .ok (.aload_n 0, 1) := by decide +kernel
theorem dX6_put_72 : decode cX6_put 72 = .ok (.getfield 63, 3) := by decide +kernel
theorem dX6_put_75 : decode cX6_put 75 = .ok (.iconst 1, 1) := by decide +kernel
theorem dX6_put_76 : decode cX6_put 76 = .ok (.isub, 1) := by decide +kernel
theorem dX6_put_77 : decode cX6_put 77 = .ok (.iload_n 3, 1) := by decide +kernel
theorem dX6_put_78 : decode cX6_put 78 = .ok (.invokevirtual 115, 3) := by decide +kernel
theorem dX6_put_81 : decode cX6_put 81 = .ok (.goto 30, 3) := by decide +kernel
theorem dX6_put_84 : decode cX6_put 84 = .ok (.iload 4, 2) := by decide +kernel
theorem dX6_put_86 : decode cX6_put 86 = .ok (.ifCond .le 25, 3) := by decide +kernel
theorem dX6_put_89 : decode cX6_put 89 = .ok (.iload_n 3, 1) := by decide +kernel
theorem dX6_put_90 : decode cX6_put 90 = .ok (.aload_n 0, 1) := by decide +kernel
theorem dX6_put_91 : decode cX6_put 91 = .ok (.getfield 21, 3) := by decide +kernel
theorem dX6_put_94 : decode cX6_put 94 = .ok (.iload 4, 2) := by decide +kernel
theorem dX6_put_96 : decode cX6_put 96 = .ok (.iconst 1, 1) := by decide +kernel
theorem dX6_put_97 : decode cX6_put 97 = .ok (.isub, 1) := by decide +kernel
theorem dX6_put_98 : decode cX6_put 98 = .ok (.iaload, 1) := by decide +kernel
theorem dX6_put_99 : decode cX6_put 99 = .ok (.if_icmp .ge 12, 3) := by decide +kernel
theorem dX6_put_102 : decode cX6_put 102 = .ok (.aload_n 0, 1) := by decide +kernel
theorem dX6_put_103 : decode cX6_put 103 = .ok (.iload 4, 2) := by decide +kernel
theorem dX6_put_105 : decode cX6_put 105 = .ok (.iconst 1, 1) := by decide +kernel
theorem dX6_put_106 : decode cX6_put 106 = .ok (.isub, 1) := by decide +kernel
theorem dX6_put_107 : decode cX6_put 107 = .ok (.iload_n 3, 1) := by decide +kernel
theorem dX6_put_108 : decode cX6_put 108 = .ok (.invokevirtual 115, 3) := by decide +kernel
theorem dX6_put_111 : decode cX6_put 111 = .ok (.return_, 1) := by decide +kernel
theorem dX6_takeLeast_0 : decode cX6_takeLeast 0 = .ok (.aload_n 0, 1) := by decide +kernel
theorem dX6_takeLeast_1 : decode cX6_takeLeast 1 = .ok (.getfield 21, 3) := by decide +kernel
theorem dX6_takeLeast_4 : decode cX6_takeLeast 4 = .ok (.iconst 0, 1) := by decide +kernel
theorem dX6_takeLeast_5 : decode cX6_takeLeast 5 = .ok (.iaload, 1) := by decide +kernel
theorem dX6_takeLeast_6 : decode cX6_takeLeast 6 = .ok (.istore_n 1, 1) := by decide +kernel
theorem dX6_takeLeast_7 : decode cX6_takeLeast 7 = .ok (.aload_n 0, 1) := by decide +kernel
theorem dX6_takeLeast_8 : decode cX6_takeLeast 8 = .ok (.dup, 1) := by decide +kernel
theorem dX6_takeLeast_9 : decode cX6_takeLeast 9 = .ok (.getfield 63, 3) := by decide +kernel
theorem dX6_takeLeast_12 : decode cX6_takeLeast 12 = .ok (.iconst 1, 1) := by decide +kernel
theorem dX6_takeLeast_13 : decode cX6_takeLeast 13 = .ok (.isub, 1) := by decide +kernel
theorem dX6_takeLeast_14 : decode cX6_takeLeast 14 = .ok (.putfield 63, 3) := by decide +kernel
theorem dX6_takeLeast_17 : decode cX6_takeLeast 17 = .ok (.aload_n 0, 1) := by decide +kernel
theorem dX6_takeLeast_18 : decode cX6_takeLeast 18 = .ok (.aload_n 0, 1) := by decide +kernel
theorem dX6_takeLeast_19 : decode cX6_takeLeast 19 = .ok (.getfield 21, 3) := by decide +kernel
theorem dX6_takeLeast_22 : decode cX6_takeLeast 22 = .ok (.aload_n 0, 1) := by decide +kernel
theorem dX6_takeLeast_23 : decode cX6_takeLeast 23 = .ok (.getfield 63, 3) := by decide +kernel
theorem dX6_takeLeast_26 : decode cX6_takeLeast 26 = .ok (.iaload, 1) := by decide +kernel
theorem dX6_takeLeast_27 : decode cX6_takeLeast 27 = .ok (.invokevirtual 118, 3) := by decide +kernel
theorem dX6_takeLeast_30 : decode cX6_takeLeast 30 = .ok (.aload_n 0, 1) := by decide +kernel
theorem dX6_takeLeast_31 : decode cX6_takeLeast 31 = .ok (.getfield 24, 3) := by decide +kernel
theorem dX6_takeLeast_34 : decode cX6_takeLeast 34 = .ok (.iload_n 1, 1) := by decide +kernel
theorem dX6_takeLeast_35 : decode cX6_takeLeast 35 = .ok (.sipush 32767, 3) := by decide +kernel
theorem dX6_takeLeast_38 : decode cX6_takeLeast 38 = .ok (.iand, 1) := by decide +kernel
theorem dX6_takeLeast_39 : decode cX6_takeLeast 39 = .ok (.iconst (-1), 1) := by decide +kernel
theorem dX6_takeLeast_40 : decode cX6_takeLeast 40 = .ok (.iastore, 1) := by decide +kernel
theorem dX6_takeLeast_41 : decode cX6_takeLeast 41 = .ok (.iload_n 1, 1) := by decide +kernel
theorem dX6_takeLeast_42 : decode cX6_takeLeast 42 = .ok (.ireturn, 1) := by decide +kernel
theorem dX6_lift_0 : decode cX6_lift 0 = .ok (.iload_n 1, 1) := by decide +kernel
theorem dX6_lift_1 : decode cX6_lift 1 = .ok (.istore_n 3, 1) := by decide +kernel
theorem dX6_lift_2 : decode cX6_lift 2 = .ok (.iconst 0, 1) := by decide +kernel
theorem dX6_lift_3 : decode cX6_lift 3 = .ok (.istore 4, 2) := by decide +kernel
theorem dX6_lift_5 : decode cX6_lift 5 = .ok (.iload 4, 2) := by decide +kernel
theorem dX6_lift_7 : decode cX6_lift 7 = .ok (.bipush 16, 2) := by decide +kernel
theorem dX6_lift_9 : decode cX6_lift 9 = .ok (.if_icmp .ge 68, 3) := by decide +kernel
theorem dX6_lift_12 : decode cX6_lift 12 = .ok (.iload_n 3, 1) := by decide +kernel
theorem dX6_lift_13 : decode cX6_lift 13 = .ok (.ifCond .le 64, 3) := by decide +kernel
theorem dX6_lift_16 : decode cX6_lift 16 = .ok (.iload_n 3, 1) := by decide +kernel
theorem dX6_lift_17 : decode cX6_lift 17 = .ok (.iconst 1, 1) := by decide +kernel
theorem dX6_lift_18 : decode cX6_lift 18 = .ok (.isub, 1) := by decide +kernel
theorem dX6_lift_19 : decode cX6_lift 19 = .ok (.iconst 2, 1) := by decide +kernel
theorem dX6_lift_20 : decode cX6_lift 20 = .ok (.idiv, 1) := by decide +kernel
theorem dX6_lift_21 : decode cX6_lift 21 = .ok (.istore 5, 2) := by decide +kernel
theorem dX6_lift_23 : decode cX6_lift 23 = .ok (.aload_n 0, 1) := by decide +kernel
theorem dX6_lift_24 : decode cX6_lift 24 = .ok (.getfield 21, 3) := by decide +kernel
theorem dX6_lift_27 : decode cX6_lift 27 = .ok (.iload 5, 2) := by decide +kernel
theorem dX6_lift_29 : decode cX6_lift 29 = .ok (.iaload, 1) := by decide +kernel
theorem dX6_lift_30 : decode cX6_lift 30 = .ok (.iload_n 2, 1) := by decide +kernel
theorem dX6_lift_31 : decode cX6_lift 31 = .ok (.if_icmp .ge 6, 3) := by decide +kernel
theorem dX6_lift_34 : decode cX6_lift 34 = .ok (.goto 43, 3) := by decide +kernel
theorem dX6_lift_37 : decode cX6_lift 37 = .ok (.aload_n 0, 1) := by decide +kernel
theorem dX6_lift_38 : decode cX6_lift 38 = .ok (.getfield 21, 3) := by decide +kernel
theorem dX6_lift_41 : decode cX6_lift 41 = .ok (.iload_n 3, 1) := by decide +kernel
theorem dX6_lift_42 : decode cX6_lift 42 = .ok (.aload_n 0, 1) := by decide +kernel
theorem dX6_lift_43 : decode cX6_lift 43 = .ok (.getfield 21, 3) := by decide +kernel
theorem dX6_lift_46 : decode cX6_lift 46 = .ok (.iload 5, 2) := by decide +kernel
theorem dX6_lift_48 : decode cX6_lift 48 = .ok (.iaload, 1) := by decide +kernel
theorem dX6_lift_49 : decode cX6_lift 49 = .ok (.iastore, 1) := by decide +kernel
theorem dX6_lift_50 : decode cX6_lift 50 = .ok (.aload_n 0, 1) := by decide +kernel
theorem dX6_lift_51 : decode cX6_lift 51 = .ok (.getfield 24, 3) := by decide +kernel
theorem dX6_lift_54 : decode cX6_lift 54 = .ok (.aload_n 0, 1) := by decide +kernel
theorem dX6_lift_55 : decode cX6_lift 55 = .ok (.getfield 21, 3) := by decide +kernel
theorem dX6_lift_58 : decode cX6_lift 58 = .ok (.iload_n 3, 1) := by decide +kernel
theorem dX6_lift_59 : decode cX6_lift 59 = .ok (.iaload, 1) := by decide +kernel
theorem dX6_lift_60 : decode cX6_lift 60 = .ok (.sipush 32767, 3) := by decide +kernel
theorem dX6_lift_63 : decode cX6_lift 63 = .ok (.iand, 1) := by decide +kernel
theorem dX6_lift_64 : decode cX6_lift 64 = .ok (.iload_n 3, 1) := by decide +kernel
theorem dX6_lift_65 : decode cX6_lift 65 = .ok (.iconst 1, 1) := by decide +kernel
theorem dX6_lift_66 : decode cX6_lift 66 = .ok (.iadd, 1) := by decide +kernel
theorem dX6_lift_67 : decode cX6_lift 67 = .ok (.iastore, 1) := by decide +kernel
theorem dX6_lift_68 : decode cX6_lift 68 = .ok (.iload 5, 2) := by decide +kernel
theorem dX6_lift_70 : decode cX6_lift 70 = .ok (.istore_n 3, 1) := by decide +kernel
theorem dX6_lift_71 : decode cX6_lift 71 = .ok (.iinc 4 1, 3) := by decide +kernel
theorem dX6_lift_74 : decode cX6_lift 74 = .ok (.goto (-69), 3) := by decide +kernel
theorem dX6_lift_77 : decode cX6_lift 77 = .ok (.aload_n 0, 1) := by decide +kernel
theorem dX6_lift_78 : decode cX6_lift 78 = .ok (.getfield 21, 3) := by decide +kernel
theorem dX6_lift_81 : decode cX6_lift 81 = .ok (.iload_n 3, 1) := by decide +kernel
theorem dX6_lift_82 : decode cX6_lift 82 = .ok (.iload_n 2, 1) := by decide +kernel
theorem dX6_lift_83 : decode cX6_lift 83 = .ok (.iastore, 1) := by decide +kernel
theorem dX6_lift_84 : decode cX6_lift 84 = .ok (.aload_n 0, 1) := by decide +kernel
theorem dX6_lift_85 : decode cX6_lift 85 = .ok (.getfield 24, 3) := by decide +kernel
theorem dX6_lift_88 : decode cX6_lift 88 = .ok (.iload_n 2, 1) := by decide +kernel
theorem dX6_lift_89 : decode cX6_lift 89 = .ok (.sipush 32767, 3) := by decide +kernel
theorem dX6_lift_92 : decode cX6_lift 92 = .ok (.iand, 1) := by decide +kernel
theorem dX6_lift_93 : decode cX6_lift 93 = .ok (.iload_n 3, 1) := by decide +kernel
theorem dX6_lift_94 : decode cX6_lift 94 = .ok (.iconst 1, 1) := by decide +kernel
theorem dX6_lift_95 : decode cX6_lift 95 = .ok (.iadd, 1) := by decide +kernel
theorem dX6_lift_96 : decode cX6_lift 96 = .ok (.iastore, 1) := by decide +kernel
theorem dX6_lift_97 : decode cX6_lift 97 = .ok (.return_, 1) := by decide +kernel
theorem dX6_sink_0 : decode cX6_sink 0 = .ok (.iconst 0, 1) := by decide +kernel
theorem dX6_sink_1 : decode cX6_sink 1 = .ok (.istore_n 2, 1) := by decide +kernel
theorem dX6_sink_2 : decode cX6_sink 2 = .ok (.iconst 0, 1) := by decide +kernel
theorem dX6_sink_3 : decode cX6_sink 3 = .ok (.istore_n 3, 1) := by decide +kernel
theorem dX6_sink_4 : decode cX6_sink 4 = .ok (.iload_n 3, 1) := by decide +kernel
theorem dX6_sink_5 : decode cX6_sink 5 = .ok (.bipush 16, 2) := by decide +kernel
theorem dX6_sink_7 : decode cX6_sink 7 = .ok (.if_icmp .ge 109, 3) := by decide +kernel
theorem dX6_sink_10 : decode cX6_sink 10 = .ok (.iconst 2, 1) := by decide +kernel
theorem dX6_sink_11 : decode cX6_sink 11 = .ok (.iload_n 2, 1) := by decide +kernel
theorem dX6_sink_12 : decode cX6_sink 12 = .ok (.imul, 1) := by decide +kernel
theorem dX6_sink_13 : decode cX6_sink 13 = .ok (.iconst 1, 1) := by decide +kernel
theorem dX6_sink_14 : decode cX6_sink 14 = .ok (.iadd, 1) := by decide +kernel
theorem dX6_sink_15 : decode cX6_sink 15 = .ok (.aload_n 0, 1) := by decide +kernel
theorem dX6_sink_16 : decode cX6_sink 16 = .ok (.getfield 63, 3) := by decide +kernel
theorem dX6_sink_19 : decode cX6_sink 19 = .ok (.if_icmp .ge 97, 3) := by decide +kernel
theorem dX6_sink_22 : decode cX6_sink 22 = .ok (.iconst 2, 1) := by decide +kernel
theorem dX6_sink_23 : decode cX6_sink 23 = .ok (.iload_n 2, 1) := by decide +kernel
theorem dX6_sink_24 : decode cX6_sink 24 = .ok (.imul, 1) := by decide +kernel
theorem dX6_sink_25 : decode cX6_sink 25 = .ok (.iconst 1, 1) := by decide +kernel
theorem dX6_sink_26 : decode cX6_sink 26 = .ok (.iadd, 1) := by decide +kernel
theorem dX6_sink_27 : decode cX6_sink 27 = .ok (.istore 4, 2) := by decide +kernel
theorem dX6_sink_29 : decode cX6_sink 29 = .ok (.iload 4, 2) := by decide +kernel
theorem dX6_sink_31 : decode cX6_sink 31 = .ok (.iconst 1, 1) := by decide +kernel
theorem dX6_sink_32 : decode cX6_sink 32 = .ok (.iadd, 1) := by decide +kernel
theorem dX6_sink_33 : decode cX6_sink 33 = .ok (.aload_n 0, 1) := by decide +kernel
theorem dX6_sink_34 : decode cX6_sink 34 = .ok (.getfield 63, 3) := by decide +kernel
theorem dX6_sink_37 : decode cX6_sink 37 = .ok (.if_icmp .ge 25, 3) := by decide +kernel
theorem dX6_sink_40 : decode cX6_sink 40 = .ok (.aload_n 0, 1) := by decide +kernel
theorem dX6_sink_41 : decode cX6_sink 41 = .ok (.getfield 21, 3) := by decide +kernel
theorem dX6_sink_44 : decode cX6_sink 44 = .ok (.iload 4, 2) := by decide +kernel
theorem dX6_sink_46 : decode cX6_sink 46 = .ok (.iconst 1, 1) := by decide +kernel
theorem dX6_sink_47 : decode cX6_sink 47 = .ok (.iadd, 1) := by decide +kernel
theorem dX6_sink_48 : decode cX6_sink 48 = .ok (.iaload, 1) := by decide +kernel
theorem dX6_sink_49 : decode cX6_sink 49 = .ok (.aload_n 0, 1) := by decide +kernel
theorem dX6_sink_50 : decode cX6_sink 50 = .ok (.getfield 21, 3) := by decide +kernel
theorem dX6_sink_53 : decode cX6_sink 53 = .ok (.iload 4, 2) := by decide +kernel
theorem dX6_sink_55 : decode cX6_sink 55 = .ok (.iaload, 1) := by decide +kernel
theorem dX6_sink_56 : decode cX6_sink 56 = .ok (.if_icmp .ge 6, 3) := by decide +kernel
theorem dX6_sink_59 : decode cX6_sink 59 = .ok (.iinc 4 1, 3) := by decide +kernel
theorem dX6_sink_62 : decode cX6_sink 62 = .ok (.aload_n 0, 1) := by decide +kernel
theorem dX6_sink_63 : decode cX6_sink 63 = .ok (.getfield 21, 3) := by decide +kernel
theorem dX6_sink_66 : decode cX6_sink 66 = .ok (.iload 4, 2) := by decide +kernel
theorem dX6_sink_68 : decode cX6_sink 68 = .ok (.iaload, 1) := by decide +kernel
theorem dX6_sink_69 : decode cX6_sink 69 = .ok (.iload_n 1, 1) := by decide +kernel
theorem dX6_sink_70 : decode cX6_sink 70 = .ok (.if_icmp .le 6, 3) := by decide +kernel
theorem dX6_sink_73 : decode cX6_sink 73 = .ok (.goto 43, 3) := by decide +kernel
theorem dX6_sink_76 : decode cX6_sink 76 = .ok (.aload_n 0, 1) := by decide +kernel
theorem dX6_sink_77 : decode cX6_sink 77 = .ok (.getfield 21, 3) := by decide +kernel
theorem dX6_sink_80 : decode cX6_sink 80 = .ok (.iload_n 2, 1) := by decide +kernel
theorem dX6_sink_81 : decode cX6_sink 81 = .ok (.aload_n 0, 1) := by decide +kernel
theorem dX6_sink_82 : decode cX6_sink 82 = .ok (.getfield 21, 3) := by decide +kernel
theorem dX6_sink_85 : decode cX6_sink 85 = .ok (.iload 4, 2) := by decide +kernel
theorem dX6_sink_87 : decode cX6_sink 87 = .ok (.iaload, 1) := by decide +kernel
theorem dX6_sink_88 : decode cX6_sink 88 = .ok (.iastore, 1) := by decide +kernel
theorem dX6_sink_89 : decode cX6_sink 89 = .ok (.aload_n 0, 1) := by decide +kernel
theorem dX6_sink_90 : decode cX6_sink 90 = .ok (.getfield 24, 3) := by decide +kernel
theorem dX6_sink_93 : decode cX6_sink 93 = .ok (.aload_n 0, 1) := by decide +kernel
theorem dX6_sink_94 : decode cX6_sink 94 = .ok (.getfield 21, 3) := by decide +kernel
theorem dX6_sink_97 : decode cX6_sink 97 = .ok (.iload_n 2, 1) := by decide +kernel
theorem dX6_sink_98 : decode cX6_sink 98 = .ok (.iaload, 1) := by decide +kernel
theorem dX6_sink_99 : decode cX6_sink 99 = .ok (.sipush 32767, 3) := by decide +kernel
theorem dX6_sink_102 : decode cX6_sink 102 = .ok (.iand, 1) := by decide +kernel
theorem dX6_sink_103 : decode cX6_sink 103 = .ok (.iload_n 2, 1) := by decide +kernel
theorem dX6_sink_104 : decode cX6_sink 104 = .ok (.iconst 1, 1) := by decide +kernel
theorem dX6_sink_105 : decode cX6_sink 105 = .ok (.iadd, 1) := by decide +kernel
theorem dX6_sink_106 : decode cX6_sink 106 = .ok (.iastore, 1) := by decide +kernel
theorem dX6_sink_107 : decode cX6_sink 107 = .ok (.iload 4, 2) := by decide +kernel
theorem dX6_sink_109 : decode cX6_sink 109 = .ok (.istore_n 2, 1) := by decide +kernel
theorem dX6_sink_110 : decode cX6_sink 110 = .ok (.iinc 3 1, 3) := by decide +kernel
theorem dX6_sink_113 : decode cX6_sink 113 = .ok (.goto (-109), 3) := by decide +kernel
theorem dX6_sink_116 : decode cX6_sink 116 = .ok (.aload_n 0, 1) := by decide +kernel
theorem dX6_sink_117 : decode cX6_sink 117 = .ok (.getfield 21, 3) := by decide +kernel
theorem dX6_sink_120 : decode cX6_sink 120 = .ok (.iload_n 2, 1) := by decide +kernel
theorem dX6_sink_121 : decode cX6_sink 121 = .ok (.iload_n 1, 1) := by decide +kernel
theorem dX6_sink_122 : decode cX6_sink 122 = .ok (.iastore, 1) := by decide +kernel
theorem dX6_sink_123 : decode cX6_sink 123 = .ok (.aload_n 0, 1) := by decide +kernel
theorem dX6_sink_124 : decode cX6_sink 124 = .ok (.getfield 24, 3) := by decide +kernel
theorem dX6_sink_127 : decode cX6_sink 127 = .ok (.iload_n 1, 1) := by decide +kernel
theorem dX6_sink_128 : decode cX6_sink 128 = .ok (.sipush 32767, 3) := by decide +kernel
theorem dX6_sink_131 : decode cX6_sink 131 = .ok (.iand, 1) := by decide +kernel
theorem dX6_sink_132 : decode cX6_sink 132 = .ok (.iload_n 2, 1) := by decide +kernel
theorem dX6_sink_133 : decode cX6_sink 133 = .ok (.iconst 1, 1) := by decide +kernel
theorem dX6_sink_134 : decode cX6_sink 134 = .ok (.iadd, 1) := by decide +kernel
theorem dX6_sink_135 : decode cX6_sink 135 = .ok (.iastore, 1) := by decide +kernel
theorem dX6_sink_136 : decode cX6_sink 136 = .ok (.return_, 1) := by decide +kernel
theorem dX7_init_0 : decode cX7_init 0 = .ok (.aload_n 0, 1) := by decide +kernel
theorem dX7_init_1 : decode cX7_init 1 = .ok (.invokespecial 5, 3) := by decide +kernel
theorem dX7_init_4 : decode cX7_init 4 = .ok (.aload_n 0, 1) := by decide +kernel
theorem dX7_init_5 : decode cX7_init 5 = .ok (.bipush 40, 2) := by decide +kernel
theorem dX7_init_7 : decode cX7_init 7 = .ok (.newarray .int, 2) := by decide +kernel
theorem dX7_init_9 : decode cX7_init 9 = .ok (.putfield 11, 3) := by decide +kernel
theorem dX7_init_12 : decode cX7_init 12 = .ok (.aload_n 0, 1) := by decide +kernel
theorem dX7_init_13 : decode cX7_init 13 = .ok (.sipush 200, 3) := by decide +kernel
theorem dX7_init_16 : decode cX7_init 16 = .ok (.newarray .int, 2) := by decide +kernel
theorem dX7_init_18 : decode cX7_init 18 = .ok (.putfield 15, 3) := by decide +kernel
theorem dX7_init_21 : decode cX7_init 21 = .ok (.aload_n 0, 1) := by decide +kernel
theorem dX7_init_22 : decode cX7_init 22 = .ok (.sipush 200, 3) := by decide +kernel
theorem dX7_init_25 : decode cX7_init 25 = .ok (.newarray .int, 2) := by decide +kernel
theorem dX7_init_27 : decode cX7_init 27 = .ok (.putfield 18, 3) := by decide +kernel
theorem dX7_init_30 : decode cX7_init 30 = .ok (.aload_n 0, 1) := by decide +kernel
theorem dX7_init_31 : decode cX7_init 31 = .ok (.aload_n 1, 1) := by decide +kernel
theorem dX7_init_32 : decode cX7_init 32 = .ok (.putfield 21, 3) := by decide +kernel
theorem dX7_init_35 : decode cX7_init 35 = .ok (.aload_n 0, 1) := by decide +kernel
theorem dX7_init_36 : decode cX7_init 36 = .ok (.aload_n 2, 1) := by decide +kernel
theorem dX7_init_37 : decode cX7_init 37 = .ok (.putfield 25, 3) := by decide +kernel
theorem dX7_init_40 : decode cX7_init 40 = .ok (.aload_n 0, 1) := by decide +kernel
theorem dX7_init_41 : decode cX7_init 41 = .ok (.aload_n 3, 1) := by decide +kernel
theorem dX7_init_42 : decode cX7_init 42 = .ok (.putfield 29, 3) := by decide +kernel
theorem dX7_init_45 : decode cX7_init 45 = .ok (.aload_n 0, 1) := by decide +kernel
theorem dX7_init_46 : decode cX7_init 46 = .ok (.aload 4, 2) := by decide +kernel
theorem dX7_init_48 : decode cX7_init 48 = .ok (.putfield 33, 3) := by decide +kernel
theorem dX7_init_51 : decode cX7_init 51 = .ok (.return_, 1) := by decide +kernel
theorem dX7_make_0 : decode cX7_make 0 = .ok (.aload_n 0, 1) := by decide +kernel
theorem dX7_make_1 : decode cX7_make 1 = .ok (.getfield 36, 3) := by decide +kernel
theorem dX7_make_4 : decode cX7_make 4 = .ok (.ifCond .eq 4, 3) := by decide +kernel
theorem dX7_make_7 : decode cX7_make 7 = .ok (.return_, 1) := by decide +kernel
theorem dX7_make_8 : decode cX7_make 8 = .ok (.aload_n 0, 1) := by decide +kernel
theorem dX7_make_9 : decode cX7_make 9 = .ok (.getfield 21, 3) := by decide +kernel
theorem dX7_make_12 : decode cX7_make 12 = .ok (.getfield 40, 3) := by decide +kernel
theorem dX7_make_15 : decode cX7_make 15 = .ok (.iconst 1, 1) := by decide +kernel
theorem dX7_make_16 : decode cX7_make 16 = .ok (.isub, 1) := by decide +kernel
theorem dX7_make_17 : decode cX7_make 17 = .ok (.istore_n 1, 1) := by decide +kernel
theorem dX7_make_18 : decode cX7_make 18 = .ok (.iload_n 1, 1) := by decide +kernel
theorem dX7_make_19 : decode cX7_make 19 = .ok (.ifCond .lt 36, 3) := by decide +kernel
theorem dX7_make_22 : decode cX7_make 22 = .ok (.aload_n 0, 1) := by decide +kernel
theorem dX7_make_23 : decode cX7_make 23 = .ok (.getfield 29, 3) := by decide +kernel
theorem dX7_make_26 : decode cX7_make 26 = .ok (.iload_n 1, 1) := by decide +kernel
theorem dX7_make_27 : decode cX7_make 27 = .ok (.invokevirtual 46, 3) := by decide +kernel
theorem dX7_make_30 : decode cX7_make 30 = .ok (.iconst 0, 1) := by decide +kernel
theorem dX7_make_31 : decode cX7_make 31 = .ok (.istore_n 2, 1) := by decide +kernel
theorem dX7_make_32 : decode cX7_make 32 = .ok (.iload_n 2, 1) := by decide +kernel
theorem dX7_make_33 : decode cX7_make 33 = .ok (.iconst 5, 1) := by decide +kernel
theorem dX7_make_34 : decode cX7_make 34 = .ok (.if_icmp .ge 15, 3) := by decide +kernel
theorem dX7_make_37 : decode cX7_make 37 = .ok (.aload_n 0, 1) := by decide +kernel
theorem dX7_make_38 : decode cX7_make 38 = .ok (.iload_n 1, 1) := by decide +kernel
theorem dX7_make_39 : decode cX7_make 39 = .ok (.iload_n 2, 1) := by decide +kernel
theorem dX7_make_40 : decode cX7_make 40 = .ok (.invokevirtual 52, 3) := by decide +kernel
theorem dX7_make_43 : decode cX7_make 43 = .ok (.iinc 2 1, 3) := by decide +kernel
theorem dX7_make_46 : decode cX7_make 46 = .ok (.goto (-14), 3) := by decide +kernel
theorem dX7_make_49 : decode cX7_make 49 = .ok (.iinc 1 (-1), 3) := by decide +kernel
theorem dX7_make_52 : decode cX7_make 52 = .ok (.goto (-34), 3) := by decide +kernel
theorem dX7_make_55 : decode cX7_make 55 = .ok (.aload_n 0, 1) := by decide +kernel
theorem dX7_make_56 : decode cX7_make 56 = .ok (.iconst 0, 1) := by decide +kernel
theorem dX7_make_57 : decode cX7_make 57 = .ok (.putfield 56, 3) := by decide +kernel
theorem dX7_make_60 : decode cX7_make 60 = .ok (.aload_n 0, 1) := by decide +kernel
theorem dX7_make_61 : decode cX7_make 61 = .ok (.iconst 0, 1) := by decide +kernel
theorem dX7_make_62 : decode cX7_make 62 = .ok (.putfield 59, 3) := by decide +kernel
theorem dX7_make_65 : decode cX7_make 65 = .ok (.aload_n 0, 1) := by decide +kernel
theorem dX7_make_66 : decode cX7_make 66 = .ok (.iconst 0, 1) := by decide +kernel
theorem dX7_make_67 : decode cX7_make 67 = .ok (.putfield 62, 3) := by decide +kernel
theorem dX7_make_70 : decode cX7_make 70 = .ok (.aload_n 0, 1) := by decide +kernel
theorem dX7_make_71 : decode cX7_make 71 = .ok (.invokevirtual 65, 3) := by decide +kernel
theorem dX7_make_74 : decode cX7_make 74 = .ok (.aload_n 0, 1) := by decide +kernel
theorem dX7_make_75 : decode cX7_make 75 = .ok (.iconst 1, 1) := by decide +kernel
theorem dX7_make_76 : decode cX7_make 76 = .ok (.putfield 36, 3) := by decide +kernel
theorem dX7_make_79 : decode cX7_make 79 = .ok (.return_, 1) := by decide +kernel
theorem dX7_weighChoice_0 : decode cX7_weighChoice 0 = .ok (.iload_n 1, 1) := by decide +kernel
theorem dX7_weighChoice_1 : decode cX7_weighChoice 1 = .ok (.iconst 5, 1) := by decide +kernel
theorem dX7_weighChoice_2 : decode cX7_weighChoice 2 = .ok (.imul, 1) := by decide +kernel
theorem dX7_weighChoice_3 : decode cX7_weighChoice 3 = .ok (.iload_n 2, 1) := by decide +kernel
theorem dX7_weighChoice_4 : decode cX7_weighChoice 4 = .ok (.iadd, 1) := by decide +kernel
theorem dX7_weighChoice_5 : decode cX7_weighChoice 5 = .ok (.istore_n 3, 1) := by decide +kernel
theorem dX7_weighChoice_6 : decode cX7_weighChoice 6 = .ok (.aload_n 0, 1) := by decide +kernel
theorem dX7_weighChoice_7 : decode cX7_weighChoice 7 = .ok (.iload_n 1, 1) := by decide +kernel
theorem dX7_weighChoice_8 : decode cX7_weighChoice 8 = .ok (.iload_n 2, 1) := by decide +kernel
theorem dX7_weighChoice_9 : decode cX7_weighChoice 9 = .ok (.invokevirtual 68, 3) := by decide +kernel
theorem dX7_weighChoice_12 : decode cX7_weighChoice 12 = .ok (.istore 4, 2) := by decide +kernel
theorem dX7_weighChoice_14 : decode cX7_weighChoice 14 = .ok (.aload_n 0, 1) := by decide +kernel
theorem dX7_weighChoice_15 : decode cX7_weighChoice 15 = .ok (.getfield 15, 3) := by decide +kernel
theorem dX7_weighChoice_18 : decode cX7_weighChoice 18 = .ok (.iload_n 3, 1) := by decide +kernel
theorem dX7_weighChoice_19 : decode cX7_weighChoice 19 = .ok (.ldc 72, 2) := by decide +kernel
theorem dX7_weighChoice_21 : decode cX7_weighChoice 21 = .ok (.iastore, 1) := by decide +kernel
theorem dX7_weighChoice_22 : decode cX7_weighChoice 22 = .ok (.aload_n 0, 1) := by decide +kernel
theorem dX7_weighChoice_23 : decode cX7_weighChoice 23 = .ok (.getfield 18, 3) := by decide +kernel
theorem dX7_weighChoice_26 : decode cX7_weighChoice 26 = .ok (.iload_n 3, 1) := by decide +kernel
theorem dX7_weighChoice_27 : decode cX7_weighChoice 27 = .ok (.iconst 0, 1) := by decide +kernel
theorem dX7_weighChoice_28 : decode cX7_weighChoice 28 = .ok (.iastore, 1) := by decide +kernel
theorem dX7_weighChoice_29 : decode cX7_weighChoice 29 = .ok (.iload 4, 2) := by decide +kernel
theorem dX7_weighChoice_31 : decode cX7_weighChoice 31 = .ok (.iconst (-1), 1) := by decide +kernel
theorem dX7_weighChoice_32 : decode cX7_weighChoice 32 = .ok (.if_icmp .ne 9, 3) := by decide +kernel
theorem dX7_weighChoice_35 : decode cX7_weighChoice 35 = .ok (.iload_n 2, 1) := by decide +kernel
theorem dX7_weighChoice_36 : decode cX7_weighChoice 36 = .ok (.iconst 4, 1) := by decide +kernel
theorem dX7_weighChoice_37 : decode cX7_weighChoice 37 = .ok (.if_icmp .ge 4, 3) := by decide +kernel
theorem dX7_weighChoice_40 : decode cX7_weighChoice 40 = .ok (.return_, 1) := by decide +kernel
theorem dX7_weighChoice_41 : decode cX7_weighChoice 41 = .ok (.iload 4, 2) := by decide +kernel
theorem dX7_weighChoice_43 : decode cX7_weighChoice 43 = .ok (.iconst (-1), 1) := by decide +kernel
theorem dX7_weighChoice_44 : decode cX7_weighChoice 44 = .ok (.if_icmp .ne 14, 3) := by decide +kernel
theorem dX7_weighChoice_47 : decode cX7_weighChoice 47 = .ok (.aload_n 0, 1) := by decide +kernel
theorem dX7_weighChoice_48 : decode cX7_weighChoice 48 = .ok (.getfield 29, 3) := by decide +kernel
theorem dX7_weighChoice_51 : decode cX7_weighChoice 51 = .ok (.iload_n 1, 1) := by decide +kernel
theorem dX7_weighChoice_52 : decode cX7_weighChoice 52 = .ok (.invokevirtual 73, 3) := by decide +kernel
theorem dX7_weighChoice_55 : decode cX7_weighChoice 55 = .ok (.goto 12, 3) := by decide +kernel
theorem dX7_weighChoice_58 : decode cX7_weighChoice 58 = .ok (.aload_n 0, 1) := by decide +kernel
theorem dX7_weighChoice_59 : decode cX7_weighChoice 59 = .ok (.getfield 29, 3) := by decide +kernel
theorem dX7_weighChoice_62 : decode cX7_weighChoice 62 = .ok (.iload_n 1, 1) := by decide +kernel
theorem dX7_weighChoice_63 : decode cX7_weighChoice 63 = .ok (.iload_n 2, 1) := by decide +kernel
theorem dX7_weighChoice_64 : decode cX7_weighChoice 64 = .ok (.invokevirtual 77, 3) := by decide +kernel
theorem dX7_weighChoice_67 : decode cX7_weighChoice 67 = .ok (.istore 5, 2) := by decide +kernel
theorem dX7_weighChoice_69 : decode cX7_weighChoice 69 = .ok (.iload_n 1, 1) := by decide +kernel
theorem dX7_weighChoice_70 : decode cX7_weighChoice 70 = .ok (.iconst 1, 1) := by decide +kernel
theorem dX7_weighChoice_71 : decode cX7_weighChoice 71 = .ok (.iadd, 1) := by decide +kernel
theorem dX7_weighChoice_72 : decode cX7_weighChoice 72 = .ok (.aload_n 0, 1) := by decide +kernel
theorem dX7_weighChoice_73 : decode cX7_weighChoice 73 = .ok (.getfield 21, 3) := by decide +kernel
theorem dX7_weighChoice_76 : decode cX7_weighChoice 76 = .ok (.getfield 40, 3) := by decide +kernel
theorem dX7_weighChoice_79 : decode cX7_weighChoice 79 = .ok (.if_icmp .lt 12, 3) := by decide +kernel
theorem dX7_weighChoice_82 : decode cX7_weighChoice 82 = .ok (.aload_n 0, 1) := by decide +kernel
theorem dX7_weighChoice_83 : decode cX7_weighChoice 83 = .ok (.getfield 15, 3) := by decide +kernel
theorem dX7_weighChoice_86 : decode cX7_weighChoice 86 = .ok (.iload_n 3, 1) := by decide +kernel
theorem dX7_weighChoice_87 : decode cX7_weighChoice 87 = .ok (.iload 5, 2) := by decide +kernel
theorem dX7_weighChoice_89 : decode cX7_weighChoice 89 = .ok (.iastore, 1) := by decide +kernel
theorem dX7_weighChoice_90 : decode cX7_weighChoice 90 = .ok (.return_, 1) := by decide +kernel
theorem dX7_weighChoice_91 : decode cX7_weighChoice 91 = .ok (.iconst 0, 1) := by decide +kernel
theorem dX7_weighChoice_92 : decode cX7_weighChoice 92 = .ok (.istore 6, 2) := by decide +kernel
theorem dX7_weighChoice_94 : decode cX7_weighChoice 94 = .ok (.iload 6, 2) := by decide +kernel
theorem dX7_weighChoice_96 : decode cX7_weighChoice 96 = .ok (.iconst 5, 1) := by decide +kernel
theorem dX7_weighChoice_97 : decode cX7_weighChoice 97 = .ok (.if_icmp .ge 81, 3) := by decide +kernel
theorem dX7_weighChoice_100 : decode cX7_weighChoice 100 = .ok (.aload_n 0, 1) := by decide +kernel
theorem dX7_weighChoice_101 : decode cX7_weighChoice 101 = .ok (.getfield 15, 3) := by decide +kernel
theorem dX7_weighChoice_104 : decode cX7_weighChoice 104 = .ok (.iload_n 1, 1) := by decide +kernel
theorem dX7_weighChoice_105 : decode cX7_weighChoice 105 = .ok (.iconst 1, 1) := by decide +kernel
theorem dX7_weighChoice_106 : decode cX7_weighChoice 106 = .ok (.iadd, 1) := by decide +kernel
theorem dX7_weighChoice_107 : decode cX7_weighChoice 107 = .ok (.iconst 5, 1) := by decide +kernel
theorem dX7_weighChoice_108 : decode cX7_weighChoice 108 = .ok (.imul, 1) := by decide +kernel
theorem dX7_weighChoice_109 : decode cX7_weighChoice 109 = .ok (.iload 6, 2) := by decide +kernel
theorem dX7_weighChoice_111 : decode cX7_weighChoice 111 = .ok (.iadd, 1) := by decide +kernel
theorem dX7_weighChoice_112 : decode cX7_weighChoice 112 = .ok (.iaload, 1) := by decide +kernel
theorem dX7_weighChoice_113 : decode cX7_weighChoice 113 = .ok (.istore 7, 2) := by decide +kernel
theorem dX7_weighChoice_115 : decode cX7_weighChoice 115 = .ok (.iload 5, 2) := by decide +kernel
theorem dX7_weighChoice_117 : decode cX7_weighChoice 117 = .ok (.iload 7, 2) := by decide +kernel
theorem dX7_weighChoice_119 : decode cX7_weighChoice 119 = .ok (.iadd, 1) := by decide +kernel
theorem dX7_weighChoice_120 : decode cX7_weighChoice 120 = .ok (.aload_n 0, 1) := by decide +kernel
theorem dX7_weighChoice_121 : decode cX7_weighChoice 121 = .ok (.iload 4, 2) := by decide +kernel
theorem dX7_weighChoice_123 : decode cX7_weighChoice 123 = .ok (.aload_n 0, 1) := by decide +kernel
theorem dX7_weighChoice_124 : decode cX7_weighChoice 124 = .ok (.iload_n 1, 1) := by decide +kernel
theorem dX7_weighChoice_125 : decode cX7_weighChoice 125 = .ok (.iconst 1, 1) := by decide +kernel
theorem dX7_weighChoice_126 : decode cX7_weighChoice 126 = .ok (.iadd, 1) := by decide +kernel
theorem dX7_weighChoice_127 : decode cX7_weighChoice 127 = .ok (.iload 6, 2) := by decide +kernel
theorem dX7_weighChoice_129 : decode cX7_weighChoice 129 = .ok (.invokevirtual 68, 3) := by decide +kernel
theorem dX7_weighChoice_132 : decode cX7_weighChoice 132 = .ok (.invokevirtual 80, 3) := by decide +kernel
theorem dX7_weighChoice_135 : decode cX7_weighChoice 135 = .ok (.iadd, 1) := by decide +kernel
theorem dX7_weighChoice_136 : decode cX7_weighChoice 136 = .ok (.istore 8, 2) := by decide +kernel
theorem dX7_weighChoice_138 : decode cX7_weighChoice 138 = .ok (.iload 7, 2) := by decide +kernel
theorem dX7_weighChoice_140 : decode cX7_weighChoice 140 = .ok (.ldc 72, 2) := by decide +kernel
theorem dX7_weighChoice_142 : decode cX7_weighChoice 142 = .ok (.if_icmp .ge 30, 3) := by decide +kernel
theorem dX7_weighChoice_145 : decode cX7_weighChoice 145 = .ok (.iload 8, 2) := by decide +kernel
theorem dX7_weighChoice_147 : decode cX7_weighChoice 147 = .ok (.aload_n 0, 1) := by decide +kernel
theorem dX7_weighChoice_148 : decode cX7_weighChoice 148 = .ok (.getfield 15, 3) := by decide +kernel
theorem dX7_weighChoice_151 : decode cX7_weighChoice 151 = .ok (.iload_n 3, 1) := by decide +kernel
theorem dX7_weighChoice_152 : decode cX7_weighChoice 152 = .ok (.iaload, 1) := by decide +kernel
theorem dX7_weighChoice_153 : decode cX7_weighChoice 153 = .ok (.if_icmp .ge 19, 3) := by decide +kernel
theorem dX7_weighChoice_156 : decode cX7_weighChoice 156 = .ok (.aload_n 0, 1) := by decide +kernel
theorem dX7_weighChoice_157 : decode cX7_weighChoice 157 = .ok (.getfield 15, 3) := by decide +kernel
theorem dX7_weighChoice_160 : decode cX7_weighChoice 160 = .ok (.iload_n 3, 1) := by decide +kernel
theorem dX7_weighChoice_161 : decode cX7_weighChoice 161 = .ok (.iload 8, 2) := by decide +kernel
theorem dX7_weighChoice_163 : decode cX7_weighChoice 163 = .ok (.iastore, 1) := by decide +kernel
theorem dX7_weighChoice_164 : decode cX7_weighChoice 164 = .ok (.aload_n 0, 1) := by decide +kernel
theorem dX7_weighChoice_165 : decode cX7_weighChoice 165 = .ok (.getfield 18, 3) := by decide +kernel
theorem dX7_weighChoice_168 : decode cX7_weighChoice 168 = .ok (.iload_n 3, 1) := by decide +kernel
theorem dX7_weighChoice_169 : decode cX7_weighChoice 169 = .ok (.iload 6, 2) := by decide +kernel
theorem dX7_weighChoice_171 : decode cX7_weighChoice 171 = .ok (.iastore, 1) := by decide +kernel
theorem dX7_weighChoice_172 : decode cX7_weighChoice 172 = .ok (.iinc 6 1, 3) := by decide +kernel
theorem dX7_weighChoice_175 : decode cX7_weighChoice 175 = .ok (.goto (-81), 3) := by decide +kernel
theorem dX7_weighChoice_178 : decode cX7_weighChoice 178 = .ok (.return_, 1) := by decide +kernel
theorem dX7_wordOfChoice_0 : decode cX7_wordOfChoice 0 = .ok (.iload_n 2, 1) := by decide +kernel
theorem dX7_wordOfChoice_1 : decode cX7_wordOfChoice 1 = .ok (.iconst 4, 1) := by decide +kernel
theorem dX7_wordOfChoice_2 : decode cX7_wordOfChoice 2 = .ok (.if_icmp .ge 15, 3) := by decide +kernel
theorem dX7_wordOfChoice_5 : decode cX7_wordOfChoice 5 = .ok (.aload_n 0, 1) := by decide +kernel
theorem dX7_wordOfChoice_6 : decode cX7_wordOfChoice 6 = .ok (.getfield 29, 3) := by decide +kernel
theorem dX7_wordOfChoice_9 : decode cX7_wordOfChoice 9 = .ok (.iload_n 1, 1) := by decide +kernel
theorem dX7_wordOfChoice_10 : decode cX7_wordOfChoice 10 = .ok (.iload_n 2, 1) := by decide +kernel
theorem dX7_wordOfChoice_11 : decode cX7_wordOfChoice 11 = .ok (.invokevirtual 83, 3) := by decide +kernel
theorem dX7_wordOfChoice_14 : decode cX7_wordOfChoice 14 = .ok (.goto 4, 3) := by decide +kernel
theorem dX7_wordOfChoice_17 : decode cX7_wordOfChoice 17 = .ok (.iconst (-1), 1) := by decide +kernel
theorem dX7_wordOfChoice_18 : decode cX7_wordOfChoice 18 = .ok (.ireturn, 1) := by decide +kernel
theorem dX7_between_0 : decode cX7_between 0 = .ok (.iload_n 1, 1) := by decide +kernel
theorem dX7_between_1 : decode cX7_between 1 = .ok (.iconst (-1), 1) := by decide +kernel
theorem dX7_between_2 : decode cX7_between 2 = .ok (.if_icmp .eq 8, 3) := by decide +kernel
theorem dX7_between_5 : decode cX7_between 5 = .ok (.iload_n 2, 1) := by decide +kernel
theorem dX7_between_6 : decode cX7_between 6 = .ok (.iconst (-1), 1) := by decide +kernel
theorem dX7_between_7 : decode cX7_between 7 = .ok (.if_icmp .ne 7, 3) := by decide +kernel
theorem dX7_between_10 : decode cX7_between 10 = .ok (.iconst 0, 1) := by decide +kernel
theorem dX7_between_11 : decode cX7_between 11 = .ok (.goto 19, 3) := by decide +kernel
theorem dX7_between_14 : decode cX7_between 14 = .ok (.aload_n 0, 1) := by decide +kernel
theorem dX7_between_15 : decode cX7_between 15 = .ok (.getfield 25, 3) := by decide +kernel
theorem dX7_between_18 : decode cX7_between 18 = .ok (.iload_n 1, 1) := by decide +kernel
theorem dX7_between_19 : decode cX7_between 19 = .ok (.iload_n 2, 1) := by decide +kernel
theorem dX7_between_20 : decode cX7_between 20 = .ok (.aload_n 0, 1) := by decide +kernel
theorem dX7_between_21 : decode cX7_between 21 = .ok (.getfield 33, 3) := by decide +kernel
theorem dX7_between_24 : decode cX7_between 24 = .ok (.bipush 6, 2) := by decide +kernel
theorem dX7_between_26 : decode cX7_between 26 = .ok (.iaload, 1) := by decide +kernel
theorem dX7_between_27 : decode cX7_between 27 = .ok (.invokevirtual 86, 3) := by decide +kernel
theorem dX7_between_30 : decode cX7_between 30 = .ok (.ireturn, 1) := by decide +kernel
theorem dX7_say_0 : decode cX7_say 0 = .ok (.aload_n 0, 1) := by decide +kernel
theorem dX7_say_1 : decode cX7_say 1 = .ok (.getfield 21, 3) := by decide +kernel
theorem dX7_say_4 : decode cX7_say 4 = .ok (.getfield 40, 3) := by decide +kernel
theorem dX7_say_7 : decode cX7_say 7 = .ok (.ifCond .ne 4, 3) := by decide +kernel
theorem dX7_say_10 : decode cX7_say 10 = .ok (.return_, 1) := by decide +kernel
theorem dX7_say_11 : decode cX7_say 11 = .ok (.iconst 0, 1) := by decide +kernel
theorem dX7_say_12 : decode cX7_say 12 = .ok (.istore_n 1, 1) := by decide +kernel
theorem dX7_say_13 : decode cX7_say 13 = .ok (.iconst 1, 1) := by decide +kernel
theorem dX7_say_14 : decode cX7_say 14 = .ok (.istore_n 2, 1) := by decide +kernel
theorem dX7_say_15 : decode cX7_say 15 = .ok (.iload_n 2, 1) := by decide +kernel
theorem dX7_say_16 : decode cX7_say 16 = .ok (.iconst 5, 1) := by decide +kernel
theorem dX7_say_17 : decode cX7_say 17 = .ok (.if_icmp .ge 26, 3) := by decide +kernel
theorem dX7_say_20 : decode cX7_say 20 = .ok (.aload_n 0, 1) := by decide +kernel
theorem dX7_say_21 : decode cX7_say 21 = .ok (.getfield 15, 3) := by decide +kernel
theorem dX7_say_24 : decode cX7_say 24 = .ok (.iload_n 2, 1) := by decide +kernel
theorem dX7_say_25 : decode cX7_say 25 = .ok (.iaload, 1) := by decide +kernel
theorem dX7_say_26 : decode cX7_say 26 = .ok (.aload_n 0, 1) := by decide +kernel
theorem dX7_say_27 : decode cX7_say 27 = .ok (.getfield 15, 3) := by decide +kernel
theorem dX7_say_30 : decode cX7_say 30 = .ok (.iload_n 1, 1) := by decide +kernel
theorem dX7_say_31 : decode cX7_say 31 = .ok (.iaload, 1) := by decide +kernel
theorem dX7_say_32 : decode cX7_say 32 = .ok (.if_icmp .ge 5, 3) := by decide +kernel
theorem dX7_say_35 : decode cX7_say 35 = .ok (.iload_n 2, 1) := by decide +kernel
theorem dX7_say_36 : decode cX7_say 36 = .ok (.istore_n 1, 1) := by decide +kernel
theorem dX7_say_37 : decode cX7_say 37 = .ok (.iinc 2 1, 3) := by decide +kernel
theorem dX7_say_40 : decode cX7_say 40 = .ok (.goto (-25), 3) := by decide +kernel
theorem dX7_say_43 : decode cX7_say 43 = .ok (.aload_n 0, 1) := by decide +kernel
theorem dX7_say_44 : decode cX7_say 44 = .ok (.aload_n 0, 1) := by decide +kernel
theorem dX7_say_45 : decode cX7_say 45 = .ok (.getfield 15, 3) := by decide +kernel
theorem dX7_say_48 : decode cX7_say 48 = .ok (.iload_n 1, 1) := by decide +kernel
theorem dX7_say_49 : decode cX7_say 49 = .ok (.iaload, 1) := by decide +kernel
theorem dX7_say_50 : decode cX7_say 50 = .ok (.putfield 56, 3) := by decide +kernel
theorem dX7_say_53 : decode cX7_say 53 = .ok (.iconst 0, 1) := by decide +kernel
theorem dX7_say_54 : decode cX7_say 54 = .ok (.istore_n 2, 1) := by decide +kernel
theorem dX7_say_55 : decode cX7_say 55 = .ok (.iload_n 2, 1) := by decide +kernel
theorem dX7_say_56 : decode cX7_say 56 = .ok (.aload_n 0, 1) := by decide +kernel
theorem dX7_say_57 : decode cX7_say 57 = .ok (.getfield 21, 3) := by decide +kernel
theorem dX7_say_60 : decode cX7_say 60 = .ok (.getfield 40, 3) := by decide +kernel
theorem dX7_say_63 : decode cX7_say 63 = .ok (.if_icmp .ge 79, 3) := by decide +kernel
theorem dX7_say_66 : decode cX7_say 66 = .ok (.aload_n 0, 1) := by decide +kernel
theorem dX7_say_67 : decode cX7_say 67 = .ok (.iload_n 2, 1) := by decide +kernel
theorem dX7_say_68 : decode cX7_say 68 = .ok (.iload_n 1, 1) := by decide +kernel
theorem dX7_say_69 : decode cX7_say 69 = .ok (.invokevirtual 68, 3) := by decide +kernel
theorem dX7_say_72 : decode cX7_say 72 = .ok (.istore_n 3, 1) := by decide +kernel
theorem dX7_say_73 : decode cX7_say 73 = .ok (.aload_n 0, 1) := by decide +kernel
theorem dX7_say_74 : decode cX7_say 74 = .ok (.getfield 11, 3) := by decide +kernel
theorem dX7_say_77 : decode cX7_say 77 = .ok (.iload_n 2, 1) := by decide +kernel
theorem dX7_say_78 : decode cX7_say 78 = .ok (.iload_n 3, 1) := by decide +kernel
theorem dX7_say_79 : decode cX7_say 79 = .ok (.iastore, 1) := by decide +kernel
theorem dX7_say_80 : decode cX7_say 80 = .ok (.aload_n 0, 1) := by decide +kernel
theorem dX7_say_81 : decode cX7_say 81 = .ok (.dup, 1) := by decide +kernel
theorem dX7_say_82 : decode cX7_say 82 = .ok (.getfield 62, 3) := by decide +kernel
theorem dX7_say_85 : decode cX7_say 85 = .ok (.iload_n 3, 1) := by decide +kernel
theorem dX7_say_86 : decode cX7_say 86 = .ok (.iconst (-1), 1) := by decide +kernel
theorem dX7_say_87 : decode cX7_say 87 = .ok (.if_icmp .ne 7, 3) := by decide +kernel
theorem dX7_say_90 : decode cX7_say 90 = .ok (.iconst 1, 1) := by decide +kernel
theorem dX7_say_91 : decode cX7_say 91 = .ok (.goto 4, 3) := by decide +kernel
theorem dX7_say_94 : decode cX7_say 94 = .ok (.iconst 0, 1) := by decide +kernel
theorem dX7_say_95 : decode cX7_say 95 = .ok (.iadd, 1) := by decide +kernel
theorem dX7_say_96 : decode cX7_say 96 = .ok (.putfield 62, 3) := by decide +kernel
theorem dX7_say_99 : decode cX7_say 99 = .ok (.aload_n 0, 1) := by decide +kernel
theorem dX7_say_100 : decode cX7_say 100 = .ok (.dup, 1) := by decide +kernel
theorem dX7_say_101 : decode cX7_say 101 = .ok (.getfield 59, 3) := by decide +kernel
theorem dX7_say_104 : decode cX7_say 104 = .ok (.iload_n 3, 1) := by decide +kernel
theorem dX7_say_105 : decode cX7_say 105 = .ok (.aload_n 0, 1) := by decide +kernel
theorem dX7_say_106 : decode cX7_say 106 = .ok (.getfield 29, 3) := by decide +kernel
theorem dX7_say_109 : decode cX7_say 109 = .ok (.iload_n 2, 1) := by decide +kernel
theorem dX7_say_110 : decode cX7_say 110 = .ok (.invokevirtual 92, 3) := by decide +kernel
theorem dX7_say_113 : decode cX7_say 113 = .ok (.if_icmp .ne 7, 3) := by decide +kernel
theorem dX7_say_116 : decode cX7_say 116 = .ok (.iconst 0, 1) := by decide +kernel
theorem dX7_say_117 : decode cX7_say 117 = .ok (.goto 4, 3) := by decide +kernel
theorem dX7_say_120 : decode cX7_say 120 = .ok (.iconst 1, 1) := by decide +kernel
theorem dX7_say_121 : decode cX7_say 121 = .ok (.iadd, 1) := by decide +kernel
theorem dX7_say_122 : decode cX7_say 122 = .ok (.putfield 59, 3) := by decide +kernel
theorem dX7_say_125 : decode cX7_say 125 = .ok (.aload_n 0, 1) := by decide +kernel
theorem dX7_say_126 : decode cX7_say 126 = .ok (.getfield 18, 3) := by decide +kernel
theorem dX7_say_129 : decode cX7_say 129 = .ok (.iload_n 2, 1) := by decide +kernel
theorem dX7_say_130 : decode cX7_say 130 = .ok (.iconst 5, 1) := by decide +kernel
theorem dX7_say_131 : decode cX7_say 131 = .ok (.imul, 1) := by decide +kernel
theorem dX7_say_132 : decode cX7_say 132 = .ok (.iload_n 1, 1) := by decide +kernel
theorem dX7_say_133 : decode cX7_say 133 = .ok (.iadd, 1) := by decide +kernel
theorem dX7_say_134 : decode cX7_say 134 = .ok (.iaload, 1) := by decide +kernel
theorem dX7_say_135 : decode cX7_say 135 = .ok (.istore_n 1, 1) := by decide +kernel
theorem dX7_say_136 : decode cX7_say 136 = .ok (.iinc 2 1, 3) := by decide +kernel
theorem dX7_say_139 : decode cX7_say 139 = .ok (.goto (-84), 3) := by decide +kernel
theorem dX7_say_142 : decode cX7_say 142 = .ok (.return_, 1) := by decide +kernel
theorem dX8_init_0 : decode cX8_init 0 = .ok (.aload_n 0, 1) := by decide +kernel
theorem dX8_init_1 : decode cX8_init 1 = .ok (.invokespecial 3, 3) := by decide +kernel
theorem dX8_init_4 : decode cX8_init 4 = .ok (.aload_n 0, 1) := by decide +kernel
theorem dX8_init_5 : decode cX8_init 5 = .ok (.bipush 20, 2) := by decide +kernel
theorem dX8_init_7 : decode cX8_init 7 = .ok (.newarray .int, 2) := by decide +kernel
theorem dX8_init_9 : decode cX8_init 9 = .ok (.putfield 9, 3) := by decide +kernel
theorem dX8_init_12 : decode cX8_init 12 = .ok (.aload_n 0, 1) := by decide +kernel
theorem dX8_init_13 : decode cX8_init 13 = .ok (.bipush 20, 2) := by decide +kernel
theorem dX8_init_15 : decode cX8_init 15 = .ok (.newarray .int, 2) := by decide +kernel
theorem dX8_init_17 : decode cX8_init 17 = .ok (.putfield 15, 3) := by decide +kernel
theorem dX8_init_20 : decode cX8_init 20 = .ok (.aload_n 0, 1) := by decide +kernel
theorem dX8_init_21 : decode cX8_init 21 = .ok (.bipush 20, 2) := by decide +kernel
theorem dX8_init_23 : decode cX8_init 23 = .ok (.newarray .int, 2) := by decide +kernel
theorem dX8_init_25 : decode cX8_init 25 = .ok (.putfield 18, 3) := by decide +kernel
theorem dX8_init_28 : decode cX8_init 28 = .ok (.aload_n 0, 1) := by decide +kernel
theorem dX8_init_29 : decode cX8_init 29 = .ok (.bipush 60, 2) := by decide +kernel
theorem dX8_init_31 : decode cX8_init 31 = .ok (.newarray .int, 2) := by decide +kernel
theorem dX8_init_33 : decode cX8_init 33 = .ok (.putfield 21, 3) := by decide +kernel
theorem dX8_init_36 : decode cX8_init 36 = .ok (.aload_n 0, 1) := by decide +kernel
theorem dX8_init_37 : decode cX8_init 37 = .ok (.bipush 60, 2) := by decide +kernel
theorem dX8_init_39 : decode cX8_init 39 = .ok (.newarray .int, 2) := by decide +kernel
theorem dX8_init_41 : decode cX8_init 41 = .ok (.putfield 24, 3) := by decide +kernel
theorem dX8_init_44 : decode cX8_init 44 = .ok (.return_, 1) := by decide +kernel
theorem dX8_readText_0 : decode cX8_readText 0 = .ok (.aload_n 0, 1) := by decide +kernel
theorem dX8_readText_1 : decode cX8_readText 1 = .ok (.iconst 0, 1) := by decide +kernel
theorem dX8_readText_2 : decode cX8_readText 2 = .ok (.putfield 27, 3) := by decide +kernel
theorem dX8_readText_5 : decode cX8_readText 5 = .ok (.iconst 0, 1) := by decide +kernel
theorem dX8_readText_6 : decode cX8_readText 6 = .ok (.istore_n 2, 1) := by decide +kernel
theorem dX8_readText_7 : decode cX8_readText 7 = .ok (.iload_n 2, 1) := by decide +kernel
theorem dX8_readText_8 : decode cX8_readText 8 = .ok (.bipush 20, 2) := by decide +kernel
theorem dX8_readText_10 : decode cX8_readText 10 = .ok (.if_icmp .gt 32, 3) := by decide +kernel
theorem dX8_readText_13 : decode cX8_readText 13 = .ok (.aload_n 1, 1) := by decide +kernel
theorem dX8_readText_14 : decode cX8_readText 14 = .ok (.invokevirtual 31, 3) := by decide +kernel
theorem dX8_readText_17 : decode cX8_readText 17 = .ok (.aload_n 1, 1) := by decide +kernel
theorem dX8_readText_18 : decode cX8_readText 18 = .ok (.invokevirtual 36, 3) := by decide +kernel
theorem dX8_readText_21 : decode cX8_readText 21 = .ok (.ifCond .eq 5, 3) := by decide +kernel
theorem dX8_readText_24 : decode cX8_readText 24 = .ok (.iconst 1, 1) := by decide +kernel
theorem dX8_readText_25 : decode cX8_readText 25 = .ok (.ireturn, 1) := by decide +kernel
theorem dX8_readText_26 : decode cX8_readText 26 = .ok (.aload_n 0, 1) := by decide +kernel
theorem dX8_readText_27 : decode cX8_readText 27 = .ok (.aload_n 1, 1) := by decide +kernel
theorem dX8_readText_28 : decode cX8_readText 28 = .ok (.invokevirtual 40, 3) := by decide +kernel
theorem dX8_readText_31 : decode cX8_readText 31 = .ok (.ifCond .ne 5, 3) := by decide +kernel
theorem dX8_readText_34 : decode cX8_readText 34 = .ok (.iconst 0, 1) := by decide +kernel
theorem dX8_readText_35 : decode cX8_readText 35 = .ok (.ireturn, 1) := by decide +kernel
theorem dX8_readText_36 : decode cX8_readText 36 = .ok (.iinc 2 1, 3) := by decide +kernel
theorem dX8_readText_39 : decode cX8_readText 39 = .ok (.goto (-32), 3) := by decide +kernel
theorem dX8_readText_42 : decode cX8_readText 42 = .ok (.iconst 0, 1) := by decide +kernel
theorem dX8_readText_43 : decode cX8_readText 43 = .ok (.ireturn, 1) := by decide +kernel
theorem dX8_readEntry_0 : decode cX8_readEntry 0 = .ok (.aload_n 1, 1) := by decide +kernel
theorem dX8_readEntry_1 : decode cX8_readEntry 1 = .ok (.iconst 0, 1) := by decide +kernel
theorem dX8_readEntry_2 : decode cX8_readEntry 2 = .ok (.invokevirtual 44, 3) := by decide +kernel
theorem dX8_readEntry_5 : decode cX8_readEntry 5 = .ok (.invokestatic 48, 3) := by decide +kernel
theorem dX8_readEntry_8 : decode cX8_readEntry 8 = .ok (.ifCond .ne 13, 3) := by decide +kernel
theorem dX8_readEntry_11 : decode cX8_readEntry 11 = .ok (.aload_n 1, 1) := by decide +kernel
theorem dX8_readEntry_12 : decode cX8_readEntry 12 = .ok (.iconst 1, 1) := by decide +kernel
theorem dX8_readEntry_13 : decode cX8_readEntry 13 = .ok (.aload_n 1, 1) := by decide +kernel
theorem dX8_readEntry_14 : decode cX8_readEntry 14 = .ok (.getfield 52, 3) := by decide +kernel
theorem dX8_readEntry_17 : decode cX8_readEntry 17 = .ok (.invokevirtual 55, 3) := by decide +kernel
theorem dX8_readEntry_20 : decode cX8_readEntry 20 = .ok (.ireturn, 1) := by decide +kernel
theorem dX8_readEntry_21 : decode cX8_readEntry 21 = .ok (.aload_n 0, 1) := by decide +kernel
theorem dX8_readEntry_22 : decode cX8_readEntry 22 = .ok (.getfield 27, 3) := by decide +kernel
theorem dX8_readEntry_25 : decode cX8_readEntry 25 = .ok (.bipush 20, 2) := by decide +kernel
theorem dX8_readEntry_27 : decode cX8_readEntry 27 = .ok (.if_icmp .lt 13, 3) := by decide +kernel
theorem dX8_readEntry_30 : decode cX8_readEntry 30 = .ok (.aload_n 1, 1) := by decide +kernel
theorem dX8_readEntry_31 : decode cX8_readEntry 31 = .ok (.iconst 3, 1) := by decide +kernel
theorem dX8_readEntry_32 : decode cX8_readEntry 32 = .ok (.aload_n 1, 1) := by decide +kernel
theorem dX8_readEntry_33 : decode cX8_readEntry 33 = .ok (.getfield 52, 3) := by decide +kernel
theorem dX8_readEntry_36 : decode cX8_readEntry 36 = .ok (.invokevirtual 55, 3) := by decide +kernel
theorem dX8_readEntry_39 : decode cX8_readEntry 39 = .ok (.ireturn, 1) := by decide +kernel
theorem dX8_readEntry_40 : decode cX8_readEntry 40 = .ok (.aload_n 0, 1) := by decide +kernel
theorem dX8_readEntry_41 : decode cX8_readEntry 41 = .ok (.getfield 15, 3) := by decide +kernel
theorem dX8_readEntry_44 : decode cX8_readEntry 44 = .ok (.aload_n 0, 1) := by decide +kernel
theorem dX8_readEntry_45 : decode cX8_readEntry 45 = .ok (.getfield 27, 3) := by decide +kernel
theorem dX8_readEntry_48 : decode cX8_readEntry 48 = .ok (.aload_n 0, 1) := by decide +kernel
theorem dX8_readEntry_49 : decode cX8_readEntry 49 = .ok (.aload_n 1, 1) := by decide +kernel
theorem dX8_readEntry_50 : decode cX8_readEntry 50 = .ok (.aload_n 0, 1) := by decide +kernel
theorem dX8_readEntry_51 : decode cX8_readEntry 51 = .ok (.getfield 21, 3) := by decide +kernel
theorem dX8_readEntry_54 : decode cX8_readEntry 54 = .ok (.invokevirtual 59, 3) := by decide +kernel
theorem dX8_readEntry_57 : decode cX8_readEntry 57 = .ok (.iastore, 1) := by decide +kernel
theorem dX8_readEntry_58 : decode cX8_readEntry 58 = .ok (.aload_n 0, 1) := by decide +kernel
theorem dX8_readEntry_59 : decode cX8_readEntry 59 = .ok (.getfield 15, 3) := by decide +kernel
theorem dX8_readEntry_62 : decode cX8_readEntry 62 = .ok (.aload_n 0, 1) := by decide +kernel
theorem dX8_readEntry_63 : decode cX8_readEntry 63 = .ok (.getfield 27, 3) := by decide +kernel
theorem dX8_readEntry_66 : decode cX8_readEntry 66 = .ok (.iaload, 1) := by decide +kernel
theorem dX8_readEntry_67 : decode cX8_readEntry 67 = .ok (.iconst (-1), 1) := by decide +kernel
theorem dX8_readEntry_68 : decode cX8_readEntry 68 = .ok (.if_icmp .ne 5, 3) := by decide +kernel
theorem dX8_readEntry_71 : decode cX8_readEntry 71 = .ok (.iconst 0, 1) := by decide +kernel
theorem dX8_readEntry_72 : decode cX8_readEntry 72 = .ok (.ireturn, 1) := by decide +kernel
theorem dX8_readEntry_73 : decode cX8_readEntry 73 = .ok (.aload_n 1, 1) := by decide +kernel
theorem dX8_readEntry_74 : decode cX8_readEntry 74 = .ok (.iconst 0, 1) := by decide +kernel
theorem dX8_readEntry_75 : decode cX8_readEntry 75 = .ok (.invokevirtual 44, 3) := by decide +kernel
theorem dX8_readEntry_78 : decode cX8_readEntry 78 = .ok (.bipush 61, 2) := by decide +kernel
theorem dX8_readEntry_80 : decode cX8_readEntry 80 = .ok (.if_icmp .eq 13, 3) := by decide +kernel
theorem dX8_readEntry_83 : decode cX8_readEntry 83 = .ok (.aload_n 1, 1) := by decide +kernel
theorem dX8_readEntry_84 : decode cX8_readEntry 84 = .ok (.iconst 1, 1) := by decide +kernel
theorem dX8_readEntry_85 : decode cX8_readEntry 85 = .ok (.aload_n 1, 1) := by decide +kernel
theorem dX8_readEntry_86 : decode cX8_readEntry 86 = .ok (.getfield 52, 3) := by decide +kernel
theorem dX8_readEntry_89 : decode cX8_readEntry 89 = .ok (.invokevirtual 55, 3) := by decide +kernel
theorem dX8_readEntry_92 : decode cX8_readEntry 92 = .ok (.ireturn, 1) := by decide +kernel
theorem dX8_readEntry_93 : decode cX8_readEntry 93 = .ok (.aload_n 1, 1) := by decide +kernel
theorem dX8_readEntry_94 : decode cX8_readEntry 94 = .ok (.dup, 1) := by decide +kernel
theorem dX8_readEntry_95 : decode cX8_readEntry 95 = .ok (.getfield 52, 3) := by decide +kernel
theorem dX8_readEntry_98 : decode cX8_readEntry 98 = .ok (.iconst 1, 1) := by decide +kernel
theorem dX8_readEntry_99 : decode cX8_readEntry 99 = .ok (.iadd, 1) := by decide +kernel
theorem dX8_readEntry_100 : decode cX8_readEntry 100 = .ok (.putfield 52, 3) := by decide +kernel
theorem dX8_readEntry_103 : decode cX8_readEntry 103 = .ok (.aload_n 1, 1) := by decide +kernel
theorem dX8_readEntry_104 : decode cX8_readEntry 104 = .ok (.invokevirtual 31, 3) := by decide +kernel
theorem dX8_readEntry_107 : decode cX8_readEntry 107 = .ok (.aload_n 1, 1) := by decide +kernel
theorem dX8_readEntry_108 : decode cX8_readEntry 108 = .ok (.getfield 52, 3) := by decide +kernel
theorem dX8_readEntry_111 : decode cX8_readEntry 111 = .ok (.istore_n 2, 1) := by decide +kernel
theorem dX8_readEntry_112 : decode cX8_readEntry 112 = .ok (.aload_n 0, 1) := by decide +kernel
theorem dX8_readEntry_113 : decode cX8_readEntry 113 = .ok (.getfield 18, 3) := by decide +kernel
theorem dX8_readEntry_116 : decode cX8_readEntry 116 = .ok (.aload_n 0, 1) := by decide +kernel
theorem dX8_readEntry_117 : decode cX8_readEntry 117 = .ok (.getfield 27, 3) := by decide +kernel
theorem dX8_readEntry_120 : decode cX8_readEntry 120 = .ok (.aload_n 0, 1) := by decide +kernel
theorem dX8_readEntry_121 : decode cX8_readEntry 121 = .ok (.aload_n 1, 1) := by decide +kernel
theorem dX8_readEntry_122 : decode cX8_readEntry 122 = .ok (.aload_n 0, 1) := by decide +kernel
theorem dX8_readEntry_123 : decode cX8_readEntry 123 = .ok (.getfield 24, 3) := by decide +kernel
theorem dX8_readEntry_126 : decode cX8_readEntry 126 = .ok (.invokevirtual 59, 3) := by decide +kernel
theorem dX8_readEntry_129 : decode cX8_readEntry 129 = .ok (.iastore, 1) := by decide +kernel
theorem dX8_readEntry_130 : decode cX8_readEntry 130 = .ok (.aload_n 0, 1) := by decide +kernel
theorem dX8_readEntry_131 : decode cX8_readEntry 131 = .ok (.getfield 18, 3) := by decide +kernel
theorem dX8_readEntry_134 : decode cX8_readEntry 134 = .ok (.aload_n 0, 1) := by decide +kernel
theorem dX8_readEntry_135 : decode cX8_readEntry 135 = .ok (.getfield 27, 3) := by decide +kernel
theorem dX8_readEntry_138 : decode cX8_readEntry 138 = .ok (.iaload, 1) := by decide +kernel
theorem dX8_readEntry_139 : decode cX8_readEntry 139 = .ok (.iconst (-1), 1) := by decide +kernel
theorem dX8_readEntry_140 : decode cX8_readEntry 140 = .ok (.if_icmp .ne 5, 3) := by decide +kernel
theorem dX8_readEntry_143 : decode cX8_readEntry 143 = .ok (.iconst 0, 1) := by decide +kernel
theorem dX8_readEntry_144 : decode cX8_readEntry 144 = .ok (.ireturn, 1) := by decide +kernel
theorem dX8_readEntry_145 : decode cX8_readEntry 145 = .ok (.aload_n 0, 1) := by decide +kernel
theorem dX8_readEntry_146 : decode cX8_readEntry 146 = .ok (.invokevirtual 63, 3) := by decide +kernel
theorem dX8_readEntry_149 : decode cX8_readEntry 149 = .ok (.ifCond .eq 10, 3) := by decide +kernel
theorem dX8_readEntry_152 : decode cX8_readEntry 152 = .ok (.aload_n 1, 1) := by decide +kernel
theorem dX8_readEntry_153 : decode cX8_readEntry 153 = .ok (.iconst 1, 1) := by decide +kernel
theorem dX8_readEntry_154 : decode cX8_readEntry 154 = .ok (.iload_n 2, 1) := by decide +kernel
theorem dX8_readEntry_155 : decode cX8_readEntry 155 = .ok (.invokevirtual 55, 3) := by decide +kernel
theorem dX8_readEntry_158 : decode cX8_readEntry 158 = .ok (.ireturn, 1) := by decide +kernel
theorem dX8_readEntry_159 : decode cX8_readEntry 159 = .ok (.aload_n 0, 1) := by decide +kernel
theorem dX8_readEntry_160 : decode cX8_readEntry 160 = .ok (.getfield 9, 3) := by decide +kernel
theorem dX8_readEntry_163 : decode cX8_readEntry 163 = .ok (.aload_n 0, 1) := by decide +kernel
theorem dX8_readEntry_164 : decode cX8_readEntry 164 = .ok (.getfield 27, 3) := by decide +kernel
theorem dX8_readEntry_167 : decode cX8_readEntry 167 = .ok (.aload_n 1, 1) := by decide +kernel
theorem dX8_readEntry_168 : decode cX8_readEntry 168 = .ok (.iconst 5, 1) := by decide +kernel
theorem dX8_readEntry_169 : decode cX8_readEntry 169 = .ok (.iconst 1, 1) := by decide +kernel
theorem dX8_readEntry_170 : decode cX8_readEntry 170 = .ok (.invokevirtual 66, 3) := by decide +kernel
theorem dX8_readEntry_173 : decode cX8_readEntry 173 = .ok (.iastore, 1) := by decide +kernel
theorem dX8_readEntry_174 : decode cX8_readEntry 174 = .ok (.aload_n 0, 1) := by decide +kernel
theorem dX8_readEntry_175 : decode cX8_readEntry 175 = .ok (.getfield 9, 3) := by decide +kernel
theorem dX8_readEntry_178 : decode cX8_readEntry 178 = .ok (.aload_n 0, 1) := by decide +kernel
theorem dX8_readEntry_179 : decode cX8_readEntry 179 = .ok (.getfield 27, 3) := by decide +kernel
theorem dX8_readEntry_182 : decode cX8_readEntry 182 = .ok (.iaload, 1) := by decide +kernel
theorem dX8_readEntry_183 : decode cX8_readEntry 183 = .ok (.iconst (-1), 1) := by decide +kernel
theorem dX8_readEntry_184 : decode cX8_readEntry 184 = .ok (.if_icmp .ne 5, 3) := by decide +kernel
theorem dX8_readEntry_187 : decode cX8_readEntry 187 = .ok (.iconst 0, 1) := by decide +kernel
theorem dX8_readEntry_188 : decode cX8_readEntry 188 = .ok (.ireturn, 1) := by decide +kernel
theorem dX8_readEntry_189 : decode cX8_readEntry 189 = .ok (.aload_n 0, 1) := by decide +kernel
theorem dX8_readEntry_190 : decode cX8_readEntry 190 = .ok (.dup, 1) := by decide +kernel
theorem dX8_readEntry_191 : decode cX8_readEntry 191 = .ok (.getfield 27, 3) := by decide +kernel
theorem dX8_readEntry_194 : decode cX8_readEntry 194 = .ok (.iconst 1, 1) := by decide +kernel
theorem dX8_readEntry_195 : decode cX8_readEntry 195 = .ok (.iadd, 1) := by decide +kernel
theorem dX8_readEntry_196 : decode cX8_readEntry 196 = .ok (.putfield 27, 3) := by decide +kernel
theorem dX8_readEntry_199 : decode cX8_readEntry 199 = .ok (.iconst 1, 1) := by decide +kernel
theorem dX8_readEntry_200 : decode cX8_readEntry 200 = .ok (.ireturn, 1) := by decide +kernel
theorem dX8_readPart_0 : decode cX8_readPart 0 = .ok (.iconst 0, 1) := by decide +kernel
theorem dX8_readPart_1 : decode cX8_readPart 1 = .ok (.istore_n 3, 1) := by decide +kernel
theorem dX8_readPart_2 : decode cX8_readPart 2 = .ok (.iload_n 3, 1) := by decide +kernel
theorem dX8_readPart_3 : decode cX8_readPart 3 = .ok (.iconst 3, 1) := by decide +kernel
theorem dX8_readPart_4 : decode cX8_readPart 4 = .ok (.if_icmp .gt 80, 3) := by decide +kernel
theorem dX8_readPart_7 : decode cX8_readPart 7 = .ok (.aload_n 1, 1) := by decide +kernel
theorem dX8_readPart_8 : decode cX8_readPart 8 = .ok (.iconst 0, 1) := by decide +kernel
theorem dX8_readPart_9 : decode cX8_readPart 9 = .ok (.invokevirtual 44, 3) := by decide +kernel
theorem dX8_readPart_12 : decode cX8_readPart 12 = .ok (.invokestatic 48, 3) := by decide +kernel
theorem dX8_readPart_15 : decode cX8_readPart 15 = .ok (.ifCond .ne 21, 3) := by decide +kernel
theorem dX8_readPart_18 : decode cX8_readPart 18 = .ok (.iload_n 3, 1) := by decide +kernel
theorem dX8_readPart_19 : decode cX8_readPart 19 = .ok (.ifCond .le 5, 3) := by decide +kernel
theorem dX8_readPart_22 : decode cX8_readPart 22 = .ok (.iload_n 3, 1) := by decide +kernel
theorem dX8_readPart_23 : decode cX8_readPart 23 = .ok (.ireturn, 1) := by decide +kernel
theorem dX8_readPart_24 : decode cX8_readPart 24 = .ok (.aload_n 1, 1) := by decide +kernel
theorem dX8_readPart_25 : decode cX8_readPart 25 = .ok (.iconst 1, 1) := by decide +kernel
theorem dX8_readPart_26 : decode cX8_readPart 26 = .ok (.aload_n 1, 1) := by decide +kernel
theorem dX8_readPart_27 : decode cX8_readPart 27 = .ok (.getfield 52, 3) := by decide +kernel
theorem dX8_readPart_30 : decode cX8_readPart 30 = .ok (.invokevirtual 55, 3) := by decide +kernel
theorem dX8_readPart_33 : decode cX8_readPart 33 = .ok (.pop, 1) := by decide +kernel
theorem dX8_readPart_34 : decode cX8_readPart 34 = .ok (.iconst (-1), 1) := by decide +kernel
theorem dX8_readPart_35 : decode cX8_readPart 35 = .ok (.ireturn, 1) := by decide +kernel
theorem dX8_readPart_36 : decode cX8_readPart 36 = .ok (.iload_n 3, 1) := by decide +kernel
theorem dX8_readPart_37 : decode cX8_readPart 37 = .ok (.iconst 3, 1) := by decide +kernel
theorem dX8_readPart_38 : decode cX8_readPart 38 = .ok (.if_icmp .ne 15, 3) := by decide +kernel
theorem dX8_readPart_41 : decode cX8_readPart 41 = .ok (.aload_n 1, 1) := by decide +kernel
theorem dX8_readPart_42 : decode cX8_readPart 42 = .ok (.iconst 3, 1) := by decide +kernel
theorem dX8_readPart_43 : decode cX8_readPart 43 = .ok (.aload_n 1, 1) := by decide +kernel
theorem dX8_readPart_44 : decode cX8_readPart 44 = .ok (.getfield 52, 3) := by decide +kernel
theorem dX8_readPart_47 : decode cX8_readPart 47 = .ok (.invokevirtual 55, 3) := by decide +kernel
theorem dX8_readPart_50 : decode cX8_readPart 50 = .ok (.pop, 1) := by decide +kernel
theorem dX8_readPart_51 : decode cX8_readPart 51 = .ok (.iconst (-1), 1) := by decide +kernel
theorem dX8_readPart_52 : decode cX8_readPart 52 = .ok (.ireturn, 1) := by decide +kernel
theorem dX8_readPart_53 : decode cX8_readPart 53 = .ok (.aload_n 2, 1) := by decide +kernel
theorem dX8_readPart_54 : decode cX8_readPart 54 = .ok (.aload_n 0, 1) := by decide +kernel
theorem dX8_readPart_55 : decode cX8_readPart 55 = .ok (.getfield 27, 3) := by decide +kernel
theorem dX8_readPart_58 : decode cX8_readPart 58 = .ok (.iconst 3, 1) := by decide +kernel
theorem dX8_readPart_59 : decode cX8_readPart 59 = .ok (.imul, 1) := by decide +kernel
theorem dX8_readPart_60 : decode cX8_readPart 60 = .ok (.iload_n 3, 1) := by decide +kernel
theorem dX8_readPart_61 : decode cX8_readPart 61 = .ok (.iadd, 1) := by decide +kernel
theorem dX8_readPart_62 : decode cX8_readPart 62 = .ok (.aload_n 1, 1) := by decide +kernel
theorem dX8_readPart_63 : decode cX8_readPart 63 = .ok (.iconst 0, 1) := by decide +kernel
theorem dX8_readPart_64 : decode cX8_readPart 64 = .ok (.invokevirtual 44, 3) := by decide +kernel
theorem dX8_readPart_67 : decode cX8_readPart 67 = .ok (.iastore, 1) := by decide +kernel
theorem dX8_readPart_68 : decode cX8_readPart 68 = .ok (.aload_n 1, 1) := by decide +kernel
theorem dX8_readPart_69 : decode cX8_readPart 69 = .ok (.dup, 1) := by decide +kernel
theorem dX8_readPart_70 : decode cX8_readPart 70 = .ok (.getfield 52, 3) := by decide +kernel
theorem dX8_readPart_73 : decode cX8_readPart 73 = .ok (.iconst 1, 1) := by decide +kernel
theorem dX8_readPart_74 : decode cX8_readPart 74 = .ok (.iadd, 1) := by decide +kernel
theorem dX8_readPart_75 : decode cX8_readPart 75 = .ok (.putfield 52, 3) := by decide +kernel
theorem dX8_readPart_78 : decode cX8_readPart 78 = .ok (.iinc 3 1, 3) := by decide +kernel
theorem dX8_readPart_81 : decode cX8_readPart 81 = .ok (.goto (-79), 3) := by decide +kernel
theorem dX8_readPart_84 : decode cX8_readPart 84 = .ok (.iconst (-1), 1) := by decide +kernel
theorem dX8_readPart_85 : decode cX8_readPart 85 = .ok (.ireturn, 1) := by decide +kernel
theorem dX8_partsAlike_0 : decode cX8_partsAlike 0 = .ok (.aload_n 0, 1) := by decide +kernel
theorem dX8_partsAlike_1 : decode cX8_partsAlike 1 = .ok (.getfield 15, 3) := by decide +kernel
theorem dX8_partsAlike_4 : decode cX8_partsAlike 4 = .ok (.aload_n 0, 1) := by decide +kernel
theorem dX8_partsAlike_5 : decode cX8_partsAlike 5 = .ok (.getfield 27, 3) := by decide +kernel
theorem dX8_partsAlike_8 : decode cX8_partsAlike 8 = .ok (.iaload, 1) := by decide +kernel
theorem dX8_partsAlike_9 : decode cX8_partsAlike 9 = .ok (.aload_n 0, 1) := by decide +kernel
theorem dX8_partsAlike_10 : decode cX8_partsAlike 10 = .ok (.getfield 18, 3) := by decide +kernel
theorem dX8_partsAlike_13 : decode cX8_partsAlike 13 = .ok (.aload_n 0, 1) := by decide +kernel
theorem dX8_partsAlike_14 : decode cX8_partsAlike 14 = .ok (.getfield 27, 3) := by decide +kernel
theorem dX8_partsAlike_17 : decode cX8_partsAlike 17 = .ok (.iaload, 1) := by decide +kernel
theorem dX8_partsAlike_18 : decode cX8_partsAlike 18 = .ok (.if_icmp .eq 5, 3) := by decide +kernel
theorem dX8_partsAlike_21 : decode cX8_partsAlike 21 = .ok (.iconst 0, 1) := by decide +kernel
theorem dX8_partsAlike_22 : decode cX8_partsAlike 22 = .ok (.ireturn, 1) := by decide +kernel
theorem dX8_partsAlike_23 : decode cX8_partsAlike 23 = .ok (.iconst 0, 1) := by decide +kernel
theorem dX8_partsAlike_24 : decode cX8_partsAlike 24 = .ok (.istore_n 1, 1) := by decide +kernel
theorem dX8_partsAlike_25 : decode cX8_partsAlike 25 = .ok (.iload_n 1, 1) := by decide +kernel
theorem dX8_partsAlike_26 : decode cX8_partsAlike 26 = .ok (.aload_n 0, 1) := by decide +kernel
theorem dX8_partsAlike_27 : decode cX8_partsAlike 27 = .ok (.getfield 15, 3) := by decide +kernel
theorem dX8_partsAlike_30 : decode cX8_partsAlike 30 = .ok (.aload_n 0, 1) := by decide +kernel
theorem dX8_partsAlike_31 : decode cX8_partsAlike 31 = .ok (.getfield 27, 3) := by decide +kernel
theorem dX8_partsAlike_34 : decode cX8_partsAlike 34 = .ok (.iaload, 1) := by decide +kernel
theorem dX8_partsAlike_35 : decode cX8_partsAlike 35 = .ok (.if_icmp .ge 40, 3) := by decide +kernel
theorem dX8_partsAlike_38 : decode cX8_partsAlike 38 = .ok (.aload_n 0, 1) := by decide +kernel
theorem dX8_partsAlike_39 : decode cX8_partsAlike 39 = .ok (.getfield 21, 3) := by decide +kernel
theorem dX8_partsAlike_42 : decode cX8_partsAlike 42 = .ok (.aload_n 0, 1) := by decide +kernel
theorem dX8_partsAlike_43 : decode cX8_partsAlike 43 = .ok (.getfield 27, 3) := by decide +kernel
theorem dX8_partsAlike_46 : decode cX8_partsAlike 46 = .ok (.iconst 3, 1) := by decide +kernel
theorem dX8_partsAlike_47 : decode cX8_partsAlike 47 = .ok (.imul, 1) := by decide +kernel
theorem dX8_partsAlike_48 : decode cX8_partsAlike 48 = .ok (.iload_n 1, 1) := by decide +kernel
theorem dX8_partsAlike_49 : decode cX8_partsAlike 49 = .ok (.iadd, 1) := by decide +kernel
theorem dX8_partsAlike_50 : decode cX8_partsAlike 50 = .ok (.iaload, 1) := by decide +kernel
theorem dX8_partsAlike_51 : decode cX8_partsAlike 51 = .ok (.aload_n 0, 1) := by decide +kernel
theorem dX8_partsAlike_52 : decode cX8_partsAlike 52 = .ok (.getfield 24, 3) := by decide +kernel
theorem dX8_partsAlike_55 : decode cX8_partsAlike 55 = .ok (.aload_n 0, 1) := by decide +kernel
theorem dX8_partsAlike_56 : decode cX8_partsAlike 56 = .ok (.getfield 27, 3) := by decide +kernel
theorem dX8_partsAlike_59 : decode cX8_partsAlike 59 = .ok (.iconst 3, 1) := by decide +kernel
theorem dX8_partsAlike_60 : decode cX8_partsAlike 60 = .ok (.imul, 1) := by decide +kernel
theorem dX8_partsAlike_61 : decode cX8_partsAlike 61 = .ok (.iload_n 1, 1) := by decide +kernel
theorem dX8_partsAlike_62 : decode cX8_partsAlike 62 = .ok (.iadd, 1) := by decide +kernel
theorem dX8_partsAlike_63 : decode cX8_partsAlike 63 = .ok (.iaload, 1) := by decide +kernel
theorem dX8_partsAlike_64 : decode cX8_partsAlike 64 = .ok (.if_icmp .eq 5, 3) := by decide +kernel
theorem dX8_partsAlike_67 : decode cX8_partsAlike 67 = .ok (.iconst 0, 1) := by decide +kernel
theorem dX8_partsAlike_68 : decode cX8_partsAlike 68 = .ok (.ireturn, 1) := by decide +kernel
theorem dX8_partsAlike_69 : decode cX8_partsAlike 69 = .ok (.iinc 1 1, 3) := by decide +kernel
theorem dX8_partsAlike_72 : decode cX8_partsAlike 72 = .ok (.goto (-47), 3) := by decide +kernel
theorem dX8_partsAlike_75 : decode cX8_partsAlike 75 = .ok (.iconst 1, 1) := by decide +kernel
theorem dX8_partsAlike_76 : decode cX8_partsAlike 76 = .ok (.ireturn, 1) := by decide +kernel
theorem dX9_init_0 : decode cX9_init 0 = .ok (.aload_n 0, 1) := by decide +kernel
theorem dX9_init_1 : decode cX9_init 1 = .ok (.invokespecial 3, 3) := by decide +kernel
theorem dX9_init_4 : decode cX9_init 4 = .ok (.aload_n 0, 1) := by decide +kernel
theorem dX9_init_5 : decode cX9_init 5 = .ok (.sipush 400, 3) := by decide +kernel
theorem dX9_init_8 : decode cX9_init 8 = .ok (.newarray .int, 2) := by decide +kernel
theorem dX9_init_10 : decode cX9_init 10 = .ok (.putfield 9, 3) := by decide +kernel
theorem dX9_init_13 : decode cX9_init 13 = .ok (.aload_n 0, 1) := by decide +kernel
theorem dX9_init_14 : decode cX9_init 14 = .ok (.iconst (-1), 1) := by decide +kernel
theorem dX9_init_15 : decode cX9_init 15 = .ok (.putfield 15, 3) := by decide +kernel
theorem dX9_init_18 : decode cX9_init 18 = .ok (.return_, 1) := by decide +kernel
theorem dX9_add_0 : decode cX9_add 0 = .ok (.bipush 24, 2) := by decide +kernel
theorem dX9_add_2 : decode cX9_add 2 = .ok (.istore_n 2, 1) := by decide +kernel
theorem dX9_add_3 : decode cX9_add 3 = .ok (.iload_n 2, 1) := by decide +kernel
theorem dX9_add_4 : decode cX9_add 4 = .ok (.ifCond .lt 45, 3) := by decide +kernel
theorem dX9_add_7 : decode cX9_add 7 = .ok (.aload_n 0, 1) := by decide +kernel
theorem dX9_add_8 : decode cX9_add 8 = .ok (.getfield 19, 3) := by decide +kernel
theorem dX9_add_11 : decode cX9_add 11 = .ok (.sipush 400, 3) := by decide +kernel
theorem dX9_add_14 : decode cX9_add 14 = .ok (.if_icmp .ge 35, 3) := by decide +kernel
theorem dX9_add_17 : decode cX9_add 17 = .ok (.aload_n 0, 1) := by decide +kernel
theorem dX9_add_18 : decode cX9_add 18 = .ok (.getfield 9, 3) := by decide +kernel
theorem dX9_add_21 : decode cX9_add 21 = .ok (.aload_n 0, 1) := by decide +kernel
theorem dX9_add_22 : decode cX9_add 22 = .ok (.getfield 19, 3) := by decide +kernel
theorem dX9_add_25 : decode cX9_add 25 = .ok (.iload_n 1, 1) := by decide +kernel
theorem dX9_add_26 : decode cX9_add 26 = .ok (.iload_n 2, 1) := by decide +kernel
theorem dX9_add_27 : decode cX9_add 27 = .ok (.iushr, 1) := by decide +kernel
theorem dX9_add_28 : decode cX9_add 28 = .ok (.sipush 255, 3) := by decide +kernel
theorem dX9_add_31 : decode cX9_add 31 = .ok (.iand, 1) := by decide +kernel
theorem dX9_add_32 : decode cX9_add 32 = .ok (.iastore, 1) := by decide +kernel
theorem dX9_add_33 : decode cX9_add 33 = .ok (.aload_n 0, 1) := by decide +kernel
theorem dX9_add_34 : decode cX9_add 34 = .ok (.dup, 1) := by decide +kernel
theorem dX9_add_35 : decode cX9_add 35 = .ok (.getfield 19, 3) := by decide +kernel
theorem dX9_add_38 : decode cX9_add 38 = .ok (.iconst 1, 1) := by decide +kernel
theorem dX9_add_39 : decode cX9_add 39 = .ok (.iadd, 1) := by decide +kernel
theorem dX9_add_40 : decode cX9_add 40 = .ok (.putfield 19, 3) := by decide +kernel
theorem dX9_add_43 : decode cX9_add 43 = .ok (.iinc 2 (-8), 3) := by decide +kernel
theorem dX9_add_46 : decode cX9_add 46 = .ok (.goto (-43), 3) := by decide +kernel
theorem dX9_add_49 : decode cX9_add 49 = .ok (.return_, 1) := by decide +kernel
theorem dX9_begin_0 : decode cX9_begin 0 = .ok (.aload_n 0, 1) := by decide +kernel
theorem dX9_begin_1 : decode cX9_begin 1 = .ok (.iload_n 1, 1) := by decide +kernel
theorem dX9_begin_2 : decode cX9_begin 2 = .ok (.putfield 22, 3) := by decide +kernel
theorem dX9_begin_5 : decode cX9_begin 5 = .ok (.aload_n 0, 1) := by decide +kernel
theorem dX9_begin_6 : decode cX9_begin 6 = .ok (.iconst 0, 1) := by decide +kernel
theorem dX9_begin_7 : decode cX9_begin 7 = .ok (.putfield 25, 3) := by decide +kernel
theorem dX9_begin_10 : decode cX9_begin 10 = .ok (.aload_n 0, 1) := by decide +kernel
theorem dX9_begin_11 : decode cX9_begin 11 = .ok (.iconst 0, 1) := by decide +kernel
theorem dX9_begin_12 : decode cX9_begin 12 = .ok (.putfield 28, 3) := by decide +kernel
theorem dX9_begin_15 : decode cX9_begin 15 = .ok (.aload_n 0, 1) := by decide +kernel
theorem dX9_begin_16 : decode cX9_begin 16 = .ok (.iconst (-1), 1) := by decide +kernel
theorem dX9_begin_17 : decode cX9_begin 17 = .ok (.putfield 15, 3) := by decide +kernel
theorem dX9_begin_20 : decode cX9_begin 20 = .ok (.return_, 1) := by decide +kernel
theorem dX9_finish_0 : decode cX9_finish 0 = .ok (.aload_n 0, 1) := by decide +kernel
theorem dX9_finish_1 : decode cX9_finish 1 = .ok (.iconst 0, 1) := by decide +kernel
theorem dX9_finish_2 : decode cX9_finish 2 = .ok (.putfield 19, 3) := by decide +kernel
theorem dX9_finish_5 : decode cX9_finish 5 = .ok (.aload_n 0, 1) := by decide +kernel
theorem dX9_finish_6 : decode cX9_finish 6 = .ok (.getfield 28, 3) := by decide +kernel
theorem dX9_finish_9 : decode cX9_finish 9 = .ok (.ifCond .ne 7, 3) := by decide +kernel
theorem dX9_finish_12 : decode cX9_finish 12 = .ok (.iload_n 1, 1) := by decide +kernel
theorem dX9_finish_13 : decode cX9_finish 13 = .ok (.goto 10, 3) := by decide +kernel
theorem dX9_finish_16 : decode cX9_finish 16 = .ok (.aload_n 0, 1) := by decide +kernel
theorem dX9_finish_17 : decode cX9_finish 17 = .ok (.getfield 28, 3) := by decide +kernel
theorem dX9_finish_20 : decode cX9_finish 20 = .ok (.bipush 10, 2) := by decide +kernel
theorem dX9_finish_22 : decode cX9_finish 22 = .ok (.isub, 1) := by decide +kernel
theorem dX9_finish_23 : decode cX9_finish 23 = .ok (.ireturn, 1) := by decide +kernel
theorem dX9_peek_0 : decode cX9_peek 0 = .ok (.aload_n 0, 1) := by decide +kernel
theorem dX9_peek_1 : decode cX9_peek 1 = .ok (.getfield 25, 3) := by decide +kernel
theorem dX9_peek_4 : decode cX9_peek 4 = .ok (.iload_n 1, 1) := by decide +kernel
theorem dX9_peek_5 : decode cX9_peek 5 = .ok (.iadd, 1) := by decide +kernel
theorem dX9_peek_6 : decode cX9_peek 6 = .ok (.istore_n 2, 1) := by decide +kernel
theorem dX9_peek_7 : decode cX9_peek 7 = .ok (.iload_n 2, 1) := by decide +kernel
theorem dX9_peek_8 : decode cX9_peek 8 = .ok (.ifCond .lt 20, 3) := by decide +kernel
theorem dX9_peek_11 : decode cX9_peek 11 = .ok (.iload_n 2, 1) := by decide +kernel
theorem dX9_peek_12 : decode cX9_peek 12 = .ok (.aload_n 0, 1) := by decide +kernel
theorem dX9_peek_13 : decode cX9_peek 13 = .ok (.getfield 22, 3) := by decide +kernel
theorem dX9_peek_16 : decode cX9_peek 16 = .ok (.if_icmp .ge 12, 3) := by decide +kernel
theorem dX9_peek_19 : decode cX9_peek 19 = .ok (.aload_n 0, 1) := by decide +kernel
theorem dX9_peek_20 : decode cX9_peek 20 = .ok (.getfield 9, 3) := by decide +kernel
theorem dX9_peek_23 : decode cX9_peek 23 = .ok (.iload_n 2, 1) := by decide +kernel
theorem dX9_peek_24 : decode cX9_peek 24 = .ok (.iaload, 1) := by decide +kernel
theorem dX9_peek_25 : decode cX9_peek 25 = .ok (.goto 4, 3) := by decide +kernel
theorem dX9_peek_28 : decode cX9_peek 28 = .ok (.iconst (-1), 1) := by decide +kernel
theorem dX9_peek_29 : decode cX9_peek 29 = .ok (.ireturn, 1) := by decide +kernel
theorem dX9_atEnd_0 : decode cX9_atEnd 0 = .ok (.aload_n 0, 1) := by decide +kernel
theorem dX9_atEnd_1 : decode cX9_atEnd 1 = .ok (.getfield 25, 3) := by decide +kernel
theorem dX9_atEnd_4 : decode cX9_atEnd 4 = .ok (.aload_n 0, 1) := by decide +kernel
theorem dX9_atEnd_5 : decode cX9_atEnd 5 = .ok (.getfield 22, 3) := by decide +kernel
theorem dX9_atEnd_8 : decode cX9_atEnd 8 = .ok (.if_icmp .lt 7, 3) := by decide +kernel
theorem dX9_atEnd_11 : decode cX9_atEnd 11 = .ok (.iconst 1, 1) := by decide +kernel
theorem dX9_atEnd_12 : decode cX9_atEnd 12 = .ok (.goto 4, 3) := by decide +kernel
theorem dX9_atEnd_15 : decode cX9_atEnd 15 = .ok (.iconst 0, 1) := by decide +kernel
theorem dX9_atEnd_16 : decode cX9_atEnd 16 = .ok (.ireturn, 1) := by decide +kernel
theorem dX9_refuse_0 : decode cX9_refuse 0 = .ok (.aload_n 0, 1) := by decide +kernel
theorem dX9_refuse_1 : decode cX9_refuse 1 = .ok (.iload_n 1, 1) := by decide +kernel
theorem dX9_refuse_2 : decode cX9_refuse 2 = .ok (.putfield 28, 3) := by decide +kernel
theorem dX9_refuse_5 : decode cX9_refuse 5 = .ok (.aload_n 0, 1) := by decide +kernel
theorem dX9_refuse_6 : decode cX9_refuse 6 = .ok (.iload_n 2, 1) := by decide +kernel
theorem dX9_refuse_7 : decode cX9_refuse 7 = .ok (.putfield 15, 3) := by decide +kernel
theorem dX9_refuse_10 : decode cX9_refuse 10 = .ok (.iconst 0, 1) := by decide +kernel
theorem dX9_refuse_11 : decode cX9_refuse 11 = .ok (.ireturn, 1) := by decide +kernel
theorem dX9_skipBlanks_0 : decode cX9_skipBlanks 0 = .ok (.aload_n 0, 1) := by decide +kernel
theorem dX9_skipBlanks_1 : decode cX9_skipBlanks 1 = .ok (.getfield 25, 3) := by decide +kernel
theorem dX9_skipBlanks_4 : decode cX9_skipBlanks 4 = .ok (.aload_n 0, 1) := by decide +kernel
theorem dX9_skipBlanks_5 : decode cX9_skipBlanks 5 = .ok (.getfield 22, 3) := by decide +kernel
theorem dX9_skipBlanks_8 : decode cX9_skipBlanks 8 = .ok (.if_icmp .ge 30, 3) := by decide +kernel
theorem dX9_skipBlanks_11 : decode cX9_skipBlanks 11 = .ok (.aload_n 0, 1) := by decide +kernel
theorem dX9_skipBlanks_12 : decode cX9_skipBlanks 12 = .ok (.getfield 9, 3) := by decide +kernel
theorem dX9_skipBlanks_15 : decode cX9_skipBlanks 15 = .ok (.aload_n 0, 1) := by decide +kernel
theorem dX9_skipBlanks_16 : decode cX9_skipBlanks 16 = .ok (.getfield 25, 3) := by decide +kernel
theorem dX9_skipBlanks_19 : decode cX9_skipBlanks 19 = .ok (.iaload, 1) := by decide +kernel
theorem dX9_skipBlanks_20 : decode cX9_skipBlanks 20 = .ok (.bipush 32, 2) := by decide +kernel
theorem dX9_skipBlanks_22 : decode cX9_skipBlanks 22 = .ok (.if_icmp .ne 16, 3) := by decide +kernel
theorem dX9_skipBlanks_25 : decode cX9_skipBlanks 25 = .ok (.aload_n 0, 1) := by decide +kernel
theorem dX9_skipBlanks_26 : decode cX9_skipBlanks 26 = .ok (.dup, 1) := by decide +kernel
theorem dX9_skipBlanks_27 : decode cX9_skipBlanks 27 = .ok (.getfield 25, 3) := by decide +kernel
theorem dX9_skipBlanks_30 : decode cX9_skipBlanks 30 = .ok (.iconst 1, 1) := by decide +kernel
theorem dX9_skipBlanks_31 : decode cX9_skipBlanks 31 = .ok (.iadd, 1) := by decide +kernel
theorem dX9_skipBlanks_32 : decode cX9_skipBlanks 32 = .ok (.putfield 25, 3) := by decide +kernel
theorem dX9_skipBlanks_35 : decode cX9_skipBlanks 35 = .ok (.goto (-35), 3) := by decide +kernel
theorem dX9_skipBlanks_38 : decode cX9_skipBlanks 38 = .ok (.return_, 1) := by decide +kernel
theorem dX9_readNumber_0 : decode cX9_readNumber 0 = .ok (.aload_n 0, 1) := by decide +kernel
theorem dX9_readNumber_1 : decode cX9_readNumber 1 = .ok (.getfield 25, 3) := by decide +kernel
theorem dX9_readNumber_4 : decode cX9_readNumber 4 = .ok (.istore_n 2, 1) := by decide +kernel
theorem dX9_readNumber_5 : decode cX9_readNumber 5 = .ok (.aload_n 0, 1) := by decide +kernel
theorem dX9_readNumber_6 : decode cX9_readNumber 6 = .ok (.iconst 0, 1) := by decide +kernel
theorem dX9_readNumber_7 : decode cX9_readNumber 7 = .ok (.invokevirtual 31, 3) := by decide +kernel
theorem dX9_readNumber_10 : decode cX9_readNumber 10 = .ok (.invokestatic 35, 3) := by decide +kernel
theorem dX9_readNumber_13 : decode cX9_readNumber 13 = .ok (.ifCond .ne 12, 3) := by decide +kernel
theorem dX9_readNumber_16 : decode cX9_readNumber 16 = .ok (.aload_n 0, 1) := by decide +kernel
theorem dX9_readNumber_17 : decode cX9_readNumber 17 = .ok (.iconst 1, 1) := by decide +kernel
theorem dX9_readNumber_18 : decode cX9_readNumber 18 = .ok (.iload_n 2, 1) := by decide +kernel
theorem dX9_readNumber_19 : decode cX9_readNumber 19 = .ok (.invokevirtual 39, 3) := by decide +kernel
theorem dX9_readNumber_22 : decode cX9_readNumber 22 = .ok (.pop, 1) := by decide +kernel
theorem dX9_readNumber_23 : decode cX9_readNumber 23 = .ok (.iconst (-1), 1) := by decide +kernel
theorem dX9_readNumber_24 : decode cX9_readNumber 24 = .ok (.ireturn, 1) := by decide +kernel
theorem dX9_readNumber_25 : decode cX9_readNumber 25 = .ok (.iconst 0, 1) := by decide +kernel
theorem dX9_readNumber_26 : decode cX9_readNumber 26 = .ok (.istore_n 3, 1) := by decide +kernel
theorem dX9_readNumber_27 : decode cX9_readNumber 27 = .ok (.aload_n 0, 1) := by decide +kernel
theorem dX9_readNumber_28 : decode cX9_readNumber 28 = .ok (.getfield 25, 3) := by decide +kernel
theorem dX9_readNumber_31 : decode cX9_readNumber 31 = .ok (.aload_n 0, 1) := by decide +kernel
theorem dX9_readNumber_32 : decode cX9_readNumber 32 = .ok (.getfield 22, 3) := by decide +kernel
theorem dX9_readNumber_35 : decode cX9_readNumber 35 = .ok (.if_icmp .ge 54, 3) := by decide +kernel
theorem dX9_readNumber_38 : decode cX9_readNumber 38 = .ok (.aload_n 0, 1) := by decide +kernel
theorem dX9_readNumber_39 : decode cX9_readNumber 39 = .ok (.getfield 9, 3) := by decide +kernel
theorem dX9_readNumber_42 : decode cX9_readNumber 42 = .ok (.aload_n 0, 1) := by decide +kernel
theorem dX9_readNumber_43 : decode cX9_readNumber 43 = .ok (.getfield 25, 3) := by decide +kernel
theorem dX9_readNumber_46 : decode cX9_readNumber 46 = .ok (.iaload, 1) := by decide +kernel
theorem dX9_readNumber_47 : decode cX9_readNumber 47 = .ok (.invokestatic 35, 3) := by decide +kernel
theorem dX9_readNumber_50 : decode cX9_readNumber 50 = .ok (.ifCond .eq 39, 3) := by decide +kernel
theorem dX9_readNumber_53 : decode cX9_readNumber 53 = .ok (.iload_n 3, 1) := by decide +kernel
theorem dX9_readNumber_54 : decode cX9_readNumber 54 = .ok (.bipush 10, 2) := by decide +kernel
theorem dX9_readNumber_56 : decode cX9_readNumber 56 = .ok (.imul, 1) := by decide +kernel
theorem dX9_readNumber_57 : decode cX9_readNumber 57 = .ok (.aload_n 0, 1) := by decide +kernel
theorem dX9_readNumber_58 : decode cX9_readNumber 58 = .ok (.getfield 9, 3) := by decide +kernel
theorem dX9_readNumber_61 : decode cX9_readNumber 61 = .ok (.aload_n 0, 1) := by decide +kernel
theorem dX9_readNumber_62 : decode cX9_readNumber 62 = .ok (.getfield 25, 3) := by decide +kernel
theorem dX9_readNumber_65 : decode cX9_readNumber 65 = .ok (.iaload, 1) := by decide +kernel
theorem dX9_readNumber_66 : decode cX9_readNumber 66 = .ok (.iadd, 1) := by decide +kernel
theorem dX9_readNumber_67 : decode cX9_readNumber 67 = .ok (.bipush 48, 2) := by decide +kernel
theorem dX9_readNumber_69 : decode cX9_readNumber 69 = .ok (.isub, 1) := by decide +kernel
theorem dX9_readNumber_70 : decode cX9_readNumber 70 = .ok (.bipush 100, 2) := by decide +kernel
theorem dX9_readNumber_72 : decode cX9_readNumber 72 = .ok (.invokestatic 43, 3) := by decide +kernel
theorem dX9_readNumber_75 : decode cX9_readNumber 75 = .ok (.istore_n 3, 1) := by decide +kernel
theorem dX9_readNumber_76 : decode cX9_readNumber 76 = .ok (.aload_n 0, 1) := by decide +kernel
theorem dX9_readNumber_77 : decode cX9_readNumber 77 = .ok (.dup, 1) := by decide +kernel
theorem dX9_readNumber_78 : decode cX9_readNumber 78 = .ok (.getfield 25, 3) := by decide +kernel
theorem dX9_readNumber_81 : decode cX9_readNumber 81 = .ok (.iconst 1, 1) := by decide +kernel
theorem dX9_readNumber_82 : decode cX9_readNumber 82 = .ok (.iadd, 1) := by decide +kernel
theorem dX9_readNumber_83 : decode cX9_readNumber 83 = .ok (.putfield 25, 3) := by decide +kernel
theorem dX9_readNumber_86 : decode cX9_readNumber 86 = .ok (.goto (-59), 3) := by decide +kernel
theorem dX9_readNumber_89 : decode cX9_readNumber 89 = .ok (.iload_n 3, 1) := by decide +kernel
theorem dX9_readNumber_90 : decode cX9_readNumber 90 = .ok (.iload_n 1, 1) := by decide +kernel
theorem dX9_readNumber_91 : decode cX9_readNumber 91 = .ok (.if_icmp .lt 9, 3) := by decide +kernel
theorem dX9_readNumber_94 : decode cX9_readNumber 94 = .ok (.iload_n 3, 1) := by decide +kernel
theorem dX9_readNumber_95 : decode cX9_readNumber 95 = .ok (.bipush 99, 2) := by decide +kernel
theorem dX9_readNumber_97 : decode cX9_readNumber 97 = .ok (.if_icmp .le 12, 3) := by decide +kernel
theorem dX9_readNumber_100 : decode cX9_readNumber 100 = .ok (.aload_n 0, 1) := by decide +kernel
theorem dX9_readNumber_101 : decode cX9_readNumber 101 = .ok (.iconst 2, 1) := by decide +kernel
theorem dX9_readNumber_102 : decode cX9_readNumber 102 = .ok (.iload_n 2, 1) := by decide +kernel
theorem dX9_readNumber_103 : decode cX9_readNumber 103 = .ok (.invokevirtual 39, 3) := by decide +kernel
theorem dX9_readNumber_106 : decode cX9_readNumber 106 = .ok (.pop, 1) := by decide +kernel
theorem dX9_readNumber_107 : decode cX9_readNumber 107 = .ok (.iconst (-1), 1) := by decide +kernel
theorem dX9_readNumber_108 : decode cX9_readNumber 108 = .ok (.ireturn, 1) := by decide +kernel
theorem dX9_readNumber_109 : decode cX9_readNumber 109 = .ok (.iload_n 3, 1) := by decide +kernel
theorem dX9_readNumber_110 : decode cX9_readNumber 110 = .ok (.ireturn, 1) := by decide +kernel
theorem dX9_readEnding_0 : decode cX9_readEnding 0 = .ok (.aload_n 0, 1) := by decide +kernel
theorem dX9_readEnding_1 : decode cX9_readEnding 1 = .ok (.invokevirtual 49, 3) := by decide +kernel
theorem dX9_readEnding_4 : decode cX9_readEnding 4 = .ok (.iload_n 1, 1) := by decide +kernel
theorem dX9_readEnding_5 : decode cX9_readEnding 5 = .ok (.istore_n 3, 1) := by decide +kernel
theorem dX9_readEnding_6 : decode cX9_readEnding 6 = .ok (.iload_n 1, 1) := by decide +kernel
theorem dX9_readEnding_7 : decode cX9_readEnding 7 = .ok (.iconst (-1), 1) := by decide +kernel
theorem dX9_readEnding_8 : decode cX9_readEnding 8 = .ok (.if_icmp .eq 14, 3) := by decide +kernel
theorem dX9_readEnding_11 : decode cX9_readEnding 11 = .ok (.aload_n 0, 1) := by decide +kernel
theorem dX9_readEnding_12 : decode cX9_readEnding 12 = .ok (.iconst 0, 1) := by decide +kernel
theorem dX9_readEnding_13 : decode cX9_readEnding 13 = .ok (.invokevirtual 31, 3) := by decide +kernel
theorem dX9_readEnding_16 : decode cX9_readEnding 16 = .ok (.invokestatic 35, 3) := by decide +kernel
theorem dX9_readEnding_19 : decode cX9_readEnding 19 = .ok (.ifCond .eq 20, 3) := by decide +kernel
theorem dX9_readEnding_22 : decode cX9_readEnding 22 = .ok (.aload_n 0, 1) := by decide +kernel
theorem dX9_readEnding_23 : decode cX9_readEnding 23 = .ok (.iload_n 2, 1) := by decide +kernel
theorem dX9_readEnding_24 : decode cX9_readEnding 24 = .ok (.invokevirtual 52, 3) := by decide +kernel
theorem dX9_readEnding_27 : decode cX9_readEnding 27 = .ok (.istore_n 3, 1) := by decide +kernel
theorem dX9_readEnding_28 : decode cX9_readEnding 28 = .ok (.iload_n 3, 1) := by decide +kernel
theorem dX9_readEnding_29 : decode cX9_readEnding 29 = .ok (.iconst (-1), 1) := by decide +kernel
theorem dX9_readEnding_30 : decode cX9_readEnding 30 = .ok (.if_icmp .ne 5, 3) := by decide +kernel
theorem dX9_readEnding_33 : decode cX9_readEnding 33 = .ok (.iconst (-1), 1) := by decide +kernel
theorem dX9_readEnding_34 : decode cX9_readEnding 34 = .ok (.ireturn, 1) := by decide +kernel
theorem dX9_readEnding_35 : decode cX9_readEnding 35 = .ok (.aload_n 0, 1) := by decide +kernel
theorem dX9_readEnding_36 : decode cX9_readEnding 36 = .ok (.invokevirtual 49, 3) := by decide +kernel
theorem dX9_readEnding_39 : decode cX9_readEnding 39 = .ok (.aload_n 0, 1) := by decide +kernel
theorem dX9_readEnding_40 : decode cX9_readEnding 40 = .ok (.iconst 0, 1) := by decide +kernel
theorem dX9_readEnding_41 : decode cX9_readEnding 41 = .ok (.invokevirtual 31, 3) := by decide +kernel
theorem dX9_readEnding_44 : decode cX9_readEnding 44 = .ok (.bipush 59, 2) := by decide +kernel
theorem dX9_readEnding_46 : decode cX9_readEnding 46 = .ok (.if_icmp .eq 15, 3) := by decide +kernel
theorem dX9_readEnding_49 : decode cX9_readEnding 49 = .ok (.aload_n 0, 1) := by decide +kernel
theorem dX9_readEnding_50 : decode cX9_readEnding 50 = .ok (.iconst 1, 1) := by decide +kernel
theorem dX9_readEnding_51 : decode cX9_readEnding 51 = .ok (.aload_n 0, 1) := by decide +kernel
theorem dX9_readEnding_52 : decode cX9_readEnding 52 = .ok (.getfield 25, 3) := by decide +kernel
theorem dX9_readEnding_55 : decode cX9_readEnding 55 = .ok (.invokevirtual 39, 3) := by decide +kernel
theorem dX9_readEnding_58 : decode cX9_readEnding 58 = .ok (.pop, 1) := by decide +kernel
theorem dX9_readEnding_59 : decode cX9_readEnding 59 = .ok (.iconst (-1), 1) := by decide +kernel
theorem dX9_readEnding_60 : decode cX9_readEnding 60 = .ok (.ireturn, 1) := by decide +kernel
theorem dX9_readEnding_61 : decode cX9_readEnding 61 = .ok (.aload_n 0, 1) := by decide +kernel
theorem dX9_readEnding_62 : decode cX9_readEnding 62 = .ok (.dup, 1) := by decide +kernel
theorem dX9_readEnding_63 : decode cX9_readEnding 63 = .ok (.getfield 25, 3) := by decide +kernel
theorem dX9_readEnding_66 : decode cX9_readEnding 66 = .ok (.iconst 1, 1) := by decide +kernel
theorem dX9_readEnding_67 : decode cX9_readEnding 67 = .ok (.iadd, 1) := by decide +kernel
theorem dX9_readEnding_68 : decode cX9_readEnding 68 = .ok (.putfield 25, 3) := by decide +kernel
theorem dX9_readEnding_71 : decode cX9_readEnding 71 = .ok (.iload_n 3, 1) := by decide +kernel
theorem dX9_readEnding_72 : decode cX9_readEnding 72 = .ok (.ireturn, 1) := by decide +kernel
theorem dX10_init_0 : decode cX10_init 0 = .ok (.aload_n 0, 1) := by decide +kernel
theorem dX10_init_1 : decode cX10_init 1 = .ok (.invokespecial 3, 3) := by decide +kernel
theorem dX10_init_4 : decode cX10_init 4 = .ok (.aload_n 0, 1) := by decide +kernel
theorem dX10_init_5 : decode cX10_init 5 = .ok (.bipush 24, 2) := by decide +kernel
theorem dX10_init_7 : decode cX10_init 7 = .ok (.newarray .int, 2) := by decide +kernel
theorem dX10_init_9 : decode cX10_init 9 = .ok (.putfield 9, 3) := by decide +kernel
theorem dX10_init_12 : decode cX10_init 12 = .ok (.aload_n 0, 1) := by decide +kernel
theorem dX10_init_13 : decode cX10_init 13 = .ok (.sipush 325, 3) := by decide +kernel
theorem dX10_init_16 : decode cX10_init 16 = .ok (.newarray .int, 2) := by decide +kernel
theorem dX10_init_18 : decode cX10_init 18 = .ok (.putfield 15, 3) := by decide +kernel
theorem dX10_init_21 : decode cX10_init 21 = .ok (.aload_n 0, 1) := by decide +kernel
theorem dX10_init_22 : decode cX10_init 22 = .ok (.aload_n 1, 1) := by decide +kernel
theorem dX10_init_23 : decode cX10_init 23 = .ok (.putfield 18, 3) := by decide +kernel
theorem dX10_init_26 : decode cX10_init 26 = .ok (.aload_n 0, 1) := by decide +kernel
theorem dX10_init_27 : decode cX10_init 27 = .ok (.aload_n 2, 1) := by decide +kernel
theorem dX10_init_28 : decode cX10_init 28 = .ok (.putfield 22, 3) := by decide +kernel
theorem dX10_init_31 : decode cX10_init 31 = .ok (.return_, 1) := by decide +kernel
theorem dX10_spell_0 : decode cX10_spell 0 = .ok (.aload_n 0, 1) := by decide +kernel
theorem dX10_spell_1 : decode cX10_spell 1 = .ok (.getfield 22, 3) := by decide +kernel
theorem dX10_spell_4 : decode cX10_spell 4 = .ok (.getfield 26, 3) := by decide +kernel
theorem dX10_spell_7 : decode cX10_spell 7 = .ok (.iload_n 1, 1) := by decide +kernel
theorem dX10_spell_8 : decode cX10_spell 8 = .ok (.iaload, 1) := by decide +kernel
theorem dX10_spell_9 : decode cX10_spell 9 = .ok (.istore_n 2, 1) := by decide +kernel
theorem dX10_spell_10 : decode cX10_spell 10 = .ok (.aload_n 0, 1) := by decide +kernel
theorem dX10_spell_11 : decode cX10_spell 11 = .ok (.getfield 18, 3) := by decide +kernel
theorem dX10_spell_14 : decode cX10_spell 14 = .ok (.getfield 31, 3) := by decide +kernel
theorem dX10_spell_17 : decode cX10_spell 17 = .ok (.istore_n 3, 1) := by decide +kernel
theorem dX10_spell_18 : decode cX10_spell 18 = .ok (.iload_n 3, 1) := by decide +kernel
theorem dX10_spell_19 : decode cX10_spell 19 = .ok (.ifCond .lt 65, 3) := by decide +kernel
theorem dX10_spell_22 : decode cX10_spell 22 = .ok (.iconst 0, 1) := by decide +kernel
theorem dX10_spell_23 : decode cX10_spell 23 = .ok (.istore 4, 2) := by decide +kernel
theorem dX10_spell_25 : decode cX10_spell 25 = .ok (.iload 4, 2) := by decide +kernel
theorem dX10_spell_27 : decode cX10_spell 27 = .ok (.iload_n 2, 1) := by decide +kernel
theorem dX10_spell_28 : decode cX10_spell 28 = .ok (.if_icmp .gt 50, 3) := by decide +kernel
theorem dX10_spell_31 : decode cX10_spell 31 = .ok (.aload_n 0, 1) := by decide +kernel
theorem dX10_spell_32 : decode cX10_spell 32 = .ok (.getfield 15, 3) := by decide +kernel
theorem dX10_spell_35 : decode cX10_spell 35 = .ok (.iload_n 3, 1) := by decide +kernel
theorem dX10_spell_36 : decode cX10_spell 36 = .ok (.bipush 13, 2) := by decide +kernel
theorem dX10_spell_38 : decode cX10_spell 38 = .ok (.imul, 1) := by decide +kernel
theorem dX10_spell_39 : decode cX10_spell 39 = .ok (.iload 4, 2) := by decide +kernel
theorem dX10_spell_41 : decode cX10_spell 41 = .ok (.iadd, 1) := by decide +kernel
theorem dX10_spell_42 : decode cX10_spell 42 = .ok (.iload_n 3, 1) := by decide +kernel
theorem dX10_spell_43 : decode cX10_spell 43 = .ok (.aload_n 0, 1) := by decide +kernel
theorem dX10_spell_44 : decode cX10_spell 44 = .ok (.getfield 18, 3) := by decide +kernel
theorem dX10_spell_47 : decode cX10_spell 47 = .ok (.getfield 31, 3) := by decide +kernel
theorem dX10_spell_50 : decode cX10_spell 50 = .ok (.if_icmp .ne 13, 3) := by decide +kernel
theorem dX10_spell_53 : decode cX10_spell 53 = .ok (.iload 4, 2) := by decide +kernel
theorem dX10_spell_55 : decode cX10_spell 55 = .ok (.iload_n 2, 1) := by decide +kernel
theorem dX10_spell_56 : decode cX10_spell 56 = .ok (.if_icmp .ne 7, 3) := by decide +kernel
theorem dX10_spell_59 : decode cX10_spell 59 = .ok (.iconst 0, 1) := by decide +kernel
theorem dX10_spell_60 : decode cX10_spell 60 = .ok (.goto 11, 3) := by decide +kernel
theorem dX10_spell_63 : decode cX10_spell 63 = .ok (.aload_n 0, 1) := by decide +kernel
theorem dX10_spell_64 : decode cX10_spell 64 = .ok (.iload_n 1, 1) := by decide +kernel
theorem dX10_spell_65 : decode cX10_spell 65 = .ok (.iload_n 3, 1) := by decide +kernel
theorem dX10_spell_66 : decode cX10_spell 66 = .ok (.iload 4, 2) := by decide +kernel
theorem dX10_spell_68 : decode cX10_spell 68 = .ok (.invokevirtual 37, 3) := by decide +kernel
theorem dX10_spell_71 : decode cX10_spell 71 = .ok (.iastore, 1) := by decide +kernel
theorem dX10_spell_72 : decode cX10_spell 72 = .ok (.iinc 4 1, 3) := by decide +kernel
theorem dX10_spell_75 : decode cX10_spell 75 = .ok (.goto (-50), 3) := by decide +kernel
theorem dX10_spell_78 : decode cX10_spell 78 = .ok (.iinc 3 (-1), 3) := by decide +kernel
theorem dX10_spell_81 : decode cX10_spell 81 = .ok (.goto (-63), 3) := by decide +kernel
theorem dX10_spell_84 : decode cX10_spell 84 = .ok (.aload_n 0, 1) := by decide +kernel
theorem dX10_spell_85 : decode cX10_spell 85 = .ok (.aload_n 0, 1) := by decide +kernel
theorem dX10_spell_86 : decode cX10_spell 86 = .ok (.getfield 15, 3) := by decide +kernel
theorem dX10_spell_89 : decode cX10_spell 89 = .ok (.iconst 0, 1) := by decide +kernel
theorem dX10_spell_90 : decode cX10_spell 90 = .ok (.iaload, 1) := by decide +kernel
theorem dX10_spell_91 : decode cX10_spell 91 = .ok (.putfield 41, 3) := by decide +kernel
theorem dX10_spell_94 : decode cX10_spell 94 = .ok (.aload_n 0, 1) := by decide +kernel
theorem dX10_spell_95 : decode cX10_spell 95 = .ok (.iload_n 1, 1) := by decide +kernel
theorem dX10_spell_96 : decode cX10_spell 96 = .ok (.invokevirtual 44, 3) := by decide +kernel
theorem dX10_spell_99 : decode cX10_spell 99 = .ok (.return_, 1) := by decide +kernel
theorem dX10_needAt_0 : decode cX10_needAt 0 = .ok (.ldc 48, 2) := by decide +kernel
theorem dX10_needAt_2 : decode cX10_needAt 2 = .ok (.istore 4, 2) := by decide +kernel
theorem dX10_needAt_4 : decode cX10_needAt 4 = .ok (.aload_n 0, 1) := by decide +kernel
theorem dX10_needAt_5 : decode cX10_needAt 5 = .ok (.getfield 18, 3) := by decide +kernel
theorem dX10_needAt_8 : decode cX10_needAt 8 = .ok (.getfield 49, 3) := by decide +kernel
theorem dX10_needAt_11 : decode cX10_needAt 11 = .ok (.iload_n 2, 1) := by decide +kernel
theorem dX10_needAt_12 : decode cX10_needAt 12 = .ok (.iaload, 1) := by decide +kernel
theorem dX10_needAt_13 : decode cX10_needAt 13 = .ok (.istore 5, 2) := by decide +kernel
theorem dX10_needAt_15 : decode cX10_needAt 15 = .ok (.iload 5, 2) := by decide +kernel
theorem dX10_needAt_17 : decode cX10_needAt 17 = .ok (.aload_n 0, 1) := by decide +kernel
theorem dX10_needAt_18 : decode cX10_needAt 18 = .ok (.getfield 18, 3) := by decide +kernel
theorem dX10_needAt_21 : decode cX10_needAt 21 = .ok (.getfield 49, 3) := by decide +kernel
theorem dX10_needAt_24 : decode cX10_needAt 24 = .ok (.iload_n 2, 1) := by decide +kernel
theorem dX10_needAt_25 : decode cX10_needAt 25 = .ok (.iconst 1, 1) := by decide +kernel
theorem dX10_needAt_26 : decode cX10_needAt 26 = .ok (.iadd, 1) := by decide +kernel
theorem dX10_needAt_27 : decode cX10_needAt 27 = .ok (.iaload, 1) := by decide +kernel
theorem dX10_needAt_28 : decode cX10_needAt 28 = .ok (.if_icmp .ge 24, 3) := by decide +kernel
theorem dX10_needAt_31 : decode cX10_needAt 31 = .ok (.iload 4, 2) := by decide +kernel
theorem dX10_needAt_33 : decode cX10_needAt 33 = .ok (.aload_n 0, 1) := by decide +kernel
theorem dX10_needAt_34 : decode cX10_needAt 34 = .ok (.iload_n 1, 1) := by decide +kernel
theorem dX10_needAt_35 : decode cX10_needAt 35 = .ok (.iload 5, 2) := by decide +kernel
theorem dX10_needAt_37 : decode cX10_needAt 37 = .ok (.iload_n 3, 1) := by decide +kernel
theorem dX10_needAt_38 : decode cX10_needAt 38 = .ok (.invokevirtual 52, 3) := by decide +kernel
theorem dX10_needAt_41 : decode cX10_needAt 41 = .ok (.invokestatic 55, 3) := by decide +kernel
theorem dX10_needAt_44 : decode cX10_needAt 44 = .ok (.istore 4, 2) := by decide +kernel
theorem dX10_needAt_46 : decode cX10_needAt 46 = .ok (.iinc 5 1, 3) := by decide +kernel
theorem dX10_needAt_49 : decode cX10_needAt 49 = .ok (.goto (-34), 3) := by decide +kernel
theorem dX10_needAt_52 : decode cX10_needAt 52 = .ok (.iload 4, 2) := by decide +kernel
theorem dX10_needAt_54 : decode cX10_needAt 54 = .ok (.ireturn, 1) := by decide +kernel
theorem dX10_needBy_0 : decode cX10_needBy 0 = .ok (.aload_n 0, 1) := by decide +kernel
theorem dX10_needBy_1 : decode cX10_needBy 1 = .ok (.getfield 18, 3) := by decide +kernel
theorem dX10_needBy_4 : decode cX10_needBy 4 = .ok (.getfield 61, 3) := by decide +kernel
theorem dX10_needBy_7 : decode cX10_needBy 7 = .ok (.iload_n 2, 1) := by decide +kernel
theorem dX10_needBy_8 : decode cX10_needBy 8 = .ok (.iaload, 1) := by decide +kernel
theorem dX10_needBy_9 : decode cX10_needBy 9 = .ok (.istore 4, 2) := by decide +kernel
theorem dX10_needBy_11 : decode cX10_needBy 11 = .ok (.iload_n 3, 1) := by decide +kernel
theorem dX10_needBy_12 : decode cX10_needBy 12 = .ok (.iload 4, 2) := by decide +kernel
theorem dX10_needBy_14 : decode cX10_needBy 14 = .ok (.iadd, 1) := by decide +kernel
theorem dX10_needBy_15 : decode cX10_needBy 15 = .ok (.aload_n 0, 1) := by decide +kernel
theorem dX10_needBy_16 : decode cX10_needBy 16 = .ok (.getfield 22, 3) := by decide +kernel
theorem dX10_needBy_19 : decode cX10_needBy 19 = .ok (.getfield 26, 3) := by decide +kernel
theorem dX10_needBy_22 : decode cX10_needBy 22 = .ok (.iload_n 1, 1) := by decide +kernel
theorem dX10_needBy_23 : decode cX10_needBy 23 = .ok (.iaload, 1) := by decide +kernel
theorem dX10_needBy_24 : decode cX10_needBy 24 = .ok (.if_icmp .le 6, 3) := by decide +kernel
theorem dX10_needBy_27 : decode cX10_needBy 27 = .ok (.ldc 48, 2) := by decide +kernel
theorem dX10_needBy_29 : decode cX10_needBy 29 = .ok (.ireturn, 1) := by decide +kernel
theorem dX10_needBy_30 : decode cX10_needBy 30 = .ok (.iconst 0, 1) := by decide +kernel
theorem dX10_needBy_31 : decode cX10_needBy 31 = .ok (.istore 5, 2) := by decide +kernel
theorem dX10_needBy_33 : decode cX10_needBy 33 = .ok (.iload 5, 2) := by decide +kernel
theorem dX10_needBy_35 : decode cX10_needBy 35 = .ok (.iload 4, 2) := by decide +kernel
theorem dX10_needBy_37 : decode cX10_needBy 37 = .ok (.if_icmp .ge 41, 3) := by decide +kernel
theorem dX10_needBy_40 : decode cX10_needBy 40 = .ok (.aload_n 0, 1) := by decide +kernel
theorem dX10_needBy_41 : decode cX10_needBy 41 = .ok (.getfield 22, 3) := by decide +kernel
theorem dX10_needBy_44 : decode cX10_needBy 44 = .ok (.iload_n 1, 1) := by decide +kernel
theorem dX10_needBy_45 : decode cX10_needBy 45 = .ok (.iload_n 3, 1) := by decide +kernel
theorem dX10_needBy_46 : decode cX10_needBy 46 = .ok (.iload 5, 2) := by decide +kernel
theorem dX10_needBy_48 : decode cX10_needBy 48 = .ok (.iadd, 1) := by decide +kernel
theorem dX10_needBy_49 : decode cX10_needBy 49 = .ok (.invokevirtual 64, 3) := by decide +kernel
theorem dX10_needBy_52 : decode cX10_needBy 52 = .ok (.aload_n 0, 1) := by decide +kernel
theorem dX10_needBy_53 : decode cX10_needBy 53 = .ok (.getfield 18, 3) := by decide +kernel
theorem dX10_needBy_56 : decode cX10_needBy 56 = .ok (.getfield 67, 3) := by decide +kernel
theorem dX10_needBy_59 : decode cX10_needBy 59 = .ok (.iload_n 2, 1) := by decide +kernel
theorem dX10_needBy_60 : decode cX10_needBy 60 = .ok (.iconst 3, 1) := by decide +kernel
theorem dX10_needBy_61 : decode cX10_needBy 61 = .ok (.imul, 1) := by decide +kernel
theorem dX10_needBy_62 : decode cX10_needBy 62 = .ok (.iload 5, 2) := by decide +kernel
theorem dX10_needBy_64 : decode cX10_needBy 64 = .ok (.iadd, 1) := by decide +kernel
theorem dX10_needBy_65 : decode cX10_needBy 65 = .ok (.iaload, 1) := by decide +kernel
theorem dX10_needBy_66 : decode cX10_needBy 66 = .ok (.if_icmp .eq 6, 3) := by decide +kernel
theorem dX10_needBy_69 : decode cX10_needBy 69 = .ok (.ldc 48, 2) := by decide +kernel
theorem dX10_needBy_71 : decode cX10_needBy 71 = .ok (.ireturn, 1) := by decide +kernel
theorem dX10_needBy_72 : decode cX10_needBy 72 = .ok (.iinc 5 1, 3) := by decide +kernel
theorem dX10_needBy_75 : decode cX10_needBy 75 = .ok (.goto (-42), 3) := by decide +kernel
theorem dX10_needBy_78 : decode cX10_needBy 78 = .ok (.ldc 48, 2) := by decide +kernel
theorem dX10_needBy_80 : decode cX10_needBy 80 = .ok (.aload_n 0, 1) := by decide +kernel
theorem dX10_needBy_81 : decode cX10_needBy 81 = .ok (.getfield 18, 3) := by decide +kernel
theorem dX10_needBy_84 : decode cX10_needBy 84 = .ok (.getfield 70, 3) := by decide +kernel
theorem dX10_needBy_87 : decode cX10_needBy 87 = .ok (.iload_n 2, 1) := by decide +kernel
theorem dX10_needBy_88 : decode cX10_needBy 88 = .ok (.iaload, 1) := by decide +kernel
theorem dX10_needBy_89 : decode cX10_needBy 89 = .ok (.aload_n 0, 1) := by decide +kernel
theorem dX10_needBy_90 : decode cX10_needBy 90 = .ok (.getfield 15, 3) := by decide +kernel
theorem dX10_needBy_93 : decode cX10_needBy 93 = .ok (.aload_n 0, 1) := by decide +kernel
theorem dX10_needBy_94 : decode cX10_needBy 94 = .ok (.getfield 18, 3) := by decide +kernel
theorem dX10_needBy_97 : decode cX10_needBy 97 = .ok (.getfield 73, 3) := by decide +kernel
theorem dX10_needBy_100 : decode cX10_needBy 100 = .ok (.iload_n 2, 1) := by decide +kernel
theorem dX10_needBy_101 : decode cX10_needBy 101 = .ok (.iaload, 1) := by decide +kernel
theorem dX10_needBy_102 : decode cX10_needBy 102 = .ok (.bipush 13, 2) := by decide +kernel
theorem dX10_needBy_104 : decode cX10_needBy 104 = .ok (.imul, 1) := by decide +kernel
theorem dX10_needBy_105 : decode cX10_needBy 105 = .ok (.iload_n 3, 1) := by decide +kernel
theorem dX10_needBy_106 : decode cX10_needBy 106 = .ok (.iadd, 1) := by decide +kernel
theorem dX10_needBy_107 : decode cX10_needBy 107 = .ok (.iload 4, 2) := by decide +kernel
theorem dX10_needBy_109 : decode cX10_needBy 109 = .ok (.iadd, 1) := by decide +kernel
theorem dX10_needBy_110 : decode cX10_needBy 110 = .ok (.iaload, 1) := by decide +kernel
theorem dX10_needBy_111 : decode cX10_needBy 111 = .ok (.iadd, 1) := by decide +kernel
theorem dX10_needBy_112 : decode cX10_needBy 112 = .ok (.invokestatic 55, 3) := by decide +kernel
theorem dX10_needBy_115 : decode cX10_needBy 115 = .ok (.ireturn, 1) := by decide +kernel
theorem dX10_follow_0 : decode cX10_follow 0 = .ok (.aload_n 0, 1) := by decide +kernel
theorem dX10_follow_1 : decode cX10_follow 1 = .ok (.iconst 0, 1) := by decide +kernel
theorem dX10_follow_2 : decode cX10_follow 2 = .ok (.putfield 76, 3) := by decide +kernel
theorem dX10_follow_5 : decode cX10_follow 5 = .ok (.iconst 0, 1) := by decide +kernel
theorem dX10_follow_6 : decode cX10_follow 6 = .ok (.istore_n 2, 1) := by decide +kernel
theorem dX10_follow_7 : decode cX10_follow 7 = .ok (.iconst 0, 1) := by decide +kernel
theorem dX10_follow_8 : decode cX10_follow 8 = .ok (.istore_n 3, 1) := by decide +kernel
theorem dX10_follow_9 : decode cX10_follow 9 = .ok (.aload_n 0, 1) := by decide +kernel
theorem dX10_follow_10 : decode cX10_follow 10 = .ok (.getfield 76, 3) := by decide +kernel
theorem dX10_follow_13 : decode cX10_follow 13 = .ok (.bipush 24, 2) := by decide +kernel
theorem dX10_follow_15 : decode cX10_follow 15 = .ok (.if_icmp .ge 78, 3) := by decide +kernel
theorem dX10_follow_18 : decode cX10_follow 18 = .ok (.iload_n 2, 1) := by decide +kernel
theorem dX10_follow_19 : decode cX10_follow 19 = .ok (.aload_n 0, 1) := by decide +kernel
theorem dX10_follow_20 : decode cX10_follow 20 = .ok (.getfield 18, 3) := by decide +kernel
theorem dX10_follow_23 : decode cX10_follow 23 = .ok (.getfield 31, 3) := by decide +kernel
theorem dX10_follow_26 : decode cX10_follow 26 = .ok (.if_icmp .ge 67, 3) := by decide +kernel
theorem dX10_follow_29 : decode cX10_follow 29 = .ok (.aload_n 0, 1) := by decide +kernel
theorem dX10_follow_30 : decode cX10_follow 30 = .ok (.iload_n 1, 1) := by decide +kernel
theorem dX10_follow_31 : decode cX10_follow 31 = .ok (.iload_n 2, 1) := by decide +kernel
theorem dX10_follow_32 : decode cX10_follow 32 = .ok (.iload_n 3, 1) := by decide +kernel
theorem dX10_follow_33 : decode cX10_follow 33 = .ok (.invokevirtual 79, 3) := by decide +kernel
theorem dX10_follow_36 : decode cX10_follow 36 = .ok (.istore 4, 2) := by decide +kernel
theorem dX10_follow_38 : decode cX10_follow 38 = .ok (.iload 4, 2) := by decide +kernel
theorem dX10_follow_40 : decode cX10_follow 40 = .ok (.iconst (-1), 1) := by decide +kernel
theorem dX10_follow_41 : decode cX10_follow 41 = .ok (.if_icmp .ne 4, 3) := by decide +kernel
theorem dX10_follow_44 : decode cX10_follow 44 = .ok (.return_, 1) := by decide +kernel
theorem dX10_follow_45 : decode cX10_follow 45 = .ok (.aload_n 0, 1) := by decide +kernel
theorem dX10_follow_46 : decode cX10_follow 46 = .ok (.getfield 9, 3) := by decide +kernel
theorem dX10_follow_49 : decode cX10_follow 49 = .ok (.aload_n 0, 1) := by decide +kernel
theorem dX10_follow_50 : decode cX10_follow 50 = .ok (.getfield 76, 3) := by decide +kernel
theorem dX10_follow_53 : decode cX10_follow 53 = .ok (.iload 4, 2) := by decide +kernel
theorem dX10_follow_55 : decode cX10_follow 55 = .ok (.iastore, 1) := by decide +kernel
theorem dX10_follow_56 : decode cX10_follow 56 = .ok (.aload_n 0, 1) := by decide +kernel
theorem dX10_follow_57 : decode cX10_follow 57 = .ok (.dup, 1) := by decide +kernel
theorem dX10_follow_58 : decode cX10_follow 58 = .ok (.getfield 76, 3) := by decide +kernel
theorem dX10_follow_61 : decode cX10_follow 61 = .ok (.iconst 1, 1) := by decide +kernel
theorem dX10_follow_62 : decode cX10_follow 62 = .ok (.iadd, 1) := by decide +kernel
theorem dX10_follow_63 : decode cX10_follow 63 = .ok (.putfield 76, 3) := by decide +kernel
theorem dX10_follow_66 : decode cX10_follow 66 = .ok (.aload_n 0, 1) := by decide +kernel
theorem dX10_follow_67 : decode cX10_follow 67 = .ok (.getfield 18, 3) := by decide +kernel
theorem dX10_follow_70 : decode cX10_follow 70 = .ok (.getfield 73, 3) := by decide +kernel
theorem dX10_follow_73 : decode cX10_follow 73 = .ok (.iload 4, 2) := by decide +kernel
theorem dX10_follow_75 : decode cX10_follow 75 = .ok (.iaload, 1) := by decide +kernel
theorem dX10_follow_76 : decode cX10_follow 76 = .ok (.istore_n 2, 1) := by decide +kernel
theorem dX10_follow_77 : decode cX10_follow 77 = .ok (.iload_n 3, 1) := by decide +kernel
theorem dX10_follow_78 : decode cX10_follow 78 = .ok (.aload_n 0, 1) := by decide +kernel
theorem dX10_follow_79 : decode cX10_follow 79 = .ok (.getfield 18, 3) := by decide +kernel
theorem dX10_follow_82 : decode cX10_follow 82 = .ok (.getfield 61, 3) := by decide +kernel
theorem dX10_follow_85 : decode cX10_follow 85 = .ok (.iload 4, 2) := by decide +kernel
theorem dX10_follow_87 : decode cX10_follow 87 = .ok (.iaload, 1) := by decide +kernel
theorem dX10_follow_88 : decode cX10_follow 88 = .ok (.iadd, 1) := by decide +kernel
theorem dX10_follow_89 : decode cX10_follow 89 = .ok (.istore_n 3, 1) := by decide +kernel
theorem dX10_follow_90 : decode cX10_follow 90 = .ok (.goto (-81), 3) := by decide +kernel
theorem dX10_follow_93 : decode cX10_follow 93 = .ok (.return_, 1) := by decide +kernel
theorem dX10_firstBest_0 : decode cX10_firstBest 0 = .ok (.aload_n 0, 1) := by decide +kernel
theorem dX10_firstBest_1 : decode cX10_firstBest 1 = .ok (.getfield 15, 3) := by decide +kernel
theorem dX10_firstBest_4 : decode cX10_firstBest 4 = .ok (.iload_n 2, 1) := by decide +kernel
theorem dX10_firstBest_5 : decode cX10_firstBest 5 = .ok (.bipush 13, 2) := by decide +kernel
theorem dX10_firstBest_7 : decode cX10_firstBest 7 = .ok (.imul, 1) := by decide +kernel
theorem dX10_firstBest_8 : decode cX10_firstBest 8 = .ok (.iload_n 3, 1) := by decide +kernel
theorem dX10_firstBest_9 : decode cX10_firstBest 9 = .ok (.iadd, 1) := by decide +kernel
theorem dX10_firstBest_10 : decode cX10_firstBest 10 = .ok (.iaload, 1) := by decide +kernel
theorem dX10_firstBest_11 : decode cX10_firstBest 11 = .ok (.istore 4, 2) := by decide +kernel
theorem dX10_firstBest_13 : decode cX10_firstBest 13 = .ok (.aload_n 0, 1) := by decide +kernel
theorem dX10_firstBest_14 : decode cX10_firstBest 14 = .ok (.getfield 18, 3) := by decide +kernel
theorem dX10_firstBest_17 : decode cX10_firstBest 17 = .ok (.getfield 49, 3) := by decide +kernel
theorem dX10_firstBest_20 : decode cX10_firstBest 20 = .ok (.iload_n 2, 1) := by decide +kernel
theorem dX10_firstBest_21 : decode cX10_firstBest 21 = .ok (.iaload, 1) := by decide +kernel
theorem dX10_firstBest_22 : decode cX10_firstBest 22 = .ok (.istore 5, 2) := by decide +kernel
theorem dX10_firstBest_24 : decode cX10_firstBest 24 = .ok (.iload 5, 2) := by decide +kernel
theorem dX10_firstBest_26 : decode cX10_firstBest 26 = .ok (.aload_n 0, 1) := by decide +kernel
theorem dX10_firstBest_27 : decode cX10_firstBest 27 = .ok (.getfield 18, 3) := by decide +kernel
theorem dX10_firstBest_30 : decode cX10_firstBest 30 = .ok (.getfield 49, 3) := by decide +kernel
theorem dX10_firstBest_33 : decode cX10_firstBest 33 = .ok (.iload_n 2, 1) := by decide +kernel
theorem dX10_firstBest_34 : decode cX10_firstBest 34 = .ok (.iconst 1, 1) := by decide +kernel
theorem dX10_firstBest_35 : decode cX10_firstBest 35 = .ok (.iadd, 1) := by decide +kernel
theorem dX10_firstBest_36 : decode cX10_firstBest 36 = .ok (.iaload, 1) := by decide +kernel
theorem dX10_firstBest_37 : decode cX10_firstBest 37 = .ok (.if_icmp .ge 32, 3) := by decide +kernel
theorem dX10_firstBest_40 : decode cX10_firstBest 40 = .ok (.iload 4, 2) := by decide +kernel
theorem dX10_firstBest_42 : decode cX10_firstBest 42 = .ok (.ldc 48, 2) := by decide +kernel
theorem dX10_firstBest_44 : decode cX10_firstBest 44 = .ok (.if_icmp .ge 19, 3) := by decide +kernel
theorem dX10_firstBest_47 : decode cX10_firstBest 47 = .ok (.aload_n 0, 1) := by decide +kernel
theorem dX10_firstBest_48 : decode cX10_firstBest 48 = .ok (.iload_n 1, 1) := by decide +kernel
theorem dX10_firstBest_49 : decode cX10_firstBest 49 = .ok (.iload 5, 2) := by decide +kernel
theorem dX10_firstBest_51 : decode cX10_firstBest 51 = .ok (.iload_n 3, 1) := by decide +kernel
theorem dX10_firstBest_52 : decode cX10_firstBest 52 = .ok (.invokevirtual 52, 3) := by decide +kernel
theorem dX10_firstBest_55 : decode cX10_firstBest 55 = .ok (.iload 4, 2) := by decide +kernel
theorem dX10_firstBest_57 : decode cX10_firstBest 57 = .ok (.if_icmp .ne 6, 3) := by decide +kernel
theorem dX10_firstBest_60 : decode cX10_firstBest 60 = .ok (.iload 5, 2) := by decide +kernel
theorem dX10_firstBest_62 : decode cX10_firstBest 62 = .ok (.ireturn, 1) := by decide +kernel
theorem dX10_firstBest_63 : decode cX10_firstBest 63 = .ok (.iinc 5 1, 3) := by decide +kernel
theorem dX10_firstBest_66 : decode cX10_firstBest 66 = .ok (.goto (-42), 3) := by decide +kernel
theorem dX10_firstBest_69 : decode cX10_firstBest 69 = .ok (.iconst (-1), 1) := by decide +kernel
theorem dX10_firstBest_70 : decode cX10_firstBest 70 = .ok (.ireturn, 1) := by decide +kernel
theorem dX10_countShape_0 : decode cX10_countShape 0 = .ok (.iconst 0, 1) := by decide +kernel
theorem dX10_countShape_1 : decode cX10_countShape 1 = .ok (.istore_n 2, 1) := by decide +kernel
theorem dX10_countShape_2 : decode cX10_countShape 2 = .ok (.iconst 0, 1) := by decide +kernel
theorem dX10_countShape_3 : decode cX10_countShape 3 = .ok (.istore_n 3, 1) := by decide +kernel
theorem dX10_countShape_4 : decode cX10_countShape 4 = .ok (.iload_n 3, 1) := by decide +kernel
theorem dX10_countShape_5 : decode cX10_countShape 5 = .ok (.aload_n 0, 1) := by decide +kernel
theorem dX10_countShape_6 : decode cX10_countShape 6 = .ok (.getfield 76, 3) := by decide +kernel
theorem dX10_countShape_9 : decode cX10_countShape 9 = .ok (.if_icmp .ge 30, 3) := by decide +kernel
theorem dX10_countShape_12 : decode cX10_countShape 12 = .ok (.aload_n 0, 1) := by decide +kernel
theorem dX10_countShape_13 : decode cX10_countShape 13 = .ok (.getfield 18, 3) := by decide +kernel
theorem dX10_countShape_16 : decode cX10_countShape 16 = .ok (.getfield 82, 3) := by decide +kernel
theorem dX10_countShape_19 : decode cX10_countShape 19 = .ok (.aload_n 0, 1) := by decide +kernel
theorem dX10_countShape_20 : decode cX10_countShape 20 = .ok (.getfield 9, 3) := by decide +kernel
theorem dX10_countShape_23 : decode cX10_countShape 23 = .ok (.iload_n 3, 1) := by decide +kernel
theorem dX10_countShape_24 : decode cX10_countShape 24 = .ok (.iaload, 1) := by decide +kernel
theorem dX10_countShape_25 : decode cX10_countShape 25 = .ok (.iaload, 1) := by decide +kernel
theorem dX10_countShape_26 : decode cX10_countShape 26 = .ok (.iload_n 1, 1) := by decide +kernel
theorem dX10_countShape_27 : decode cX10_countShape 27 = .ok (.if_icmp .ne 6, 3) := by decide +kernel
theorem dX10_countShape_30 : decode cX10_countShape 30 = .ok (.iinc 2 1, 3) := by decide +kernel
theorem dX10_countShape_33 : decode cX10_countShape 33 = .ok (.iinc 3 1, 3) := by decide +kernel
theorem dX10_countShape_36 : decode cX10_countShape 36 = .ok (.goto (-32), 3) := by decide +kernel
theorem dX10_countShape_39 : decode cX10_countShape 39 = .ok (.iload_n 2, 1) := by decide +kernel
theorem dX10_countShape_40 : decode cX10_countShape 40 = .ok (.ireturn, 1) := by decide +kernel
theorem dX11_init_0 : decode cX11_init 0 = .ok (.aload_n 0, 1) := by decide +kernel
theorem dX11_init_1 : decode cX11_init 1 = .ok (.invokespecial 3, 3) := by decide +kernel
theorem dX11_init_4 : decode cX11_init 4 = .ok (.aload_n 0, 1) := by decide +kernel
theorem dX11_init_5 : decode cX11_init 5 = .ok (.new 9, 3) := by decide +kernel
theorem dX11_init_8 : decode cX11_init 8 = .ok (.dup, 1) := by decide +kernel
theorem dX11_init_9 : decode cX11_init 9 = .ok (.invokespecial 11, 3) := by decide +kernel
theorem dX11_init_12 : decode cX11_init 12 = .ok (.putfield 12, 3) := by decide +kernel
theorem dX11_init_15 : decode cX11_init 15 = .ok (.aload_n 0, 1) := by decide +kernel
theorem dX11_init_16 : decode cX11_init 16 = .ok (.new 16, 3) := by decide +kernel
theorem dX11_init_19 : decode cX11_init 19 = .ok (.dup, 1) := by decide +kernel
theorem dX11_init_20 : decode cX11_init 20 = .ok (.invokespecial 18, 3) := by decide +kernel
theorem dX11_init_23 : decode cX11_init 23 = .ok (.putfield 19, 3) := by decide +kernel
theorem dX11_init_26 : decode cX11_init 26 = .ok (.aload_n 0, 1) := by decide +kernel
theorem dX11_init_27 : decode cX11_init 27 = .ok (.new 23, 3) := by decide +kernel
theorem dX11_init_30 : decode cX11_init 30 = .ok (.dup, 1) := by decide +kernel
theorem dX11_init_31 : decode cX11_init 31 = .ok (.invokespecial 25, 3) := by decide +kernel
theorem dX11_init_34 : decode cX11_init 34 = .ok (.putfield 26, 3) := by decide +kernel
theorem dX11_init_37 : decode cX11_init 37 = .ok (.aload_n 0, 1) := by decide +kernel
theorem dX11_init_38 : decode cX11_init 38 = .ok (.new 23, 3) := by decide +kernel
theorem dX11_init_41 : decode cX11_init 41 = .ok (.dup, 1) := by decide +kernel
theorem dX11_init_42 : decode cX11_init 42 = .ok (.invokespecial 25, 3) := by decide +kernel
theorem dX11_init_45 : decode cX11_init 45 = .ok (.putfield 30, 3) := by decide +kernel
theorem dX11_init_48 : decode cX11_init 48 = .ok (.aload_n 0, 1) := by decide +kernel
theorem dX11_init_49 : decode cX11_init 49 = .ok (.new 33, 3) := by decide +kernel
theorem dX11_init_52 : decode cX11_init 52 = .ok (.dup, 1) := by decide +kernel
theorem dX11_init_53 : decode cX11_init 53 = .ok (.invokespecial 35, 3) := by decide +kernel
theorem dX11_init_56 : decode cX11_init 56 = .ok (.putfield 36, 3) := by decide +kernel
theorem dX11_init_59 : decode cX11_init 59 = .ok (.aload_n 0, 1) := by decide +kernel
theorem dX11_init_60 : decode cX11_init 60 = .ok (.new 33, 3) := by decide +kernel
theorem dX11_init_63 : decode cX11_init 63 = .ok (.dup, 1) := by decide +kernel
theorem dX11_init_64 : decode cX11_init 64 = .ok (.invokespecial 35, 3) := by decide +kernel
theorem dX11_init_67 : decode cX11_init 67 = .ok (.putfield 40, 3) := by decide +kernel
theorem dX11_init_70 : decode cX11_init 70 = .ok (.aload_n 0, 1) := by decide +kernel
theorem dX11_init_71 : decode cX11_init 71 = .ok (.new 43, 3) := by decide +kernel
theorem dX11_init_74 : decode cX11_init 74 = .ok (.dup, 1) := by decide +kernel
theorem dX11_init_75 : decode cX11_init 75 = .ok (.aload_n 0, 1) := by decide +kernel
theorem dX11_init_76 : decode cX11_init 76 = .ok (.getfield 19, 3) := by decide +kernel
theorem dX11_init_79 : decode cX11_init 79 = .ok (.invokespecial 45, 3) := by decide +kernel
theorem dX11_init_82 : decode cX11_init 82 = .ok (.putfield 48, 3) := by decide +kernel
theorem dX11_init_85 : decode cX11_init 85 = .ok (.aload_n 0, 1) := by decide +kernel
theorem dX11_init_86 : decode cX11_init 86 = .ok (.new 43, 3) := by decide +kernel
theorem dX11_init_89 : decode cX11_init 89 = .ok (.dup, 1) := by decide +kernel
theorem dX11_init_90 : decode cX11_init 90 = .ok (.aload_n 0, 1) := by decide +kernel
theorem dX11_init_91 : decode cX11_init 91 = .ok (.getfield 19, 3) := by decide +kernel
theorem dX11_init_94 : decode cX11_init 94 = .ok (.invokespecial 45, 3) := by decide +kernel
theorem dX11_init_97 : decode cX11_init 97 = .ok (.putfield 52, 3) := by decide +kernel
theorem dX11_init_100 : decode cX11_init 100 = .ok (.aload_n 0, 1) := by decide +kernel
theorem dX11_init_101 : decode cX11_init 101 = .ok (.getstatic 55, 3) := by decide +kernel
theorem dX11_init_104 : decode cX11_init 104 = .ok (.invokevirtual 59, 3) := by decide +kernel
theorem dX11_init_107 : decode cX11_init 107 = .ok (.checkcast 60, 3) := by decide +kernel
theorem dX11_init_110 : decode cX11_init 110 = .ok (.putfield 64, 3) := by decide +kernel
theorem dX11_init_113 : decode cX11_init 113 = .ok (.aload_n 0, 1) := by decide +kernel
theorem dX11_init_114 : decode cX11_init 114 = .ok (.new 67, 3) := by decide +kernel
theorem dX11_init_117 : decode cX11_init 117 = .ok (.dup, 1) := by decide +kernel
theorem dX11_init_118 : decode cX11_init 118 = .ok (.aload_n 0, 1) := by decide +kernel
theorem dX11_init_119 : decode cX11_init 119 = .ok (.getfield 19, 3) := by decide +kernel
theorem dX11_init_122 : decode cX11_init 122 = .ok (.aload_n 0, 1) := by decide +kernel
theorem dX11_init_123 : decode cX11_init 123 = .ok (.getfield 26, 3) := by decide +kernel
theorem dX11_init_126 : decode cX11_init 126 = .ok (.aload_n 0, 1) := by decide +kernel
theorem dX11_init_127 : decode cX11_init 127 = .ok (.getfield 36, 3) := by decide +kernel
theorem dX11_init_130 : decode cX11_init 130 = .ok (.aload_n 0, 1) := by decide +kernel
theorem dX11_init_131 : decode cX11_init 131 = .ok (.getfield 64, 3) := by decide +kernel
theorem dX11_init_134 : decode cX11_init 134 = .ok (.invokespecial 69, 3) := by decide +kernel
theorem dX11_init_137 : decode cX11_init 137 = .ok (.putfield 72, 3) := by decide +kernel
theorem dX11_init_140 : decode cX11_init 140 = .ok (.aload_n 0, 1) := by decide +kernel
theorem dX11_init_141 : decode cX11_init 141 = .ok (.new 76, 3) := by decide +kernel
theorem dX11_init_144 : decode cX11_init 144 = .ok (.dup, 1) := by decide +kernel
theorem dX11_init_145 : decode cX11_init 145 = .ok (.new 78, 3) := by decide +kernel
theorem dX11_init_148 : decode cX11_init 148 = .ok (.dup, 1) := by decide +kernel
theorem dX11_init_149 : decode cX11_init 149 = .ok (.aload_n 0, 1) := by decide +kernel
theorem dX11_init_150 : decode cX11_init 150 = .ok (.getfield 19, 3) := by decide +kernel
theorem dX11_init_153 : decode cX11_init 153 = .ok (.aload_n 0, 1) := by decide +kernel
theorem dX11_init_154 : decode cX11_init 154 = .ok (.getfield 72, 3) := by decide +kernel
theorem dX11_init_157 : decode cX11_init 157 = .ok (.invokespecial 80, 3) := by decide +kernel
theorem dX11_init_160 : decode cX11_init 160 = .ok (.aload_n 0, 1) := by decide +kernel
theorem dX11_init_161 : decode cX11_init 161 = .ok (.getfield 36, 3) := by decide +kernel
theorem dX11_init_164 : decode cX11_init 164 = .ok (.aload_n 0, 1) := by decide +kernel
theorem dX11_init_165 : decode cX11_init 165 = .ok (.getfield 64, 3) := by decide +kernel
theorem dX11_init_168 : decode cX11_init 168 = .ok (.invokespecial 83, 3) := by decide +kernel
theorem dX11_init_171 : decode cX11_init 171 = .ok (.putfield 86, 3) := by decide +kernel
theorem dX11_init_174 : decode cX11_init 174 = .ok (.aload_n 0, 1) := by decide +kernel
theorem dX11_init_175 : decode cX11_init 175 = .ok (.new 90, 3) := by decide +kernel
theorem dX11_init_178 : decode cX11_init 178 = .ok (.dup, 1) := by decide +kernel
theorem dX11_init_179 : decode cX11_init 179 = .ok (.aload_n 0, 1) := by decide +kernel
theorem dX11_init_180 : decode cX11_init 180 = .ok (.getfield 19, 3) := by decide +kernel
theorem dX11_init_183 : decode cX11_init 183 = .ok (.aload_n 0, 1) := by decide +kernel
theorem dX11_init_184 : decode cX11_init 184 = .ok (.getfield 36, 3) := by decide +kernel
theorem dX11_init_187 : decode cX11_init 187 = .ok (.aload_n 0, 1) := by decide +kernel
theorem dX11_init_188 : decode cX11_init 188 = .ok (.getfield 86, 3) := by decide +kernel
theorem dX11_init_191 : decode cX11_init 191 = .ok (.invokespecial 92, 3) := by decide +kernel
theorem dX11_init_194 : decode cX11_init 194 = .ok (.putfield 95, 3) := by decide +kernel
theorem dX11_init_197 : decode cX11_init 197 = .ok (.aload_n 0, 1) := by decide +kernel
theorem dX11_init_198 : decode cX11_init 198 = .ok (.new 99, 3) := by decide +kernel
theorem dX11_init_201 : decode cX11_init 201 = .ok (.dup, 1) := by decide +kernel
theorem dX11_init_202 : decode cX11_init 202 = .ok (.aload_n 0, 1) := by decide +kernel
theorem dX11_init_203 : decode cX11_init 203 = .ok (.getfield 36, 3) := by decide +kernel
theorem dX11_init_206 : decode cX11_init 206 = .ok (.aload_n 0, 1) := by decide +kernel
theorem dX11_init_207 : decode cX11_init 207 = .ok (.getfield 48, 3) := by decide +kernel
theorem dX11_init_210 : decode cX11_init 210 = .ok (.aload_n 0, 1) := by decide +kernel
theorem dX11_init_211 : decode cX11_init 211 = .ok (.getfield 86, 3) := by decide +kernel
theorem dX11_init_214 : decode cX11_init 214 = .ok (.aload_n 0, 1) := by decide +kernel
theorem dX11_init_215 : decode cX11_init 215 = .ok (.getfield 64, 3) := by decide +kernel
theorem dX11_init_218 : decode cX11_init 218 = .ok (.invokespecial 101, 3) := by decide +kernel
theorem dX11_init_221 : decode cX11_init 221 = .ok (.putfield 104, 3) := by decide +kernel
theorem dX11_init_224 : decode cX11_init 224 = .ok (.aload_n 0, 1) := by decide +kernel
theorem dX11_init_225 : decode cX11_init 225 = .ok (.new 108, 3) := by decide +kernel
theorem dX11_init_228 : decode cX11_init 228 = .ok (.dup, 1) := by decide +kernel
theorem dX11_init_229 : decode cX11_init 229 = .ok (.aload_n 0, 1) := by decide +kernel
theorem dX11_init_230 : decode cX11_init 230 = .ok (.getfield 72, 3) := by decide +kernel
theorem dX11_init_233 : decode cX11_init 233 = .ok (.aload_n 0, 1) := by decide +kernel
theorem dX11_init_234 : decode cX11_init 234 = .ok (.getfield 19, 3) := by decide +kernel
theorem dX11_init_237 : decode cX11_init 237 = .ok (.invokespecial 110, 3) := by decide +kernel
theorem dX11_init_240 : decode cX11_init 240 = .ok (.putfield 113, 3) := by decide +kernel
theorem dX11_init_243 : decode cX11_init 243 = .ok (.return_, 1) := by decide +kernel
theorem dX11_feed_0 : decode cX11_feed 0 = .ok (.aload_n 0, 1) := by decide +kernel
theorem dX11_feed_1 : decode cX11_feed 1 = .ok (.getfield 12, 3) := by decide +kernel
theorem dX11_feed_4 : decode cX11_feed 4 = .ok (.getfield 117, 3) := by decide +kernel
theorem dX11_feed_7 : decode cX11_feed 7 = .ok (.sipush 380, 3) := by decide +kernel
theorem dX11_feed_10 : decode cX11_feed 10 = .ok (.if_icmp .le 5, 3) := by decide +kernel
theorem dX11_feed_13 : decode cX11_feed 13 = .ok (.iconst (-1), 1) := by decide +kernel
theorem dX11_feed_14 : decode cX11_feed 14 = .ok (.ireturn, 1) := by decide +kernel
theorem dX11_feed_15 : decode cX11_feed 15 = .ok (.aload_n 0, 1) := by decide +kernel
theorem dX11_feed_16 : decode cX11_feed 16 = .ok (.getfield 12, 3) := by decide +kernel
theorem dX11_feed_19 : decode cX11_feed 19 = .ok (.iload_n 1, 1) := by decide +kernel
theorem dX11_feed_20 : decode cX11_feed 20 = .ok (.invokevirtual 121, 3) := by decide +kernel
theorem dX11_feed_23 : decode cX11_feed 23 = .ok (.aload_n 0, 1) := by decide +kernel
theorem dX11_feed_24 : decode cX11_feed 24 = .ok (.getfield 12, 3) := by decide +kernel
theorem dX11_feed_27 : decode cX11_feed 27 = .ok (.iload_n 2, 1) := by decide +kernel
theorem dX11_feed_28 : decode cX11_feed 28 = .ok (.invokevirtual 121, 3) := by decide +kernel
theorem dX11_feed_31 : decode cX11_feed 31 = .ok (.aload_n 0, 1) := by decide +kernel
theorem dX11_feed_32 : decode cX11_feed 32 = .ok (.getfield 12, 3) := by decide +kernel
theorem dX11_feed_35 : decode cX11_feed 35 = .ok (.iload_n 3, 1) := by decide +kernel
theorem dX11_feed_36 : decode cX11_feed 36 = .ok (.invokevirtual 121, 3) := by decide +kernel
theorem dX11_feed_39 : decode cX11_feed 39 = .ok (.aload_n 0, 1) := by decide +kernel
theorem dX11_feed_40 : decode cX11_feed 40 = .ok (.getfield 12, 3) := by decide +kernel
theorem dX11_feed_43 : decode cX11_feed 43 = .ok (.iload 4, 2) := by decide +kernel
theorem dX11_feed_45 : decode cX11_feed 45 = .ok (.invokevirtual 121, 3) := by decide +kernel
theorem dX11_feed_48 : decode cX11_feed 48 = .ok (.aload_n 0, 1) := by decide +kernel
theorem dX11_feed_49 : decode cX11_feed 49 = .ok (.getfield 12, 3) := by decide +kernel
theorem dX11_feed_52 : decode cX11_feed 52 = .ok (.iload 5, 2) := by decide +kernel
theorem dX11_feed_54 : decode cX11_feed 54 = .ok (.invokevirtual 121, 3) := by decide +kernel
theorem dX11_feed_57 : decode cX11_feed 57 = .ok (.aload_n 0, 1) := by decide +kernel
theorem dX11_feed_58 : decode cX11_feed 58 = .ok (.getfield 12, 3) := by decide +kernel
theorem dX11_feed_61 : decode cX11_feed 61 = .ok (.getfield 117, 3) := by decide +kernel
theorem dX11_feed_64 : decode cX11_feed 64 = .ok (.ireturn, 1) := by decide +kernel
theorem dX11_lexicon_0 : decode cX11_lexicon 0 = .ok (.aload_n 0, 1) := by decide +kernel
theorem dX11_lexicon_1 : decode cX11_lexicon 1 = .ok (.iload_n 1, 1) := by decide +kernel
theorem dX11_lexicon_2 : decode cX11_lexicon 2 = .ok (.iconst 0, 1) := by decide +kernel
theorem dX11_lexicon_3 : decode cX11_lexicon 3 = .ok (.aload_n 0, 1) := by decide +kernel
theorem dX11_lexicon_4 : decode cX11_lexicon 4 = .ok (.getfield 12, 3) := by decide +kernel
theorem dX11_lexicon_7 : decode cX11_lexicon 7 = .ok (.getfield 117, 3) := by decide +kernel
theorem dX11_lexicon_10 : decode cX11_lexicon 10 = .ok (.invokevirtual 125, 3) := by decide +kernel
theorem dX11_lexicon_13 : decode cX11_lexicon 13 = .ok (.aload_n 0, 1) := by decide +kernel
theorem dX11_lexicon_14 : decode cX11_lexicon 14 = .ok (.getfield 12, 3) := by decide +kernel
theorem dX11_lexicon_17 : decode cX11_lexicon 17 = .ok (.iload_n 1, 1) := by decide +kernel
theorem dX11_lexicon_18 : decode cX11_lexicon 18 = .ok (.invokevirtual 129, 3) := by decide +kernel
theorem dX11_lexicon_21 : decode cX11_lexicon 21 = .ok (.aload_n 0, 1) := by decide +kernel
theorem dX11_lexicon_22 : decode cX11_lexicon 22 = .ok (.getfield 19, 3) := by decide +kernel
theorem dX11_lexicon_25 : decode cX11_lexicon 25 = .ok (.aload_n 0, 1) := by decide +kernel
theorem dX11_lexicon_26 : decode cX11_lexicon 26 = .ok (.getfield 12, 3) := by decide +kernel
theorem dX11_lexicon_29 : decode cX11_lexicon 29 = .ok (.invokevirtual 132, 3) := by decide +kernel
theorem dX11_lexicon_32 : decode cX11_lexicon 32 = .ok (.ifCond .eq 7, 3) := by decide +kernel
theorem dX11_lexicon_35 : decode cX11_lexicon 35 = .ok (.aload_n 0, 1) := by decide +kernel
theorem dX11_lexicon_36 : decode cX11_lexicon 36 = .ok (.invokevirtual 136, 3) := by decide +kernel
theorem dX11_lexicon_39 : decode cX11_lexicon 39 = .ok (.aload_n 0, 1) := by decide +kernel
theorem dX11_lexicon_40 : decode cX11_lexicon 40 = .ok (.getfield 12, 3) := by decide +kernel
theorem dX11_lexicon_43 : decode cX11_lexicon 43 = .ok (.aload_n 0, 1) := by decide +kernel
theorem dX11_lexicon_44 : decode cX11_lexicon 44 = .ok (.getfield 19, 3) := by decide +kernel
theorem dX11_lexicon_47 : decode cX11_lexicon 47 = .ok (.getfield 139, 3) := by decide +kernel
theorem dX11_lexicon_50 : decode cX11_lexicon 50 = .ok (.invokevirtual 140, 3) := by decide +kernel
theorem dX11_lexicon_53 : decode cX11_lexicon 53 = .ok (.ireturn, 1) := by decide +kernel
theorem dX11_shapes_0 : decode cX11_shapes 0 = .ok (.aload_n 0, 1) := by decide +kernel
theorem dX11_shapes_1 : decode cX11_shapes 1 = .ok (.iload_n 1, 1) := by decide +kernel
theorem dX11_shapes_2 : decode cX11_shapes 2 = .ok (.iconst 0, 1) := by decide +kernel
theorem dX11_shapes_3 : decode cX11_shapes 3 = .ok (.aload_n 0, 1) := by decide +kernel
theorem dX11_shapes_4 : decode cX11_shapes 4 = .ok (.getfield 12, 3) := by decide +kernel
theorem dX11_shapes_7 : decode cX11_shapes 7 = .ok (.getfield 117, 3) := by decide +kernel
theorem dX11_shapes_10 : decode cX11_shapes 10 = .ok (.invokevirtual 125, 3) := by decide +kernel
theorem dX11_shapes_13 : decode cX11_shapes 13 = .ok (.aload_n 0, 1) := by decide +kernel
theorem dX11_shapes_14 : decode cX11_shapes 14 = .ok (.getfield 12, 3) := by decide +kernel
theorem dX11_shapes_17 : decode cX11_shapes 17 = .ok (.iload_n 1, 1) := by decide +kernel
theorem dX11_shapes_18 : decode cX11_shapes 18 = .ok (.invokevirtual 129, 3) := by decide +kernel
theorem dX11_shapes_21 : decode cX11_shapes 21 = .ok (.aload_n 0, 1) := by decide +kernel
theorem dX11_shapes_22 : decode cX11_shapes 22 = .ok (.getfield 30, 3) := by decide +kernel
theorem dX11_shapes_25 : decode cX11_shapes 25 = .ok (.aload_n 0, 1) := by decide +kernel
theorem dX11_shapes_26 : decode cX11_shapes 26 = .ok (.getfield 12, 3) := by decide +kernel
theorem dX11_shapes_29 : decode cX11_shapes 29 = .ok (.invokevirtual 144, 3) := by decide +kernel
theorem dX11_shapes_32 : decode cX11_shapes 32 = .ok (.ifCond .eq 27, 3) := by decide +kernel
theorem dX11_shapes_35 : decode cX11_shapes 35 = .ok (.aload_n 0, 1) := by decide +kernel
theorem dX11_shapes_36 : decode cX11_shapes 36 = .ok (.getfield 12, 3) := by decide +kernel
theorem dX11_shapes_39 : decode cX11_shapes 39 = .ok (.iload_n 1, 1) := by decide +kernel
theorem dX11_shapes_40 : decode cX11_shapes 40 = .ok (.invokevirtual 129, 3) := by decide +kernel
theorem dX11_shapes_43 : decode cX11_shapes 43 = .ok (.aload_n 0, 1) := by decide +kernel
theorem dX11_shapes_44 : decode cX11_shapes 44 = .ok (.getfield 26, 3) := by decide +kernel
theorem dX11_shapes_47 : decode cX11_shapes 47 = .ok (.aload_n 0, 1) := by decide +kernel
theorem dX11_shapes_48 : decode cX11_shapes 48 = .ok (.getfield 12, 3) := by decide +kernel
theorem dX11_shapes_51 : decode cX11_shapes 51 = .ok (.invokevirtual 144, 3) := by decide +kernel
theorem dX11_shapes_54 : decode cX11_shapes 54 = .ok (.pop, 1) := by decide +kernel
theorem dX11_shapes_55 : decode cX11_shapes 55 = .ok (.aload_n 0, 1) := by decide +kernel
theorem dX11_shapes_56 : decode cX11_shapes 56 = .ok (.invokevirtual 136, 3) := by decide +kernel
theorem dX11_shapes_59 : decode cX11_shapes 59 = .ok (.aload_n 0, 1) := by decide +kernel
theorem dX11_shapes_60 : decode cX11_shapes 60 = .ok (.getfield 12, 3) := by decide +kernel
theorem dX11_shapes_63 : decode cX11_shapes 63 = .ok (.aload_n 0, 1) := by decide +kernel
theorem dX11_shapes_64 : decode cX11_shapes 64 = .ok (.getfield 26, 3) := by decide +kernel
theorem dX11_shapes_67 : decode cX11_shapes 67 = .ok (.getfield 145, 3) := by decide +kernel
theorem dX11_shapes_70 : decode cX11_shapes 70 = .ok (.invokevirtual 140, 3) := by decide +kernel
theorem dX11_shapes_73 : decode cX11_shapes 73 = .ok (.ireturn, 1) := by decide +kernel
theorem dX11_reading_0 : decode cX11_reading 0 = .ok (.aload_n 0, 1) := by decide +kernel
theorem dX11_reading_1 : decode cX11_reading 1 = .ok (.iload_n 1, 1) := by decide +kernel
theorem dX11_reading_2 : decode cX11_reading 2 = .ok (.iconst 0, 1) := by decide +kernel
theorem dX11_reading_3 : decode cX11_reading 3 = .ok (.aload_n 0, 1) := by decide +kernel
theorem dX11_reading_4 : decode cX11_reading 4 = .ok (.getfield 12, 3) := by decide +kernel
theorem dX11_reading_7 : decode cX11_reading 7 = .ok (.getfield 117, 3) := by decide +kernel
theorem dX11_reading_10 : decode cX11_reading 10 = .ok (.invokevirtual 125, 3) := by decide +kernel
theorem dX11_reading_13 : decode cX11_reading 13 = .ok (.aload_n 0, 1) := by decide +kernel
theorem dX11_reading_14 : decode cX11_reading 14 = .ok (.getfield 12, 3) := by decide +kernel
theorem dX11_reading_17 : decode cX11_reading 17 = .ok (.iload_n 1, 1) := by decide +kernel
theorem dX11_reading_18 : decode cX11_reading 18 = .ok (.invokevirtual 129, 3) := by decide +kernel
theorem dX11_reading_21 : decode cX11_reading 21 = .ok (.aload_n 0, 1) := by decide +kernel
theorem dX11_reading_22 : decode cX11_reading 22 = .ok (.getfield 40, 3) := by decide +kernel
theorem dX11_reading_25 : decode cX11_reading 25 = .ok (.aload_n 0, 1) := by decide +kernel
theorem dX11_reading_26 : decode cX11_reading 26 = .ok (.getfield 12, 3) := by decide +kernel
theorem dX11_reading_29 : decode cX11_reading 29 = .ok (.invokevirtual 146, 3) := by decide +kernel
theorem dX11_reading_32 : decode cX11_reading 32 = .ok (.ifCond .eq 27, 3) := by decide +kernel
theorem dX11_reading_35 : decode cX11_reading 35 = .ok (.aload_n 0, 1) := by decide +kernel
theorem dX11_reading_36 : decode cX11_reading 36 = .ok (.getfield 12, 3) := by decide +kernel
theorem dX11_reading_39 : decode cX11_reading 39 = .ok (.iload_n 1, 1) := by decide +kernel
theorem dX11_reading_40 : decode cX11_reading 40 = .ok (.invokevirtual 129, 3) := by decide +kernel
theorem dX11_reading_43 : decode cX11_reading 43 = .ok (.aload_n 0, 1) := by decide +kernel
theorem dX11_reading_44 : decode cX11_reading 44 = .ok (.getfield 36, 3) := by decide +kernel
theorem dX11_reading_47 : decode cX11_reading 47 = .ok (.aload_n 0, 1) := by decide +kernel
theorem dX11_reading_48 : decode cX11_reading 48 = .ok (.getfield 12, 3) := by decide +kernel
theorem dX11_reading_51 : decode cX11_reading 51 = .ok (.invokevirtual 146, 3) := by decide +kernel
theorem dX11_reading_54 : decode cX11_reading 54 = .ok (.pop, 1) := by decide +kernel
theorem dX11_reading_55 : decode cX11_reading 55 = .ok (.aload_n 0, 1) := by decide +kernel
theorem dX11_reading_56 : decode cX11_reading 56 = .ok (.invokevirtual 136, 3) := by decide +kernel
theorem dX11_reading_59 : decode cX11_reading 59 = .ok (.aload_n 0, 1) := by decide +kernel
theorem dX11_reading_60 : decode cX11_reading 60 = .ok (.getfield 12, 3) := by decide +kernel
theorem dX11_reading_63 : decode cX11_reading 63 = .ok (.aload_n 0, 1) := by decide +kernel
theorem dX11_reading_64 : decode cX11_reading 64 = .ok (.getfield 36, 3) := by decide +kernel
theorem dX11_reading_67 : decode cX11_reading 67 = .ok (.getfield 147, 3) := by decide +kernel
theorem dX11_reading_70 : decode cX11_reading 70 = .ok (.invokevirtual 140, 3) := by decide +kernel
theorem dX11_reading_73 : decode cX11_reading 73 = .ok (.ireturn, 1) := by decide +kernel
theorem dX11_fault_0 : decode cX11_fault 0 = .ok (.aload_n 0, 1) := by decide +kernel
theorem dX11_fault_1 : decode cX11_fault 1 = .ok (.getfield 12, 3) := by decide +kernel
theorem dX11_fault_4 : decode cX11_fault 4 = .ok (.getfield 150, 3) := by decide +kernel
theorem dX11_fault_7 : decode cX11_fault 7 = .ok (.ireturn, 1) := by decide +kernel
theorem dX11_follows_0 : decode cX11_follows 0 = .ok (.aload_n 0, 1) := by decide +kernel
theorem dX11_follows_1 : decode cX11_follows 1 = .ok (.iload_n 1, 1) := by decide +kernel
theorem dX11_follows_2 : decode cX11_follows 2 = .ok (.iconst 0, 1) := by decide +kernel
theorem dX11_follows_3 : decode cX11_follows 3 = .ok (.aload_n 0, 1) := by decide +kernel
theorem dX11_follows_4 : decode cX11_follows 4 = .ok (.getfield 12, 3) := by decide +kernel
theorem dX11_follows_7 : decode cX11_follows 7 = .ok (.getfield 117, 3) := by decide +kernel
theorem dX11_follows_10 : decode cX11_follows 10 = .ok (.invokevirtual 125, 3) := by decide +kernel
theorem dX11_follows_13 : decode cX11_follows 13 = .ok (.aload_n 0, 1) := by decide +kernel
theorem dX11_follows_14 : decode cX11_follows 14 = .ok (.getfield 12, 3) := by decide +kernel
theorem dX11_follows_17 : decode cX11_follows 17 = .ok (.iload_n 1, 1) := by decide +kernel
theorem dX11_follows_18 : decode cX11_follows 18 = .ok (.invokevirtual 129, 3) := by decide +kernel
theorem dX11_follows_21 : decode cX11_follows 21 = .ok (.aload_n 0, 1) := by decide +kernel
theorem dX11_follows_22 : decode cX11_follows 22 = .ok (.getfield 52, 3) := by decide +kernel
theorem dX11_follows_25 : decode cX11_follows 25 = .ok (.aload_n 0, 1) := by decide +kernel
theorem dX11_follows_26 : decode cX11_follows 26 = .ok (.getfield 12, 3) := by decide +kernel
theorem dX11_follows_29 : decode cX11_follows 29 = .ok (.invokevirtual 153, 3) := by decide +kernel
theorem dX11_follows_32 : decode cX11_follows 32 = .ok (.ifCond .eq 27, 3) := by decide +kernel
theorem dX11_follows_35 : decode cX11_follows 35 = .ok (.aload_n 0, 1) := by decide +kernel
theorem dX11_follows_36 : decode cX11_follows 36 = .ok (.getfield 12, 3) := by decide +kernel
theorem dX11_follows_39 : decode cX11_follows 39 = .ok (.iload_n 1, 1) := by decide +kernel
theorem dX11_follows_40 : decode cX11_follows 40 = .ok (.invokevirtual 129, 3) := by decide +kernel
theorem dX11_follows_43 : decode cX11_follows 43 = .ok (.aload_n 0, 1) := by decide +kernel
theorem dX11_follows_44 : decode cX11_follows 44 = .ok (.getfield 48, 3) := by decide +kernel
theorem dX11_follows_47 : decode cX11_follows 47 = .ok (.aload_n 0, 1) := by decide +kernel
theorem dX11_follows_48 : decode cX11_follows 48 = .ok (.getfield 12, 3) := by decide +kernel
theorem dX11_follows_51 : decode cX11_follows 51 = .ok (.invokevirtual 153, 3) := by decide +kernel
theorem dX11_follows_54 : decode cX11_follows 54 = .ok (.pop, 1) := by decide +kernel
theorem dX11_follows_55 : decode cX11_follows 55 = .ok (.aload_n 0, 1) := by decide +kernel
theorem dX11_follows_56 : decode cX11_follows 56 = .ok (.invokevirtual 136, 3) := by decide +kernel
theorem dX11_follows_59 : decode cX11_follows 59 = .ok (.aload_n 0, 1) := by decide +kernel
theorem dX11_follows_60 : decode cX11_follows 60 = .ok (.getfield 12, 3) := by decide +kernel
theorem dX11_follows_63 : decode cX11_follows 63 = .ok (.aload_n 0, 1) := by decide +kernel
theorem dX11_follows_64 : decode cX11_follows 64 = .ok (.getfield 48, 3) := by decide +kernel
theorem dX11_follows_67 : decode cX11_follows 67 = .ok (.getfield 154, 3) := by decide +kernel
theorem dX11_follows_70 : decode cX11_follows 70 = .ok (.invokevirtual 140, 3) := by decide +kernel
theorem dX11_follows_73 : decode cX11_follows 73 = .ok (.ireturn, 1) := by decide +kernel
theorem dX11_forget_0 : decode cX11_forget 0 = .ok (.aload_n 0, 1) := by decide +kernel
theorem dX11_forget_1 : decode cX11_forget 1 = .ok (.getfield 19, 3) := by decide +kernel
theorem dX11_forget_4 : decode cX11_forget 4 = .ok (.getfield 139, 3) := by decide +kernel
theorem dX11_forget_7 : decode cX11_forget 7 = .ok (.istore_n 1, 1) := by decide +kernel
theorem dX11_forget_8 : decode cX11_forget 8 = .ok (.aload_n 0, 1) := by decide +kernel
theorem dX11_forget_9 : decode cX11_forget 9 = .ok (.getfield 19, 3) := by decide +kernel
theorem dX11_forget_12 : decode cX11_forget 12 = .ok (.invokevirtual 155, 3) := by decide +kernel
theorem dX11_forget_15 : decode cX11_forget 15 = .ok (.aload_n 0, 1) := by decide +kernel
theorem dX11_forget_16 : decode cX11_forget 16 = .ok (.getfield 48, 3) := by decide +kernel
theorem dX11_forget_19 : decode cX11_forget 19 = .ok (.invokevirtual 158, 3) := by decide +kernel
theorem dX11_forget_22 : decode cX11_forget 22 = .ok (.aload_n 0, 1) := by decide +kernel
theorem dX11_forget_23 : decode cX11_forget 23 = .ok (.invokevirtual 136, 3) := by decide +kernel
theorem dX11_forget_26 : decode cX11_forget 26 = .ok (.iload_n 1, 1) := by decide +kernel
theorem dX11_forget_27 : decode cX11_forget 27 = .ok (.ireturn, 1) := by decide +kernel
theorem dX11_set_0 : decode cX11_set 0 = .ok (.aload_n 0, 1) := by decide +kernel
theorem dX11_set_1 : decode cX11_set 1 = .ok (.iload_n 1, 1) := by decide +kernel
theorem dX11_set_2 : decode cX11_set 2 = .ok (.iconst 0, 1) := by decide +kernel
theorem dX11_set_3 : decode cX11_set 3 = .ok (.bipush 6, 2) := by decide +kernel
theorem dX11_set_5 : decode cX11_set 5 = .ok (.invokevirtual 125, 3) := by decide +kernel
theorem dX11_set_8 : decode cX11_set 8 = .ok (.aload_n 0, 1) := by decide +kernel
theorem dX11_set_9 : decode cX11_set 9 = .ok (.iload_n 2, 1) := by decide +kernel
theorem dX11_set_10 : decode cX11_set 10 = .ok (.iconst 0, 1) := by decide +kernel
theorem dX11_set_11 : decode cX11_set 11 = .ok (.getstatic 159, 3) := by decide +kernel
theorem dX11_set_14 : decode cX11_set 14 = .ok (.iload_n 1, 1) := by decide +kernel
theorem dX11_set_15 : decode cX11_set 15 = .ok (.iaload, 1) := by decide +kernel
theorem dX11_set_16 : decode cX11_set 16 = .ok (.invokevirtual 125, 3) := by decide +kernel
theorem dX11_set_19 : decode cX11_set 19 = .ok (.aload_n 0, 1) := by decide +kernel
theorem dX11_set_20 : decode cX11_set 20 = .ok (.getfield 64, 3) := by decide +kernel
theorem dX11_set_23 : decode cX11_set 23 = .ok (.iload_n 1, 1) := by decide +kernel
theorem dX11_set_24 : decode cX11_set 24 = .ok (.iaload, 1) := by decide +kernel
theorem dX11_set_25 : decode cX11_set 25 = .ok (.istore_n 3, 1) := by decide +kernel
theorem dX11_set_26 : decode cX11_set 26 = .ok (.aload_n 0, 1) := by decide +kernel
theorem dX11_set_27 : decode cX11_set 27 = .ok (.getfield 64, 3) := by decide +kernel
theorem dX11_set_30 : decode cX11_set 30 = .ok (.iload_n 1, 1) := by decide +kernel
theorem dX11_set_31 : decode cX11_set 31 = .ok (.iload_n 2, 1) := by decide +kernel
theorem dX11_set_32 : decode cX11_set 32 = .ok (.iastore, 1) := by decide +kernel
theorem dX11_set_33 : decode cX11_set 33 = .ok (.aload_n 0, 1) := by decide +kernel
theorem dX11_set_34 : decode cX11_set 34 = .ok (.invokevirtual 136, 3) := by decide +kernel
theorem dX11_set_37 : decode cX11_set 37 = .ok (.iload_n 3, 1) := by decide +kernel
theorem dX11_set_38 : decode cX11_set 38 = .ok (.ireturn, 1) := by decide +kernel
theorem dX11_weigh_0 : decode cX11_weigh 0 = .ok (.aload_n 0, 1) := by decide +kernel
theorem dX11_weigh_1 : decode cX11_weigh 1 = .ok (.iload_n 1, 1) := by decide +kernel
theorem dX11_weigh_2 : decode cX11_weigh 2 = .ok (.invokevirtual 162, 3) := by decide +kernel
theorem dX11_weigh_5 : decode cX11_weigh 5 = .ok (.aload_n 0, 1) := by decide +kernel
theorem dX11_weigh_6 : decode cX11_weigh 6 = .ok (.iload_n 2, 1) := by decide +kernel
theorem dX11_weigh_7 : decode cX11_weigh 7 = .ok (.iconst 0, 1) := by decide +kernel
theorem dX11_weigh_8 : decode cX11_weigh 8 = .ok (.bipush 99, 2) := by decide +kernel
theorem dX11_weigh_10 : decode cX11_weigh 10 = .ok (.invokevirtual 125, 3) := by decide +kernel
theorem dX11_weigh_13 : decode cX11_weigh 13 = .ok (.aload_n 0, 1) := by decide +kernel
theorem dX11_weigh_14 : decode cX11_weigh 14 = .ok (.getfield 19, 3) := by decide +kernel
theorem dX11_weigh_17 : decode cX11_weigh 17 = .ok (.getfield 165, 3) := by decide +kernel
theorem dX11_weigh_20 : decode cX11_weigh 20 = .ok (.iload_n 1, 1) := by decide +kernel
theorem dX11_weigh_21 : decode cX11_weigh 21 = .ok (.iaload, 1) := by decide +kernel
theorem dX11_weigh_22 : decode cX11_weigh 22 = .ok (.istore_n 3, 1) := by decide +kernel
theorem dX11_weigh_23 : decode cX11_weigh 23 = .ok (.aload_n 0, 1) := by decide +kernel
theorem dX11_weigh_24 : decode cX11_weigh 24 = .ok (.getfield 19, 3) := by decide +kernel
theorem dX11_weigh_27 : decode cX11_weigh 27 = .ok (.iload_n 1, 1) := by decide +kernel
theorem dX11_weigh_28 : decode cX11_weigh 28 = .ok (.iload_n 2, 1) := by decide +kernel
theorem dX11_weigh_29 : decode cX11_weigh 29 = .ok (.invokevirtual 168, 3) := by decide +kernel
theorem dX11_weigh_32 : decode cX11_weigh 32 = .ok (.aload_n 0, 1) := by decide +kernel
theorem dX11_weigh_33 : decode cX11_weigh 33 = .ok (.invokevirtual 136, 3) := by decide +kernel
theorem dX11_weigh_36 : decode cX11_weigh 36 = .ok (.iload_n 3, 1) := by decide +kernel
theorem dX11_weigh_37 : decode cX11_weigh 37 = .ok (.ireturn, 1) := by decide +kernel
theorem dX11_learn_0 : decode cX11_learn 0 = .ok (.aload_n 0, 1) := by decide +kernel
theorem dX11_learn_1 : decode cX11_learn 1 = .ok (.iload_n 1, 1) := by decide +kernel
theorem dX11_learn_2 : decode cX11_learn 2 = .ok (.invokevirtual 172, 3) := by decide +kernel
theorem dX11_learn_5 : decode cX11_learn 5 = .ok (.aload_n 0, 1) := by decide +kernel
theorem dX11_learn_6 : decode cX11_learn 6 = .ok (.getfield 86, 3) := by decide +kernel
theorem dX11_learn_9 : decode cX11_learn 9 = .ok (.iload_n 1, 1) := by decide +kernel
theorem dX11_learn_10 : decode cX11_learn 10 = .ok (.invokevirtual 175, 3) := by decide +kernel
theorem dX11_learn_13 : decode cX11_learn 13 = .ok (.aload_n 0, 1) := by decide +kernel
theorem dX11_learn_14 : decode cX11_learn 14 = .ok (.getfield 86, 3) := by decide +kernel
theorem dX11_learn_17 : decode cX11_learn 17 = .ok (.iload_n 1, 1) := by decide +kernel
theorem dX11_learn_18 : decode cX11_learn 18 = .ok (.invokevirtual 178, 3) := by decide +kernel
theorem dX11_learn_21 : decode cX11_learn 21 = .ok (.istore_n 2, 1) := by decide +kernel
theorem dX11_learn_22 : decode cX11_learn 22 = .ok (.iload_n 2, 1) := by decide +kernel
theorem dX11_learn_23 : decode cX11_learn 23 = .ok (.iconst (-1), 1) := by decide +kernel
theorem dX11_learn_24 : decode cX11_learn 24 = .ok (.if_icmp .ne 5, 3) := by decide +kernel
theorem dX11_learn_27 : decode cX11_learn 27 = .ok (.iconst (-1), 1) := by decide +kernel
theorem dX11_learn_28 : decode cX11_learn 28 = .ok (.ireturn, 1) := by decide +kernel
theorem dX11_learn_29 : decode cX11_learn 29 = .ok (.aload_n 0, 1) := by decide +kernel
theorem dX11_learn_30 : decode cX11_learn 30 = .ok (.getfield 86, 3) := by decide +kernel
theorem dX11_learn_33 : decode cX11_learn 33 = .ok (.iload_n 1, 1) := by decide +kernel
theorem dX11_learn_34 : decode cX11_learn 34 = .ok (.iconst 1, 1) := by decide +kernel
theorem dX11_learn_35 : decode cX11_learn 35 = .ok (.invokevirtual 181, 3) := by decide +kernel
theorem dX11_learn_38 : decode cX11_learn 38 = .ok (.istore_n 3, 1) := by decide +kernel
theorem dX11_learn_39 : decode cX11_learn 39 = .ok (.aload_n 0, 1) := by decide +kernel
theorem dX11_learn_40 : decode cX11_learn 40 = .ok (.getfield 19, 3) := by decide +kernel
theorem dX11_learn_43 : decode cX11_learn 43 = .ok (.iload_n 2, 1) := by decide +kernel
theorem dX11_learn_44 : decode cX11_learn 44 = .ok (.iconst 0, 1) := by decide +kernel
theorem dX11_learn_45 : decode cX11_learn 45 = .ok (.aload_n 0, 1) := by decide +kernel
theorem dX11_learn_46 : decode cX11_learn 46 = .ok (.getfield 19, 3) := by decide +kernel
theorem dX11_learn_49 : decode cX11_learn 49 = .ok (.getfield 165, 3) := by decide +kernel
theorem dX11_learn_52 : decode cX11_learn 52 = .ok (.iload_n 2, 1) := by decide +kernel
theorem dX11_learn_53 : decode cX11_learn 53 = .ok (.iaload, 1) := by decide +kernel
theorem dX11_learn_54 : decode cX11_learn 54 = .ok (.iconst 1, 1) := by decide +kernel
theorem dX11_learn_55 : decode cX11_learn 55 = .ok (.isub, 1) := by decide +kernel
theorem dX11_learn_56 : decode cX11_learn 56 = .ok (.invokestatic 185, 3) := by decide +kernel
theorem dX11_learn_59 : decode cX11_learn 59 = .ok (.invokevirtual 168, 3) := by decide +kernel
theorem dX11_learn_62 : decode cX11_learn 62 = .ok (.iload_n 3, 1) := by decide +kernel
theorem dX11_learn_63 : decode cX11_learn 63 = .ok (.iconst (-1), 1) := by decide +kernel
theorem dX11_learn_64 : decode cX11_learn 64 = .ok (.if_icmp .eq 27, 3) := by decide +kernel
theorem dX11_learn_67 : decode cX11_learn 67 = .ok (.aload_n 0, 1) := by decide +kernel
theorem dX11_learn_68 : decode cX11_learn 68 = .ok (.getfield 19, 3) := by decide +kernel
theorem dX11_learn_71 : decode cX11_learn 71 = .ok (.iload_n 3, 1) := by decide +kernel
theorem dX11_learn_72 : decode cX11_learn 72 = .ok (.bipush 99, 2) := by decide +kernel
theorem dX11_learn_74 : decode cX11_learn 74 = .ok (.aload_n 0, 1) := by decide +kernel
theorem dX11_learn_75 : decode cX11_learn 75 = .ok (.getfield 19, 3) := by decide +kernel
theorem dX11_learn_78 : decode cX11_learn 78 = .ok (.getfield 165, 3) := by decide +kernel
theorem dX11_learn_81 : decode cX11_learn 81 = .ok (.iload_n 3, 1) := by decide +kernel
theorem dX11_learn_82 : decode cX11_learn 82 = .ok (.iaload, 1) := by decide +kernel
theorem dX11_learn_83 : decode cX11_learn 83 = .ok (.iconst 1, 1) := by decide +kernel
theorem dX11_learn_84 : decode cX11_learn 84 = .ok (.iadd, 1) := by decide +kernel
theorem dX11_learn_85 : decode cX11_learn 85 = .ok (.invokestatic 190, 3) := by decide +kernel
theorem dX11_learn_88 : decode cX11_learn 88 = .ok (.invokevirtual 168, 3) := by decide +kernel
theorem dX11_learn_91 : decode cX11_learn 91 = .ok (.aload_n 0, 1) := by decide +kernel
theorem dX11_learn_92 : decode cX11_learn 92 = .ok (.invokevirtual 136, 3) := by decide +kernel
theorem dX11_learn_95 : decode cX11_learn 95 = .ok (.iload_n 2, 1) := by decide +kernel
theorem dX11_learn_96 : decode cX11_learn 96 = .ok (.ireturn, 1) := by decide +kernel
theorem dX11_told_0 : decode cX11_told 0 = .ok (.aload_n 0, 1) := by decide +kernel
theorem dX11_told_1 : decode cX11_told 1 = .ok (.iload_n 1, 1) := by decide +kernel
theorem dX11_told_2 : decode cX11_told 2 = .ok (.iconst 0, 1) := by decide +kernel
theorem dX11_told_3 : decode cX11_told 3 = .ok (.bipush 12, 2) := by decide +kernel
theorem dX11_told_5 : decode cX11_told 5 = .ok (.invokevirtual 125, 3) := by decide +kernel
theorem dX11_told_8 : decode cX11_told 8 = .ok (.iload_n 1, 1) := by decide +kernel
theorem dX11_told_9 : decode cX11_told 9 = .ok (.tableswitch 123 0 12 #[67, 75, 83, 91, 99, 123, 123, 123, 123, 123, 123, 107, 115], 67) := by decide +kernel
theorem dX11_told_76 : decode cX11_told 76 = .ok (.aload_n 0, 1) := by decide +kernel
theorem dX11_told_77 : decode cX11_told 77 = .ok (.getfield 19, 3) := by decide +kernel
theorem dX11_told_80 : decode cX11_told 80 = .ok (.getfield 139, 3) := by decide +kernel
theorem dX11_told_83 : decode cX11_told 83 = .ok (.ireturn, 1) := by decide +kernel
theorem dX11_told_84 : decode cX11_told 84 = .ok (.aload_n 0, 1) := by decide +kernel
theorem dX11_told_85 : decode cX11_told 85 = .ok (.getfield 19, 3) := by decide +kernel
theorem dX11_told_88 : decode cX11_told 88 = .ok (.getfield 193, 3) := by decide +kernel
theorem dX11_told_91 : decode cX11_told 91 = .ok (.ireturn, 1) := by decide +kernel
theorem dX11_told_92 : decode cX11_told 92 = .ok (.aload_n 0, 1) := by decide +kernel
theorem dX11_told_93 : decode cX11_told 93 = .ok (.getfield 26, 3) := by decide +kernel
theorem dX11_told_96 : decode cX11_told 96 = .ok (.getfield 145, 3) := by decide +kernel
theorem dX11_told_99 : decode cX11_told 99 = .ok (.ireturn, 1) := by decide +kernel
theorem dX11_told_100 : decode cX11_told 100 = .ok (.aload_n 0, 1) := by decide +kernel
theorem dX11_told_101 : decode cX11_told 101 = .ok (.getfield 36, 3) := by decide +kernel
theorem dX11_told_104 : decode cX11_told 104 = .ok (.getfield 147, 3) := by decide +kernel
theorem dX11_told_107 : decode cX11_told 107 = .ok (.ireturn, 1) := by decide +kernel
theorem dX11_told_108 : decode cX11_told 108 = .ok (.aload_n 0, 1) := by decide +kernel
theorem dX11_told_109 : decode cX11_told 109 = .ok (.getfield 36, 3) := by decide +kernel
theorem dX11_told_112 : decode cX11_told 112 = .ok (.getfield 196, 3) := by decide +kernel
theorem dX11_told_115 : decode cX11_told 115 = .ok (.ireturn, 1) := by decide +kernel
theorem dX11_told_116 : decode cX11_told 116 = .ok (.aload_n 0, 1) := by decide +kernel
theorem dX11_told_117 : decode cX11_told 117 = .ok (.getfield 12, 3) := by decide +kernel
theorem dX11_told_120 : decode cX11_told 120 = .ok (.getfield 117, 3) := by decide +kernel
theorem dX11_told_123 : decode cX11_told 123 = .ok (.ireturn, 1) := by decide +kernel
theorem dX11_told_124 : decode cX11_told 124 = .ok (.aload_n 0, 1) := by decide +kernel
theorem dX11_told_125 : decode cX11_told 125 = .ok (.getfield 64, 3) := by decide +kernel
theorem dX11_told_128 : decode cX11_told 128 = .ok (.bipush 6, 2) := by decide +kernel
theorem dX11_told_130 : decode cX11_told 130 = .ok (.iaload, 1) := by decide +kernel
theorem dX11_told_131 : decode cX11_told 131 = .ok (.ireturn, 1) := by decide +kernel
theorem dX11_told_132 : decode cX11_told 132 = .ok (.aload_n 0, 1) := by decide +kernel
theorem dX11_told_133 : decode cX11_told 133 = .ok (.getfield 64, 3) := by decide +kernel
theorem dX11_told_136 : decode cX11_told 136 = .ok (.iload_n 1, 1) := by decide +kernel
theorem dX11_told_137 : decode cX11_told 137 = .ok (.iconst 5, 1) := by decide +kernel
theorem dX11_told_138 : decode cX11_told 138 = .ok (.isub, 1) := by decide +kernel
theorem dX11_told_139 : decode cX11_told 139 = .ok (.iaload, 1) := by decide +kernel
theorem dX11_told_140 : decode cX11_told 140 = .ok (.ireturn, 1) := by decide +kernel
theorem dX11_word_0 : decode cX11_word 0 = .ok (.aload_n 0, 1) := by decide +kernel
theorem dX11_word_1 : decode cX11_word 1 = .ok (.iload_n 1, 1) := by decide +kernel
theorem dX11_word_2 : decode cX11_word 2 = .ok (.invokevirtual 162, 3) := by decide +kernel
theorem dX11_word_5 : decode cX11_word 5 = .ok (.aload_n 0, 1) := by decide +kernel
theorem dX11_word_6 : decode cX11_word 6 = .ok (.iload_n 2, 1) := by decide +kernel
theorem dX11_word_7 : decode cX11_word 7 = .ok (.iconst 0, 1) := by decide +kernel
theorem dX11_word_8 : decode cX11_word 8 = .ok (.iconst 3, 1) := by decide +kernel
theorem dX11_word_9 : decode cX11_word 9 = .ok (.invokevirtual 125, 3) := by decide +kernel
theorem dX11_word_12 : decode cX11_word 12 = .ok (.iload_n 2, 1) := by decide +kernel
theorem dX11_word_13 : decode cX11_word 13 = .ok (.tableswitch 57 0 2 #[27, 37, 47], 27) := by decide +kernel
theorem dX11_word_40 : decode cX11_word 40 = .ok (.aload_n 0, 1) := by decide +kernel
theorem dX11_word_41 : decode cX11_word 41 = .ok (.getfield 19, 3) := by decide +kernel
theorem dX11_word_44 : decode cX11_word 44 = .ok (.getfield 199, 3) := by decide +kernel
theorem dX11_word_47 : decode cX11_word 47 = .ok (.iload_n 1, 1) := by decide +kernel
theorem dX11_word_48 : decode cX11_word 48 = .ok (.iaload, 1) := by decide +kernel
theorem dX11_word_49 : decode cX11_word 49 = .ok (.ireturn, 1) := by decide +kernel
theorem dX11_word_50 : decode cX11_word 50 = .ok (.aload_n 0, 1) := by decide +kernel
theorem dX11_word_51 : decode cX11_word 51 = .ok (.getfield 19, 3) := by decide +kernel
theorem dX11_word_54 : decode cX11_word 54 = .ok (.getfield 165, 3) := by decide +kernel
theorem dX11_word_57 : decode cX11_word 57 = .ok (.iload_n 1, 1) := by decide +kernel
theorem dX11_word_58 : decode cX11_word 58 = .ok (.iaload, 1) := by decide +kernel
theorem dX11_word_59 : decode cX11_word 59 = .ok (.ireturn, 1) := by decide +kernel
theorem dX11_word_60 : decode cX11_word 60 = .ok (.aload_n 0, 1) := by decide +kernel
theorem dX11_word_61 : decode cX11_word 61 = .ok (.getfield 19, 3) := by decide +kernel
theorem dX11_word_64 : decode cX11_word 64 = .ok (.getfield 202, 3) := by decide +kernel
theorem dX11_word_67 : decode cX11_word 67 = .ok (.iload_n 1, 1) := by decide +kernel
theorem dX11_word_68 : decode cX11_word 68 = .ok (.iaload, 1) := by decide +kernel
theorem dX11_word_69 : decode cX11_word 69 = .ok (.ireturn, 1) := by decide +kernel
theorem dX11_word_70 : decode cX11_word 70 = .ok (.aload_n 0, 1) := by decide +kernel
theorem dX11_word_71 : decode cX11_word 71 = .ok (.getfield 19, 3) := by decide +kernel
theorem dX11_word_74 : decode cX11_word 74 = .ok (.getfield 205, 3) := by decide +kernel
theorem dX11_word_77 : decode cX11_word 77 = .ok (.aload_n 0, 1) := by decide +kernel
theorem dX11_word_78 : decode cX11_word 78 = .ok (.getfield 19, 3) := by decide +kernel
theorem dX11_word_81 : decode cX11_word 81 = .ok (.getfield 202, 3) := by decide +kernel
theorem dX11_word_84 : decode cX11_word 84 = .ok (.iload_n 1, 1) := by decide +kernel
theorem dX11_word_85 : decode cX11_word 85 = .ok (.iaload, 1) := by decide +kernel
theorem dX11_word_86 : decode cX11_word 86 = .ok (.iaload, 1) := by decide +kernel
theorem dX11_word_87 : decode cX11_word 87 = .ok (.iconst 1, 1) := by decide +kernel
theorem dX11_word_88 : decode cX11_word 88 = .ok (.isub, 1) := by decide +kernel
theorem dX11_word_89 : decode cX11_word 89 = .ok (.ireturn, 1) := by decide +kernel
theorem dX11_sign_0 : decode cX11_sign 0 = .ok (.aload_n 0, 1) := by decide +kernel
theorem dX11_sign_1 : decode cX11_sign 1 = .ok (.iload_n 1, 1) := by decide +kernel
theorem dX11_sign_2 : decode cX11_sign 2 = .ok (.invokevirtual 162, 3) := by decide +kernel
theorem dX11_sign_5 : decode cX11_sign 5 = .ok (.iload_n 2, 1) := by decide +kernel
theorem dX11_sign_6 : decode cX11_sign 6 = .ok (.ifCond .lt 28, 3) := by decide +kernel
theorem dX11_sign_9 : decode cX11_sign 9 = .ok (.iload_n 2, 1) := by decide +kernel
theorem dX11_sign_10 : decode cX11_sign 10 = .ok (.aload_n 0, 1) := by decide +kernel
theorem dX11_sign_11 : decode cX11_sign 11 = .ok (.getfield 19, 3) := by decide +kernel
theorem dX11_sign_14 : decode cX11_sign 14 = .ok (.getfield 199, 3) := by decide +kernel
theorem dX11_sign_17 : decode cX11_sign 17 = .ok (.iload_n 1, 1) := by decide +kernel
theorem dX11_sign_18 : decode cX11_sign 18 = .ok (.iaload, 1) := by decide +kernel
theorem dX11_sign_19 : decode cX11_sign 19 = .ok (.if_icmp .ge 15, 3) := by decide +kernel
theorem dX11_sign_22 : decode cX11_sign 22 = .ok (.aload_n 0, 1) := by decide +kernel
theorem dX11_sign_23 : decode cX11_sign 23 = .ok (.getfield 19, 3) := by decide +kernel
theorem dX11_sign_26 : decode cX11_sign 26 = .ok (.iload_n 1, 1) := by decide +kernel
theorem dX11_sign_27 : decode cX11_sign 27 = .ok (.iload_n 2, 1) := by decide +kernel
theorem dX11_sign_28 : decode cX11_sign 28 = .ok (.invokevirtual 208, 3) := by decide +kernel
theorem dX11_sign_31 : decode cX11_sign 31 = .ok (.goto 4, 3) := by decide +kernel
theorem dX11_sign_34 : decode cX11_sign 34 = .ok (.iconst (-1), 1) := by decide +kernel
theorem dX11_sign_35 : decode cX11_sign 35 = .ok (.ireturn, 1) := by decide +kernel
theorem dX11_find_0 : decode cX11_find 0 = .ok (.aload_n 0, 1) := by decide +kernel
theorem dX11_find_1 : decode cX11_find 1 = .ok (.iload_n 1, 1) := by decide +kernel
theorem dX11_find_2 : decode cX11_find 2 = .ok (.iconst 0, 1) := by decide +kernel
theorem dX11_find_3 : decode cX11_find 3 = .ok (.aload_n 0, 1) := by decide +kernel
theorem dX11_find_4 : decode cX11_find 4 = .ok (.getfield 12, 3) := by decide +kernel
theorem dX11_find_7 : decode cX11_find 7 = .ok (.getfield 117, 3) := by decide +kernel
theorem dX11_find_10 : decode cX11_find 10 = .ok (.invokevirtual 125, 3) := by decide +kernel
theorem dX11_find_13 : decode cX11_find 13 = .ok (.aload_n 0, 1) := by decide +kernel
theorem dX11_find_14 : decode cX11_find 14 = .ok (.getfield 19, 3) := by decide +kernel
theorem dX11_find_17 : decode cX11_find 17 = .ok (.aload_n 0, 1) := by decide +kernel
theorem dX11_find_18 : decode cX11_find 18 = .ok (.getfield 12, 3) := by decide +kernel
theorem dX11_find_21 : decode cX11_find 21 = .ok (.getfield 211, 3) := by decide +kernel
theorem dX11_find_24 : decode cX11_find 24 = .ok (.iconst 0, 1) := by decide +kernel
theorem dX11_find_25 : decode cX11_find 25 = .ok (.iload_n 1, 1) := by decide +kernel
theorem dX11_find_26 : decode cX11_find 26 = .ok (.invokevirtual 214, 3) := by decide +kernel
theorem dX11_find_29 : decode cX11_find 29 = .ok (.ireturn, 1) := by decide +kernel
theorem dX11_node_0 : decode cX11_node 0 = .ok (.aload_n 0, 1) := by decide +kernel
theorem dX11_node_1 : decode cX11_node 1 = .ok (.iload_n 1, 1) := by decide +kernel
theorem dX11_node_2 : decode cX11_node 2 = .ok (.invokevirtual 218, 3) := by decide +kernel
theorem dX11_node_5 : decode cX11_node 5 = .ok (.aload_n 0, 1) := by decide +kernel
theorem dX11_node_6 : decode cX11_node 6 = .ok (.iload_n 2, 1) := by decide +kernel
theorem dX11_node_7 : decode cX11_node 7 = .ok (.iconst 0, 1) := by decide +kernel
theorem dX11_node_8 : decode cX11_node 8 = .ok (.iconst 5, 1) := by decide +kernel
theorem dX11_node_9 : decode cX11_node 9 = .ok (.invokevirtual 125, 3) := by decide +kernel
theorem dX11_node_12 : decode cX11_node 12 = .ok (.iload_n 2, 1) := by decide +kernel
theorem dX11_node_13 : decode cX11_node 13 = .ok (.tableswitch 98 0 4 #[35, 45, 55, 65, 89], 35) := by decide +kernel
theorem dX11_node_48 : decode cX11_node 48 = .ok (.aload_n 0, 1) := by decide +kernel
theorem dX11_node_49 : decode cX11_node 49 = .ok (.getfield 19, 3) := by decide +kernel
theorem dX11_node_52 : decode cX11_node 52 = .ok (.getfield 221, 3) := by decide +kernel
theorem dX11_node_55 : decode cX11_node 55 = .ok (.iload_n 1, 1) := by decide +kernel
theorem dX11_node_56 : decode cX11_node 56 = .ok (.iaload, 1) := by decide +kernel
theorem dX11_node_57 : decode cX11_node 57 = .ok (.ireturn, 1) := by decide +kernel
theorem dX11_node_58 : decode cX11_node 58 = .ok (.aload_n 0, 1) := by decide +kernel
theorem dX11_node_59 : decode cX11_node 59 = .ok (.getfield 19, 3) := by decide +kernel
theorem dX11_node_62 : decode cX11_node 62 = .ok (.getfield 224, 3) := by decide +kernel
theorem dX11_node_65 : decode cX11_node 65 = .ok (.iload_n 1, 1) := by decide +kernel
theorem dX11_node_66 : decode cX11_node 66 = .ok (.iaload, 1) := by decide +kernel
theorem dX11_node_67 : decode cX11_node 67 = .ok (.ireturn, 1) := by decide +kernel
theorem dX11_node_68 : decode cX11_node 68 = .ok (.aload_n 0, 1) := by decide +kernel
theorem dX11_node_69 : decode cX11_node 69 = .ok (.getfield 19, 3) := by decide +kernel
theorem dX11_node_72 : decode cX11_node 72 = .ok (.getfield 227, 3) := by decide +kernel
theorem dX11_node_75 : decode cX11_node 75 = .ok (.iload_n 1, 1) := by decide +kernel
theorem dX11_node_76 : decode cX11_node 76 = .ok (.iaload, 1) := by decide +kernel
theorem dX11_node_77 : decode cX11_node 77 = .ok (.ireturn, 1) := by decide +kernel
theorem dX11_node_78 : decode cX11_node 78 = .ok (.aload_n 0, 1) := by decide +kernel
theorem dX11_node_79 : decode cX11_node 79 = .ok (.getfield 19, 3) := by decide +kernel
theorem dX11_node_82 : decode cX11_node 82 = .ok (.getfield 139, 3) := by decide +kernel
theorem dX11_node_85 : decode cX11_node 85 = .ok (.ifCond .ne 7, 3) := by decide +kernel
theorem dX11_node_88 : decode cX11_node 88 = .ok (.iconst (-1), 1) := by decide +kernel
theorem dX11_node_89 : decode cX11_node 89 = .ok (.goto 12, 3) := by decide +kernel
theorem dX11_node_92 : decode cX11_node 92 = .ok (.aload_n 0, 1) := by decide +kernel
theorem dX11_node_93 : decode cX11_node 93 = .ok (.getfield 19, 3) := by decide +kernel
theorem dX11_node_96 : decode cX11_node 96 = .ok (.getfield 230, 3) := by decide +kernel
theorem dX11_node_99 : decode cX11_node 99 = .ok (.iload_n 1, 1) := by decide +kernel
theorem dX11_node_100 : decode cX11_node 100 = .ok (.iaload, 1) := by decide +kernel
theorem dX11_node_101 : decode cX11_node 101 = .ok (.ireturn, 1) := by decide +kernel
theorem dX11_node_102 : decode cX11_node 102 = .ok (.aload_n 0, 1) := by decide +kernel
theorem dX11_node_103 : decode cX11_node 103 = .ok (.getfield 19, 3) := by decide +kernel
theorem dX11_node_106 : decode cX11_node 106 = .ok (.iload_n 1, 1) := by decide +kernel
theorem dX11_node_107 : decode cX11_node 107 = .ok (.invokevirtual 233, 3) := by decide +kernel
theorem dX11_node_110 : decode cX11_node 110 = .ok (.ireturn, 1) := by decide +kernel
theorem dX11_node_111 : decode cX11_node 111 = .ok (.aload_n 0, 1) := by decide +kernel
theorem dX11_node_112 : decode cX11_node 112 = .ok (.getfield 19, 3) := by decide +kernel
theorem dX11_node_115 : decode cX11_node 115 = .ok (.getfield 205, 3) := by decide +kernel
theorem dX11_node_118 : decode cX11_node 118 = .ok (.iload_n 1, 1) := by decide +kernel
theorem dX11_node_119 : decode cX11_node 119 = .ok (.iaload, 1) := by decide +kernel
theorem dX11_node_120 : decode cX11_node 120 = .ok (.ireturn, 1) := by decide +kernel
theorem dX11_child_0 : decode cX11_child 0 = .ok (.aload_n 0, 1) := by decide +kernel
theorem dX11_child_1 : decode cX11_child 1 = .ok (.iload_n 1, 1) := by decide +kernel
theorem dX11_child_2 : decode cX11_child 2 = .ok (.invokevirtual 218, 3) := by decide +kernel
theorem dX11_child_5 : decode cX11_child 5 = .ok (.aload_n 0, 1) := by decide +kernel
theorem dX11_child_6 : decode cX11_child 6 = .ok (.getfield 19, 3) := by decide +kernel
theorem dX11_child_9 : decode cX11_child 9 = .ok (.iload_n 1, 1) := by decide +kernel
theorem dX11_child_10 : decode cX11_child 10 = .ok (.iload_n 2, 1) := by decide +kernel
theorem dX11_child_11 : decode cX11_child 11 = .ok (.invokevirtual 236, 3) := by decide +kernel
theorem dX11_child_14 : decode cX11_child 14 = .ok (.ireturn, 1) := by decide +kernel
theorem dX11_shape_0 : decode cX11_shape 0 = .ok (.aload_n 0, 1) := by decide +kernel
theorem dX11_shape_1 : decode cX11_shape 1 = .ok (.iload_n 1, 1) := by decide +kernel
theorem dX11_shape_2 : decode cX11_shape 2 = .ok (.invokevirtual 239, 3) := by decide +kernel
theorem dX11_shape_5 : decode cX11_shape 5 = .ok (.aload_n 0, 1) := by decide +kernel
theorem dX11_shape_6 : decode cX11_shape 6 = .ok (.iload_n 2, 1) := by decide +kernel
theorem dX11_shape_7 : decode cX11_shape 7 = .ok (.iconst 0, 1) := by decide +kernel
theorem dX11_shape_8 : decode cX11_shape 8 = .ok (.iconst 2, 1) := by decide +kernel
theorem dX11_shape_9 : decode cX11_shape 9 = .ok (.invokevirtual 125, 3) := by decide +kernel
theorem dX11_shape_12 : decode cX11_shape 12 = .ok (.iload_n 2, 1) := by decide +kernel
theorem dX11_shape_13 : decode cX11_shape 13 = .ok (.lookupswitch 47 #[(0, 27), (1, 37)], 27) := by decide +kernel
theorem dX11_shape_40 : decode cX11_shape 40 = .ok (.aload_n 0, 1) := by decide +kernel
theorem dX11_shape_41 : decode cX11_shape 41 = .ok (.getfield 26, 3) := by decide +kernel
theorem dX11_shape_44 : decode cX11_shape 44 = .ok (.getfield 242, 3) := by decide +kernel
theorem dX11_shape_47 : decode cX11_shape 47 = .ok (.iload_n 1, 1) := by decide +kernel
theorem dX11_shape_48 : decode cX11_shape 48 = .ok (.iaload, 1) := by decide +kernel
theorem dX11_shape_49 : decode cX11_shape 49 = .ok (.ireturn, 1) := by decide +kernel
theorem dX11_shape_50 : decode cX11_shape 50 = .ok (.aload_n 0, 1) := by decide +kernel
theorem dX11_shape_51 : decode cX11_shape 51 = .ok (.getfield 26, 3) := by decide +kernel
theorem dX11_shape_54 : decode cX11_shape 54 = .ok (.getfield 243, 3) := by decide +kernel
theorem dX11_shape_57 : decode cX11_shape 57 = .ok (.iload_n 1, 1) := by decide +kernel
theorem dX11_shape_58 : decode cX11_shape 58 = .ok (.iaload, 1) := by decide +kernel
theorem dX11_shape_59 : decode cX11_shape 59 = .ok (.ireturn, 1) := by decide +kernel
theorem dX11_shape_60 : decode cX11_shape 60 = .ok (.aload_n 0, 1) := by decide +kernel
theorem dX11_shape_61 : decode cX11_shape 61 = .ok (.getfield 26, 3) := by decide +kernel
theorem dX11_shape_64 : decode cX11_shape 64 = .ok (.getfield 246, 3) := by decide +kernel
theorem dX11_shape_67 : decode cX11_shape 67 = .ok (.iload_n 1, 1) := by decide +kernel
theorem dX11_shape_68 : decode cX11_shape 68 = .ok (.iaload, 1) := by decide +kernel
theorem dX11_shape_69 : decode cX11_shape 69 = .ok (.ireturn, 1) := by decide +kernel
theorem dX11_token_0 : decode cX11_token 0 = .ok (.aload_n 0, 1) := by decide +kernel
theorem dX11_token_1 : decode cX11_token 1 = .ok (.iload_n 1, 1) := by decide +kernel
theorem dX11_token_2 : decode cX11_token 2 = .ok (.invokevirtual 172, 3) := by decide +kernel
theorem dX11_token_5 : decode cX11_token 5 = .ok (.aload_n 0, 1) := by decide +kernel
theorem dX11_token_6 : decode cX11_token 6 = .ok (.iload_n 2, 1) := by decide +kernel
theorem dX11_token_7 : decode cX11_token 7 = .ok (.iconst 0, 1) := by decide +kernel
theorem dX11_token_8 : decode cX11_token 8 = .ok (.bipush 6, 2) := by decide +kernel
theorem dX11_token_10 : decode cX11_token 10 = .ok (.invokevirtual 125, 3) := by decide +kernel
theorem dX11_token_13 : decode cX11_token 13 = .ok (.iload_n 2, 1) := by decide +kernel
theorem dX11_token_14 : decode cX11_token 14 = .ok (.tableswitch 125 0 5 #[38, 47, 57, 66, 98, 107], 38) := by decide +kernel
theorem dX11_token_52 : decode cX11_token 52 = .ok (.aload_n 0, 1) := by decide +kernel
theorem dX11_token_53 : decode cX11_token 53 = .ok (.getfield 36, 3) := by decide +kernel
theorem dX11_token_56 : decode cX11_token 56 = .ok (.iload_n 1, 1) := by decide +kernel
theorem dX11_token_57 : decode cX11_token 57 = .ok (.invokevirtual 249, 3) := by decide +kernel
theorem dX11_token_60 : decode cX11_token 60 = .ok (.ireturn, 1) := by decide +kernel
theorem dX11_token_61 : decode cX11_token 61 = .ok (.aload_n 0, 1) := by decide +kernel
theorem dX11_token_62 : decode cX11_token 62 = .ok (.getfield 36, 3) := by decide +kernel
theorem dX11_token_65 : decode cX11_token 65 = .ok (.getfield 252, 3) := by decide +kernel
theorem dX11_token_68 : decode cX11_token 68 = .ok (.iload_n 1, 1) := by decide +kernel
theorem dX11_token_69 : decode cX11_token 69 = .ok (.iaload, 1) := by decide +kernel
theorem dX11_token_70 : decode cX11_token 70 = .ok (.ireturn, 1) := by decide +kernel
theorem dX11_token_71 : decode cX11_token 71 = .ok (.aload_n 0, 1) := by decide +kernel
theorem dX11_token_72 : decode cX11_token 72 = .ok (.getfield 36, 3) := by decide +kernel
theorem dX11_token_75 : decode cX11_token 75 = .ok (.iload_n 1, 1) := by decide +kernel
theorem dX11_token_76 : decode cX11_token 76 = .ok (.invokevirtual 255, 3) := by decide +kernel
theorem dX11_token_79 : decode cX11_token 79 = .ok (.ireturn, 1) := by decide +kernel
theorem dX11_token_80 : decode cX11_token 80 = .ok (.aload_n 0, 1) := by decide +kernel
theorem dX11_token_81 : decode cX11_token 81 = .ok (.getfield 72, 3) := by decide +kernel
theorem dX11_token_84 : decode cX11_token 84 = .ok (.aload_n 0, 1) := by decide +kernel
theorem dX11_token_85 : decode cX11_token 85 = .ok (.getfield 36, 3) := by decide +kernel
theorem dX11_token_88 : decode cX11_token 88 = .ok (.getfield 258, 3) := by decide +kernel
theorem dX11_token_91 : decode cX11_token 91 = .ok (.iload_n 1, 1) := by decide +kernel
theorem dX11_token_92 : decode cX11_token 92 = .ok (.iaload, 1) := by decide +kernel
theorem dX11_token_93 : decode cX11_token 93 = .ok (.aload_n 0, 1) := by decide +kernel
theorem dX11_token_94 : decode cX11_token 94 = .ok (.getfield 36, 3) := by decide +kernel
theorem dX11_token_97 : decode cX11_token 97 = .ok (.iload_n 1, 1) := by decide +kernel
theorem dX11_token_98 : decode cX11_token 98 = .ok (.invokevirtual 249, 3) := by decide +kernel
theorem dX11_token_101 : decode cX11_token 101 = .ok (.invokevirtual 261, 3) := by decide +kernel
theorem dX11_token_104 : decode cX11_token 104 = .ok (.aload_n 0, 1) := by decide +kernel
theorem dX11_token_105 : decode cX11_token 105 = .ok (.getfield 72, 3) := by decide +kernel
theorem dX11_token_108 : decode cX11_token 108 = .ok (.getfield 264, 3) := by decide +kernel
theorem dX11_token_111 : decode cX11_token 111 = .ok (.ireturn, 1) := by decide +kernel
theorem dX11_token_112 : decode cX11_token 112 = .ok (.aload_n 0, 1) := by decide +kernel
theorem dX11_token_113 : decode cX11_token 113 = .ok (.getfield 86, 3) := by decide +kernel
theorem dX11_token_116 : decode cX11_token 116 = .ok (.iload_n 1, 1) := by decide +kernel
theorem dX11_token_117 : decode cX11_token 117 = .ok (.invokevirtual 267, 3) := by decide +kernel
theorem dX11_token_120 : decode cX11_token 120 = .ok (.ireturn, 1) := by decide +kernel
theorem dX11_token_121 : decode cX11_token 121 = .ok (.aload_n 0, 1) := by decide +kernel
theorem dX11_token_122 : decode cX11_token 122 = .ok (.getfield 36, 3) := by decide +kernel
theorem dX11_token_125 : decode cX11_token 125 = .ok (.getfield 270, 3) := by decide +kernel
theorem dX11_token_128 : decode cX11_token 128 = .ok (.iload_n 1, 1) := by decide +kernel
theorem dX11_token_129 : decode cX11_token 129 = .ok (.baload, 1) := by decide +kernel
theorem dX11_token_130 : decode cX11_token 130 = .ok (.ifCond .eq 7, 3) := by decide +kernel
theorem dX11_token_133 : decode cX11_token 133 = .ok (.iconst 1, 1) := by decide +kernel
theorem dX11_token_134 : decode cX11_token 134 = .ok (.goto 4, 3) := by decide +kernel
theorem dX11_token_137 : decode cX11_token 137 = .ok (.iconst 0, 1) := by decide +kernel
theorem dX11_token_138 : decode cX11_token 138 = .ok (.ireturn, 1) := by decide +kernel
theorem dX11_token_139 : decode cX11_token 139 = .ok (.aload_n 0, 1) := by decide +kernel
theorem dX11_token_140 : decode cX11_token 140 = .ok (.getfield 36, 3) := by decide +kernel
theorem dX11_token_143 : decode cX11_token 143 = .ok (.iload_n 1, 1) := by decide +kernel
theorem dX11_token_144 : decode cX11_token 144 = .ok (.aload_n 0, 1) := by decide +kernel
theorem dX11_token_145 : decode cX11_token 145 = .ok (.getfield 19, 3) := by decide +kernel
theorem dX11_token_148 : decode cX11_token 148 = .ok (.invokevirtual 274, 3) := by decide +kernel
theorem dX11_token_151 : decode cX11_token 151 = .ok (.iconst (-1), 1) := by decide +kernel
theorem dX11_token_152 : decode cX11_token 152 = .ok (.if_icmp .eq 7, 3) := by decide +kernel
theorem dX11_token_155 : decode cX11_token 155 = .ok (.iconst 1, 1) := by decide +kernel
theorem dX11_token_156 : decode cX11_token 156 = .ok (.goto 4, 3) := by decide +kernel
theorem dX11_token_159 : decode cX11_token 159 = .ok (.iconst 0, 1) := by decide +kernel
theorem dX11_token_160 : decode cX11_token 160 = .ok (.ireturn, 1) := by decide +kernel
theorem dX11_cell_0 : decode cX11_cell 0 = .ok (.aload_n 0, 1) := by decide +kernel
theorem dX11_cell_1 : decode cX11_cell 1 = .ok (.iload_n 1, 1) := by decide +kernel
theorem dX11_cell_2 : decode cX11_cell 2 = .ok (.invokevirtual 172, 3) := by decide +kernel
theorem dX11_cell_5 : decode cX11_cell 5 = .ok (.aload_n 0, 1) := by decide +kernel
theorem dX11_cell_6 : decode cX11_cell 6 = .ok (.iload_n 2, 1) := by decide +kernel
theorem dX11_cell_7 : decode cX11_cell 7 = .ok (.aload_n 0, 1) := by decide +kernel
theorem dX11_cell_8 : decode cX11_cell 8 = .ok (.getfield 36, 3) := by decide +kernel
theorem dX11_cell_11 : decode cX11_cell 11 = .ok (.iload_n 1, 1) := by decide +kernel
theorem dX11_cell_12 : decode cX11_cell 12 = .ok (.invokevirtual 249, 3) := by decide +kernel
theorem dX11_cell_15 : decode cX11_cell 15 = .ok (.invokevirtual 278, 3) := by decide +kernel
theorem dX11_cell_18 : decode cX11_cell 18 = .ok (.aload_n 0, 1) := by decide +kernel
theorem dX11_cell_19 : decode cX11_cell 19 = .ok (.iload_n 3, 1) := by decide +kernel
theorem dX11_cell_20 : decode cX11_cell 20 = .ok (.iconst 0, 1) := by decide +kernel
theorem dX11_cell_21 : decode cX11_cell 21 = .ok (.iconst 2, 1) := by decide +kernel
theorem dX11_cell_22 : decode cX11_cell 22 = .ok (.invokevirtual 125, 3) := by decide +kernel
theorem dX11_cell_25 : decode cX11_cell 25 = .ok (.aload_n 0, 1) := by decide +kernel
theorem dX11_cell_26 : decode cX11_cell 26 = .ok (.getfield 36, 3) := by decide +kernel
theorem dX11_cell_29 : decode cX11_cell 29 = .ok (.getfield 258, 3) := by decide +kernel
theorem dX11_cell_32 : decode cX11_cell 32 = .ok (.iload_n 1, 1) := by decide +kernel
theorem dX11_cell_33 : decode cX11_cell 33 = .ok (.iaload, 1) := by decide +kernel
theorem dX11_cell_34 : decode cX11_cell 34 = .ok (.iload_n 2, 1) := by decide +kernel
theorem dX11_cell_35 : decode cX11_cell 35 = .ok (.iadd, 1) := by decide +kernel
theorem dX11_cell_36 : decode cX11_cell 36 = .ok (.istore 4, 2) := by decide +kernel
theorem dX11_cell_38 : decode cX11_cell 38 = .ok (.iload_n 3, 1) := by decide +kernel
theorem dX11_cell_39 : decode cX11_cell 39 = .ok (.lookupswitch 47 #[(0, 25), (1, 36)], 25) := by decide +kernel
theorem dX11_cell_64 : decode cX11_cell 64 = .ok (.aload_n 0, 1) := by decide +kernel
theorem dX11_cell_65 : decode cX11_cell 65 = .ok (.getfield 36, 3) := by decide +kernel
theorem dX11_cell_68 : decode cX11_cell 68 = .ok (.getfield 281, 3) := by decide +kernel
theorem dX11_cell_71 : decode cX11_cell 71 = .ok (.iload 4, 2) := by decide +kernel
theorem dX11_cell_73 : decode cX11_cell 73 = .ok (.iaload, 1) := by decide +kernel
theorem dX11_cell_74 : decode cX11_cell 74 = .ok (.ireturn, 1) := by decide +kernel
theorem dX11_cell_75 : decode cX11_cell 75 = .ok (.aload_n 0, 1) := by decide +kernel
theorem dX11_cell_76 : decode cX11_cell 76 = .ok (.getfield 36, 3) := by decide +kernel
theorem dX11_cell_79 : decode cX11_cell 79 = .ok (.getfield 284, 3) := by decide +kernel
theorem dX11_cell_82 : decode cX11_cell 82 = .ok (.iload 4, 2) := by decide +kernel
theorem dX11_cell_84 : decode cX11_cell 84 = .ok (.iaload, 1) := by decide +kernel
theorem dX11_cell_85 : decode cX11_cell 85 = .ok (.ireturn, 1) := by decide +kernel
theorem dX11_cell_86 : decode cX11_cell 86 = .ok (.aload_n 0, 1) := by decide +kernel
theorem dX11_cell_87 : decode cX11_cell 87 = .ok (.getfield 36, 3) := by decide +kernel
theorem dX11_cell_90 : decode cX11_cell 90 = .ok (.iload 4, 2) := by decide +kernel
theorem dX11_cell_92 : decode cX11_cell 92 = .ok (.invokevirtual 287, 3) := by decide +kernel
theorem dX11_cell_95 : decode cX11_cell 95 = .ok (.ireturn, 1) := by decide +kernel
theorem dX11_rest_0 : decode cX11_rest 0 = .ok (.aload_n 0, 1) := by decide +kernel
theorem dX11_rest_1 : decode cX11_rest 1 = .ok (.iload_n 1, 1) := by decide +kernel
theorem dX11_rest_2 : decode cX11_rest 2 = .ok (.invokevirtual 172, 3) := by decide +kernel
theorem dX11_rest_5 : decode cX11_rest 5 = .ok (.aload_n 0, 1) := by decide +kernel
theorem dX11_rest_6 : decode cX11_rest 6 = .ok (.iload_n 2, 1) := by decide +kernel
theorem dX11_rest_7 : decode cX11_rest 7 = .ok (.aload_n 0, 1) := by decide +kernel
theorem dX11_rest_8 : decode cX11_rest 8 = .ok (.getfield 36, 3) := by decide +kernel
theorem dX11_rest_11 : decode cX11_rest 11 = .ok (.iload_n 1, 1) := by decide +kernel
theorem dX11_rest_12 : decode cX11_rest 12 = .ok (.invokevirtual 249, 3) := by decide +kernel
theorem dX11_rest_15 : decode cX11_rest 15 = .ok (.iconst 1, 1) := by decide +kernel
theorem dX11_rest_16 : decode cX11_rest 16 = .ok (.iadd, 1) := by decide +kernel
theorem dX11_rest_17 : decode cX11_rest 17 = .ok (.invokevirtual 278, 3) := by decide +kernel
theorem dX11_rest_20 : decode cX11_rest 20 = .ok (.aload_n 0, 1) := by decide +kernel
theorem dX11_rest_21 : decode cX11_rest 21 = .ok (.getfield 72, 3) := by decide +kernel
theorem dX11_rest_24 : decode cX11_rest 24 = .ok (.aload_n 0, 1) := by decide +kernel
theorem dX11_rest_25 : decode cX11_rest 25 = .ok (.getfield 36, 3) := by decide +kernel
theorem dX11_rest_28 : decode cX11_rest 28 = .ok (.getfield 258, 3) := by decide +kernel
theorem dX11_rest_31 : decode cX11_rest 31 = .ok (.iload_n 1, 1) := by decide +kernel
theorem dX11_rest_32 : decode cX11_rest 32 = .ok (.iaload, 1) := by decide +kernel
theorem dX11_rest_33 : decode cX11_rest 33 = .ok (.aload_n 0, 1) := by decide +kernel
theorem dX11_rest_34 : decode cX11_rest 34 = .ok (.getfield 36, 3) := by decide +kernel
theorem dX11_rest_37 : decode cX11_rest 37 = .ok (.iload_n 1, 1) := by decide +kernel
theorem dX11_rest_38 : decode cX11_rest 38 = .ok (.invokevirtual 249, 3) := by decide +kernel
theorem dX11_rest_41 : decode cX11_rest 41 = .ok (.invokevirtual 261, 3) := by decide +kernel
theorem dX11_rest_44 : decode cX11_rest 44 = .ok (.aload_n 0, 1) := by decide +kernel
theorem dX11_rest_45 : decode cX11_rest 45 = .ok (.getfield 72, 3) := by decide +kernel
theorem dX11_rest_48 : decode cX11_rest 48 = .ok (.getfield 290, 3) := by decide +kernel
theorem dX11_rest_51 : decode cX11_rest 51 = .ok (.iload_n 2, 1) := by decide +kernel
theorem dX11_rest_52 : decode cX11_rest 52 = .ok (.iaload, 1) := by decide +kernel
theorem dX11_rest_53 : decode cX11_rest 53 = .ok (.ireturn, 1) := by decide +kernel
theorem dX11_best_0 : decode cX11_best 0 = .ok (.aload_n 0, 1) := by decide +kernel
theorem dX11_best_1 : decode cX11_best 1 = .ok (.iload_n 1, 1) := by decide +kernel
theorem dX11_best_2 : decode cX11_best 2 = .ok (.invokevirtual 172, 3) := by decide +kernel
theorem dX11_best_5 : decode cX11_best 5 = .ok (.aload_n 0, 1) := by decide +kernel
theorem dX11_best_6 : decode cX11_best 6 = .ok (.iload_n 3, 1) := by decide +kernel
theorem dX11_best_7 : decode cX11_best 7 = .ok (.iconst 0, 1) := by decide +kernel
theorem dX11_best_8 : decode cX11_best 8 = .ok (.iconst 2, 1) := by decide +kernel
theorem dX11_best_9 : decode cX11_best 9 = .ok (.invokevirtual 125, 3) := by decide +kernel
theorem dX11_best_12 : decode cX11_best 12 = .ok (.aload_n 0, 1) := by decide +kernel
theorem dX11_best_13 : decode cX11_best 13 = .ok (.getfield 86, 3) := by decide +kernel
theorem dX11_best_16 : decode cX11_best 16 = .ok (.iload_n 1, 1) := by decide +kernel
theorem dX11_best_17 : decode cX11_best 17 = .ok (.invokevirtual 175, 3) := by decide +kernel
theorem dX11_best_20 : decode cX11_best 20 = .ok (.iload_n 3, 1) := by decide +kernel
theorem dX11_best_21 : decode cX11_best 21 = .ok (.lookupswitch 47 #[(0, 27), (1, 37)], 27) := by decide +kernel
theorem dX11_best_48 : decode cX11_best 48 = .ok (.aload_n 0, 1) := by decide +kernel
theorem dX11_best_49 : decode cX11_best 49 = .ok (.getfield 86, 3) := by decide +kernel
theorem dX11_best_52 : decode cX11_best 52 = .ok (.iload_n 1, 1) := by decide +kernel
theorem dX11_best_53 : decode cX11_best 53 = .ok (.iload_n 2, 1) := by decide +kernel
theorem dX11_best_54 : decode cX11_best 54 = .ok (.invokevirtual 181, 3) := by decide +kernel
theorem dX11_best_57 : decode cX11_best 57 = .ok (.ireturn, 1) := by decide +kernel
theorem dX11_best_58 : decode cX11_best 58 = .ok (.aload_n 0, 1) := by decide +kernel
theorem dX11_best_59 : decode cX11_best 59 = .ok (.getfield 86, 3) := by decide +kernel
theorem dX11_best_62 : decode cX11_best 62 = .ok (.iload_n 1, 1) := by decide +kernel
theorem dX11_best_63 : decode cX11_best 63 = .ok (.iload_n 2, 1) := by decide +kernel
theorem dX11_best_64 : decode cX11_best 64 = .ok (.invokevirtual 293, 3) := by decide +kernel
theorem dX11_best_67 : decode cX11_best 67 = .ok (.ireturn, 1) := by decide +kernel
theorem dX11_best_68 : decode cX11_best 68 = .ok (.aload_n 0, 1) := by decide +kernel
theorem dX11_best_69 : decode cX11_best 69 = .ok (.getfield 86, 3) := by decide +kernel
theorem dX11_best_72 : decode cX11_best 72 = .ok (.iload_n 1, 1) := by decide +kernel
theorem dX11_best_73 : decode cX11_best 73 = .ok (.iload_n 2, 1) := by decide +kernel
theorem dX11_best_74 : decode cX11_best 74 = .ok (.invokevirtual 296, 3) := by decide +kernel
theorem dX11_best_77 : decode cX11_best 77 = .ok (.ireturn, 1) := by decide +kernel
theorem dX11_price_0 : decode cX11_price 0 = .ok (.aload_n 0, 1) := by decide +kernel
theorem dX11_price_1 : decode cX11_price 1 = .ok (.iload_n 1, 1) := by decide +kernel
theorem dX11_price_2 : decode cX11_price 2 = .ok (.invokevirtual 172, 3) := by decide +kernel
theorem dX11_price_5 : decode cX11_price 5 = .ok (.aload_n 0, 1) := by decide +kernel
theorem dX11_price_6 : decode cX11_price 6 = .ok (.iload_n 2, 1) := by decide +kernel
theorem dX11_price_7 : decode cX11_price 7 = .ok (.invokevirtual 162, 3) := by decide +kernel
theorem dX11_price_10 : decode cX11_price 10 = .ok (.aload_n 0, 1) := by decide +kernel
theorem dX11_price_11 : decode cX11_price 11 = .ok (.getfield 86, 3) := by decide +kernel
theorem dX11_price_14 : decode cX11_price 14 = .ok (.iload_n 1, 1) := by decide +kernel
theorem dX11_price_15 : decode cX11_price 15 = .ok (.invokevirtual 175, 3) := by decide +kernel
theorem dX11_price_18 : decode cX11_price 18 = .ok (.aload_n 0, 1) := by decide +kernel
theorem dX11_price_19 : decode cX11_price 19 = .ok (.getfield 86, 3) := by decide +kernel
theorem dX11_price_22 : decode cX11_price 22 = .ok (.iload_n 1, 1) := by decide +kernel
theorem dX11_price_23 : decode cX11_price 23 = .ok (.iload_n 2, 1) := by decide +kernel
theorem dX11_price_24 : decode cX11_price 24 = .ok (.invokevirtual 299, 3) := by decide +kernel
theorem dX11_price_27 : decode cX11_price 27 = .ok (.ireturn, 1) := by decide +kernel
theorem dX11_within_0 : decode cX11_within 0 = .ok (.aload_n 0, 1) := by decide +kernel
theorem dX11_within_1 : decode cX11_within 1 = .ok (.iload_n 1, 1) := by decide +kernel
theorem dX11_within_2 : decode cX11_within 2 = .ok (.invokevirtual 172, 3) := by decide +kernel
theorem dX11_within_5 : decode cX11_within 5 = .ok (.aload_n 0, 1) := by decide +kernel
theorem dX11_within_6 : decode cX11_within 6 = .ok (.iload_n 2, 1) := by decide +kernel
theorem dX11_within_7 : decode cX11_within 7 = .ok (.iconst 0, 1) := by decide +kernel
theorem dX11_within_8 : decode cX11_within 8 = .ok (.sipush 9999, 3) := by decide +kernel
theorem dX11_within_11 : decode cX11_within 11 = .ok (.invokevirtual 125, 3) := by decide +kernel
theorem dX11_within_14 : decode cX11_within 14 = .ok (.aload_n 0, 1) := by decide +kernel
theorem dX11_within_15 : decode cX11_within 15 = .ok (.getfield 86, 3) := by decide +kernel
theorem dX11_within_18 : decode cX11_within 18 = .ok (.iload_n 1, 1) := by decide +kernel
theorem dX11_within_19 : decode cX11_within 19 = .ok (.invokevirtual 175, 3) := by decide +kernel
theorem dX11_within_22 : decode cX11_within 22 = .ok (.iconst 0, 1) := by decide +kernel
theorem dX11_within_23 : decode cX11_within 23 = .ok (.istore_n 3, 1) := by decide +kernel
theorem dX11_within_24 : decode cX11_within 24 = .ok (.iconst 0, 1) := by decide +kernel
theorem dX11_within_25 : decode cX11_within 25 = .ok (.istore 4, 2) := by decide +kernel
theorem dX11_within_27 : decode cX11_within 27 = .ok (.iload 4, 2) := by decide +kernel
theorem dX11_within_29 : decode cX11_within 29 = .ok (.aload_n 0, 1) := by decide +kernel
theorem dX11_within_30 : decode cX11_within 30 = .ok (.getfield 86, 3) := by decide +kernel
theorem dX11_within_33 : decode cX11_within 33 = .ok (.getfield 302, 3) := by decide +kernel
theorem dX11_within_36 : decode cX11_within 36 = .ok (.iload_n 1, 1) := by decide +kernel
theorem dX11_within_37 : decode cX11_within 37 = .ok (.iaload, 1) := by decide +kernel
theorem dX11_within_38 : decode cX11_within 38 = .ok (.if_icmp .ge 26, 3) := by decide +kernel
theorem dX11_within_41 : decode cX11_within 41 = .ok (.aload_n 0, 1) := by decide +kernel
theorem dX11_within_42 : decode cX11_within 42 = .ok (.getfield 86, 3) := by decide +kernel
theorem dX11_within_45 : decode cX11_within 45 = .ok (.iload_n 1, 1) := by decide +kernel
theorem dX11_within_46 : decode cX11_within 46 = .ok (.iload 4, 2) := by decide +kernel
theorem dX11_within_48 : decode cX11_within 48 = .ok (.invokevirtual 293, 3) := by decide +kernel
theorem dX11_within_51 : decode cX11_within 51 = .ok (.iload_n 2, 1) := by decide +kernel
theorem dX11_within_52 : decode cX11_within 52 = .ok (.if_icmp .gt 6, 3) := by decide +kernel
theorem dX11_within_55 : decode cX11_within 55 = .ok (.iinc 3 1, 3) := by decide +kernel
theorem dX11_within_58 : decode cX11_within 58 = .ok (.iinc 4 1, 3) := by decide +kernel
theorem dX11_within_61 : decode cX11_within 61 = .ok (.goto (-34), 3) := by decide +kernel
theorem dX11_within_64 : decode cX11_within 64 = .ok (.iload_n 3, 1) := by decide +kernel
theorem dX11_within_65 : decode cX11_within 65 = .ok (.ireturn, 1) := by decide +kernel
theorem dX11_mended_0 : decode cX11_mended 0 = .ok (.aload_n 0, 1) := by decide +kernel
theorem dX11_mended_1 : decode cX11_mended 1 = .ok (.iload_n 1, 1) := by decide +kernel
theorem dX11_mended_2 : decode cX11_mended 2 = .ok (.invokevirtual 172, 3) := by decide +kernel
theorem dX11_mended_5 : decode cX11_mended 5 = .ok (.aload_n 0, 1) := by decide +kernel
theorem dX11_mended_6 : decode cX11_mended 6 = .ok (.iload_n 2, 1) := by decide +kernel
theorem dX11_mended_7 : decode cX11_mended 7 = .ok (.iconst 0, 1) := by decide +kernel
theorem dX11_mended_8 : decode cX11_mended 8 = .ok (.iconst 2, 1) := by decide +kernel
theorem dX11_mended_9 : decode cX11_mended 9 = .ok (.invokevirtual 125, 3) := by decide +kernel
theorem dX11_mended_12 : decode cX11_mended 12 = .ok (.aload_n 0, 1) := by decide +kernel
theorem dX11_mended_13 : decode cX11_mended 13 = .ok (.getfield 86, 3) := by decide +kernel
theorem dX11_mended_16 : decode cX11_mended 16 = .ok (.iload_n 1, 1) := by decide +kernel
theorem dX11_mended_17 : decode cX11_mended 17 = .ok (.invokevirtual 175, 3) := by decide +kernel
theorem dX11_mended_20 : decode cX11_mended 20 = .ok (.iload_n 2, 1) := by decide +kernel
theorem dX11_mended_21 : decode cX11_mended 21 = .ok (.lookupswitch 45 #[(0, 27), (1, 36)], 27) := by decide +kernel
theorem dX11_mended_48 : decode cX11_mended 48 = .ok (.aload_n 0, 1) := by decide +kernel
theorem dX11_mended_49 : decode cX11_mended 49 = .ok (.getfield 86, 3) := by decide +kernel
theorem dX11_mended_52 : decode cX11_mended 52 = .ok (.iload_n 1, 1) := by decide +kernel
theorem dX11_mended_53 : decode cX11_mended 53 = .ok (.invokevirtual 178, 3) := by decide +kernel
theorem dX11_mended_56 : decode cX11_mended 56 = .ok (.ireturn, 1) := by decide +kernel
theorem dX11_mended_57 : decode cX11_mended 57 = .ok (.aload_n 0, 1) := by decide +kernel
theorem dX11_mended_58 : decode cX11_mended 58 = .ok (.getfield 86, 3) := by decide +kernel
theorem dX11_mended_61 : decode cX11_mended 61 = .ok (.iload_n 1, 1) := by decide +kernel
theorem dX11_mended_62 : decode cX11_mended 62 = .ok (.invokevirtual 305, 3) := by decide +kernel
theorem dX11_mended_65 : decode cX11_mended 65 = .ok (.ireturn, 1) := by decide +kernel
theorem dX11_mended_66 : decode cX11_mended 66 = .ok (.aload_n 0, 1) := by decide +kernel
theorem dX11_mended_67 : decode cX11_mended 67 = .ok (.getfield 86, 3) := by decide +kernel
theorem dX11_mended_70 : decode cX11_mended 70 = .ok (.iload_n 1, 1) := by decide +kernel
theorem dX11_mended_71 : decode cX11_mended 71 = .ok (.invokevirtual 308, 3) := by decide +kernel
theorem dX11_mended_74 : decode cX11_mended 74 = .ok (.ireturn, 1) := by decide +kernel
theorem dX11_text_0 : decode cX11_text 0 = .ok (.aload_n 0, 1) := by decide +kernel
theorem dX11_text_1 : decode cX11_text 1 = .ok (.iload_n 1, 1) := by decide +kernel
theorem dX11_text_2 : decode cX11_text 2 = .ok (.iconst 0, 1) := by decide +kernel
theorem dX11_text_3 : decode cX11_text 3 = .ok (.iconst 3, 1) := by decide +kernel
theorem dX11_text_4 : decode cX11_text 4 = .ok (.invokevirtual 125, 3) := by decide +kernel
theorem dX11_text_7 : decode cX11_text 7 = .ok (.aload_n 0, 1) := by decide +kernel
theorem dX11_text_8 : decode cX11_text 8 = .ok (.getfield 95, 3) := by decide +kernel
theorem dX11_text_11 : decode cX11_text 11 = .ok (.invokevirtual 311, 3) := by decide +kernel
theorem dX11_text_14 : decode cX11_text 14 = .ok (.iload_n 1, 1) := by decide +kernel
theorem dX11_text_15 : decode cX11_text 15 = .ok (.tableswitch 49 0 2 #[25, 33, 41], 25) := by decide +kernel
theorem dX11_text_40 : decode cX11_text 40 = .ok (.aload_n 0, 1) := by decide +kernel
theorem dX11_text_41 : decode cX11_text 41 = .ok (.getfield 95, 3) := by decide +kernel
theorem dX11_text_44 : decode cX11_text 44 = .ok (.getfield 314, 3) := by decide +kernel
theorem dX11_text_47 : decode cX11_text 47 = .ok (.ireturn, 1) := by decide +kernel
theorem dX11_text_48 : decode cX11_text 48 = .ok (.aload_n 0, 1) := by decide +kernel
theorem dX11_text_49 : decode cX11_text 49 = .ok (.getfield 95, 3) := by decide +kernel
theorem dX11_text_52 : decode cX11_text 52 = .ok (.getfield 317, 3) := by decide +kernel
theorem dX11_text_55 : decode cX11_text 55 = .ok (.ireturn, 1) := by decide +kernel
theorem dX11_text_56 : decode cX11_text 56 = .ok (.aload_n 0, 1) := by decide +kernel
theorem dX11_text_57 : decode cX11_text 57 = .ok (.getfield 95, 3) := by decide +kernel
theorem dX11_text_60 : decode cX11_text 60 = .ok (.getfield 320, 3) := by decide +kernel
theorem dX11_text_63 : decode cX11_text 63 = .ok (.ireturn, 1) := by decide +kernel
theorem dX11_text_64 : decode cX11_text 64 = .ok (.aload_n 0, 1) := by decide +kernel
theorem dX11_text_65 : decode cX11_text 65 = .ok (.getfield 95, 3) := by decide +kernel
theorem dX11_text_68 : decode cX11_text 68 = .ok (.getfield 323, 3) := by decide +kernel
theorem dX11_text_71 : decode cX11_text 71 = .ok (.ireturn, 1) := by decide +kernel
theorem dX11_at_0 : decode cX11_at 0 = .ok (.aload_n 0, 1) := by decide +kernel
theorem dX11_at_1 : decode cX11_at 1 = .ok (.getfield 95, 3) := by decide +kernel
theorem dX11_at_4 : decode cX11_at 4 = .ok (.invokevirtual 311, 3) := by decide +kernel
theorem dX11_at_7 : decode cX11_at 7 = .ok (.iload_n 1, 1) := by decide +kernel
theorem dX11_at_8 : decode cX11_at 8 = .ok (.ifCond .lt 26, 3) := by decide +kernel
theorem dX11_at_11 : decode cX11_at 11 = .ok (.iload_n 1, 1) := by decide +kernel
theorem dX11_at_12 : decode cX11_at 12 = .ok (.aload_n 0, 1) := by decide +kernel
theorem dX11_at_13 : decode cX11_at 13 = .ok (.getfield 95, 3) := by decide +kernel
theorem dX11_at_16 : decode cX11_at 16 = .ok (.getfield 314, 3) := by decide +kernel
theorem dX11_at_19 : decode cX11_at 19 = .ok (.if_icmp .ge 15, 3) := by decide +kernel
theorem dX11_at_22 : decode cX11_at 22 = .ok (.aload_n 0, 1) := by decide +kernel
theorem dX11_at_23 : decode cX11_at 23 = .ok (.getfield 95, 3) := by decide +kernel
theorem dX11_at_26 : decode cX11_at 26 = .ok (.getfield 326, 3) := by decide +kernel
theorem dX11_at_29 : decode cX11_at 29 = .ok (.iload_n 1, 1) := by decide +kernel
theorem dX11_at_30 : decode cX11_at 30 = .ok (.iaload, 1) := by decide +kernel
theorem dX11_at_31 : decode cX11_at 31 = .ok (.goto 4, 3) := by decide +kernel
theorem dX11_at_34 : decode cX11_at 34 = .ok (.iconst (-1), 1) := by decide +kernel
theorem dX11_at_35 : decode cX11_at 35 = .ok (.ireturn, 1) := by decide +kernel
theorem dX11_lost_0 : decode cX11_lost 0 = .ok (.aload_n 0, 1) := by decide +kernel
theorem dX11_lost_1 : decode cX11_lost 1 = .ok (.iload_n 1, 1) := by decide +kernel
theorem dX11_lost_2 : decode cX11_lost 2 = .ok (.invokevirtual 172, 3) := by decide +kernel
theorem dX11_lost_5 : decode cX11_lost 5 = .ok (.aload_n 0, 1) := by decide +kernel
theorem dX11_lost_6 : decode cX11_lost 6 = .ok (.iload_n 2, 1) := by decide +kernel
theorem dX11_lost_7 : decode cX11_lost 7 = .ok (.iconst 0, 1) := by decide +kernel
theorem dX11_lost_8 : decode cX11_lost 8 = .ok (.iconst 1, 1) := by decide +kernel
theorem dX11_lost_9 : decode cX11_lost 9 = .ok (.invokevirtual 125, 3) := by decide +kernel
theorem dX11_lost_12 : decode cX11_lost 12 = .ok (.aload_n 0, 1) := by decide +kernel
theorem dX11_lost_13 : decode cX11_lost 13 = .ok (.getfield 95, 3) := by decide +kernel
theorem dX11_lost_16 : decode cX11_lost 16 = .ok (.invokevirtual 311, 3) := by decide +kernel
theorem dX11_lost_19 : decode cX11_lost 19 = .ok (.iload_n 2, 1) := by decide +kernel
theorem dX11_lost_20 : decode cX11_lost 20 = .ok (.ifCond .ne 13, 3) := by decide +kernel
theorem dX11_lost_23 : decode cX11_lost 23 = .ok (.aload_n 0, 1) := by decide +kernel
theorem dX11_lost_24 : decode cX11_lost 24 = .ok (.getfield 95, 3) := by decide +kernel
theorem dX11_lost_27 : decode cX11_lost 27 = .ok (.getfield 327, 3) := by decide +kernel
theorem dX11_lost_30 : decode cX11_lost 30 = .ok (.iload_n 1, 1) := by decide +kernel
theorem dX11_lost_31 : decode cX11_lost 31 = .ok (.baload, 1) := by decide +kernel
theorem dX11_lost_32 : decode cX11_lost 32 = .ok (.ireturn, 1) := by decide +kernel
theorem dX11_lost_33 : decode cX11_lost 33 = .ok (.iload_n 1, 1) := by decide +kernel
theorem dX11_lost_34 : decode cX11_lost 34 = .ok (.ifCond .le 21, 3) := by decide +kernel
theorem dX11_lost_37 : decode cX11_lost 37 = .ok (.aload_n 0, 1) := by decide +kernel
theorem dX11_lost_38 : decode cX11_lost 38 = .ok (.getfield 95, 3) := by decide +kernel
theorem dX11_lost_41 : decode cX11_lost 41 = .ok (.getfield 327, 3) := by decide +kernel
theorem dX11_lost_44 : decode cX11_lost 44 = .ok (.iload_n 1, 1) := by decide +kernel
theorem dX11_lost_45 : decode cX11_lost 45 = .ok (.iconst 1, 1) := by decide +kernel
theorem dX11_lost_46 : decode cX11_lost 46 = .ok (.isub, 1) := by decide +kernel
theorem dX11_lost_47 : decode cX11_lost 47 = .ok (.baload, 1) := by decide +kernel
theorem dX11_lost_48 : decode cX11_lost 48 = .ok (.ifCond .eq 7, 3) := by decide +kernel
theorem dX11_lost_51 : decode cX11_lost 51 = .ok (.iconst 1, 1) := by decide +kernel
theorem dX11_lost_52 : decode cX11_lost 52 = .ok (.goto 4, 3) := by decide +kernel
theorem dX11_lost_55 : decode cX11_lost 55 = .ok (.iconst 0, 1) := by decide +kernel
theorem dX11_lost_56 : decode cX11_lost 56 = .ok (.ireturn, 1) := by decide +kernel
theorem dX11_way_0 : decode cX11_way 0 = .ok (.aload_n 0, 1) := by decide +kernel
theorem dX11_way_1 : decode cX11_way 1 = .ok (.iload_n 1, 1) := by decide +kernel
theorem dX11_way_2 : decode cX11_way 2 = .ok (.invokevirtual 172, 3) := by decide +kernel
theorem dX11_way_5 : decode cX11_way 5 = .ok (.aload_n 0, 1) := by decide +kernel
theorem dX11_way_6 : decode cX11_way 6 = .ok (.iload_n 2, 1) := by decide +kernel
theorem dX11_way_7 : decode cX11_way 7 = .ok (.iconst 0, 1) := by decide +kernel
theorem dX11_way_8 : decode cX11_way 8 = .ok (.iconst 1, 1) := by decide +kernel
theorem dX11_way_9 : decode cX11_way 9 = .ok (.invokevirtual 125, 3) := by decide +kernel
theorem dX11_way_12 : decode cX11_way 12 = .ok (.aload_n 0, 1) := by decide +kernel
theorem dX11_way_13 : decode cX11_way 13 = .ok (.iload_n 1, 1) := by decide +kernel
theorem dX11_way_14 : decode cX11_way 14 = .ok (.invokevirtual 330, 3) := by decide +kernel
theorem dX11_way_17 : decode cX11_way 17 = .ok (.ifCond .ne 5, 3) := by decide +kernel
theorem dX11_way_20 : decode cX11_way 20 = .ok (.iconst (-1), 1) := by decide +kernel
theorem dX11_way_21 : decode cX11_way 21 = .ok (.ireturn, 1) := by decide +kernel
theorem dX11_way_22 : decode cX11_way 22 = .ok (.iload_n 2, 1) := by decide +kernel
theorem dX11_way_23 : decode cX11_way 23 = .ok (.ifCond .ne 13, 3) := by decide +kernel
theorem dX11_way_26 : decode cX11_way 26 = .ok (.aload_n 0, 1) := by decide +kernel
theorem dX11_way_27 : decode cX11_way 27 = .ok (.getfield 113, 3) := by decide +kernel
theorem dX11_way_30 : decode cX11_way 30 = .ok (.getfield 334, 3) := by decide +kernel
theorem dX11_way_33 : decode cX11_way 33 = .ok (.goto 10, 3) := by decide +kernel
theorem dX11_way_36 : decode cX11_way 36 = .ok (.aload_n 0, 1) := by decide +kernel
theorem dX11_way_37 : decode cX11_way 37 = .ok (.getfield 113, 3) := by decide +kernel
theorem dX11_way_40 : decode cX11_way 40 = .ok (.getfield 337, 3) := by decide +kernel
theorem dX11_way_43 : decode cX11_way 43 = .ok (.ireturn, 1) := by decide +kernel
theorem dX11_edge_0 : decode cX11_edge 0 = .ok (.aload_n 0, 1) := by decide +kernel
theorem dX11_edge_1 : decode cX11_edge 1 = .ok (.iload_n 1, 1) := by decide +kernel
theorem dX11_edge_2 : decode cX11_edge 2 = .ok (.invokevirtual 172, 3) := by decide +kernel
theorem dX11_edge_5 : decode cX11_edge 5 = .ok (.aload_n 0, 1) := by decide +kernel
theorem dX11_edge_6 : decode cX11_edge 6 = .ok (.iload_n 2, 1) := by decide +kernel
theorem dX11_edge_7 : decode cX11_edge 7 = .ok (.aload_n 0, 1) := by decide +kernel
theorem dX11_edge_8 : decode cX11_edge 8 = .ok (.iload_n 1, 1) := by decide +kernel
theorem dX11_edge_9 : decode cX11_edge 9 = .ok (.invokevirtual 330, 3) := by decide +kernel
theorem dX11_edge_12 : decode cX11_edge 12 = .ok (.ifCond .eq 13, 3) := by decide +kernel
theorem dX11_edge_15 : decode cX11_edge 15 = .ok (.aload_n 0, 1) := by decide +kernel
theorem dX11_edge_16 : decode cX11_edge 16 = .ok (.getfield 113, 3) := by decide +kernel
theorem dX11_edge_19 : decode cX11_edge 19 = .ok (.getfield 334, 3) := by decide +kernel
theorem dX11_edge_22 : decode cX11_edge 22 = .ok (.goto 4, 3) := by decide +kernel
theorem dX11_edge_25 : decode cX11_edge 25 = .ok (.iconst 0, 1) := by decide +kernel
theorem dX11_edge_26 : decode cX11_edge 26 = .ok (.invokevirtual 278, 3) := by decide +kernel
theorem dX11_edge_29 : decode cX11_edge 29 = .ok (.aload_n 0, 1) := by decide +kernel
theorem dX11_edge_30 : decode cX11_edge 30 = .ok (.iload_n 3, 1) := by decide +kernel
theorem dX11_edge_31 : decode cX11_edge 31 = .ok (.iconst 0, 1) := by decide +kernel
theorem dX11_edge_32 : decode cX11_edge 32 = .ok (.iconst 4, 1) := by decide +kernel
theorem dX11_edge_33 : decode cX11_edge 33 = .ok (.invokevirtual 125, 3) := by decide +kernel
theorem dX11_edge_36 : decode cX11_edge 36 = .ok (.aload_n 0, 1) := by decide +kernel
theorem dX11_edge_37 : decode cX11_edge 37 = .ok (.getfield 113, 3) := by decide +kernel
theorem dX11_edge_40 : decode cX11_edge 40 = .ok (.getfield 340, 3) := by decide +kernel
theorem dX11_edge_43 : decode cX11_edge 43 = .ok (.iload_n 2, 1) := by decide +kernel
theorem dX11_edge_44 : decode cX11_edge 44 = .ok (.iaload, 1) := by decide +kernel
theorem dX11_edge_45 : decode cX11_edge 45 = .ok (.istore 4, 2) := by decide +kernel
theorem dX11_edge_47 : decode cX11_edge 47 = .ok (.iload_n 3, 1) := by decide +kernel
theorem dX11_edge_48 : decode cX11_edge 48 = .ok (.tableswitch 76 0 3 #[32, 43, 54, 65], 32) := by decide +kernel
theorem dX11_edge_80 : decode cX11_edge 80 = .ok (.aload_n 0, 1) := by decide +kernel
theorem dX11_edge_81 : decode cX11_edge 81 = .ok (.getfield 72, 3) := by decide +kernel
theorem dX11_edge_84 : decode cX11_edge 84 = .ok (.getfield 343, 3) := by decide +kernel
theorem dX11_edge_87 : decode cX11_edge 87 = .ok (.iload 4, 2) := by decide +kernel
theorem dX11_edge_89 : decode cX11_edge 89 = .ok (.iaload, 1) := by decide +kernel
theorem dX11_edge_90 : decode cX11_edge 90 = .ok (.ireturn, 1) := by decide +kernel
theorem dX11_edge_91 : decode cX11_edge 91 = .ok (.aload_n 0, 1) := by decide +kernel
theorem dX11_edge_92 : decode cX11_edge 92 = .ok (.getfield 72, 3) := by decide +kernel
theorem dX11_edge_95 : decode cX11_edge 95 = .ok (.getfield 346, 3) := by decide +kernel
theorem dX11_edge_98 : decode cX11_edge 98 = .ok (.iload 4, 2) := by decide +kernel
theorem dX11_edge_100 : decode cX11_edge 100 = .ok (.iaload, 1) := by decide +kernel
theorem dX11_edge_101 : decode cX11_edge 101 = .ok (.ireturn, 1) := by decide +kernel
theorem dX11_edge_102 : decode cX11_edge 102 = .ok (.aload_n 0, 1) := by decide +kernel
theorem dX11_edge_103 : decode cX11_edge 103 = .ok (.getfield 72, 3) := by decide +kernel
theorem dX11_edge_106 : decode cX11_edge 106 = .ok (.getfield 349, 3) := by decide +kernel
theorem dX11_edge_109 : decode cX11_edge 109 = .ok (.iload 4, 2) := by decide +kernel
theorem dX11_edge_111 : decode cX11_edge 111 = .ok (.iaload, 1) := by decide +kernel
theorem dX11_edge_112 : decode cX11_edge 112 = .ok (.ireturn, 1) := by decide +kernel
theorem dX11_edge_113 : decode cX11_edge 113 = .ok (.aload_n 0, 1) := by decide +kernel
theorem dX11_edge_114 : decode cX11_edge 114 = .ok (.getfield 72, 3) := by decide +kernel
theorem dX11_edge_117 : decode cX11_edge 117 = .ok (.getfield 352, 3) := by decide +kernel
theorem dX11_edge_120 : decode cX11_edge 120 = .ok (.iload 4, 2) := by decide +kernel
theorem dX11_edge_122 : decode cX11_edge 122 = .ok (.iaload, 1) := by decide +kernel
theorem dX11_edge_123 : decode cX11_edge 123 = .ok (.ireturn, 1) := by decide +kernel
theorem dX11_edge_124 : decode cX11_edge 124 = .ok (.aload_n 0, 1) := by decide +kernel
theorem dX11_edge_125 : decode cX11_edge 125 = .ok (.getfield 72, 3) := by decide +kernel
theorem dX11_edge_128 : decode cX11_edge 128 = .ok (.getfield 355, 3) := by decide +kernel
theorem dX11_edge_131 : decode cX11_edge 131 = .ok (.iload 4, 2) := by decide +kernel
theorem dX11_edge_133 : decode cX11_edge 133 = .ok (.iaload, 1) := by decide +kernel
theorem dX11_edge_134 : decode cX11_edge 134 = .ok (.ireturn, 1) := by decide +kernel
theorem dX11_used_0 : decode cX11_used 0 = .ok (.aload_n 0, 1) := by decide +kernel
theorem dX11_used_1 : decode cX11_used 1 = .ok (.iload_n 1, 1) := by decide +kernel
theorem dX11_used_2 : decode cX11_used 2 = .ok (.invokevirtual 239, 3) := by decide +kernel
theorem dX11_used_5 : decode cX11_used 5 = .ok (.iconst 0, 1) := by decide +kernel
theorem dX11_used_6 : decode cX11_used 6 = .ok (.istore_n 2, 1) := by decide +kernel
theorem dX11_used_7 : decode cX11_used 7 = .ok (.iconst 0, 1) := by decide +kernel
theorem dX11_used_8 : decode cX11_used 8 = .ok (.istore_n 3, 1) := by decide +kernel
theorem dX11_used_9 : decode cX11_used 9 = .ok (.iload_n 3, 1) := by decide +kernel
theorem dX11_used_10 : decode cX11_used 10 = .ok (.aload_n 0, 1) := by decide +kernel
theorem dX11_used_11 : decode cX11_used 11 = .ok (.getfield 36, 3) := by decide +kernel
theorem dX11_used_14 : decode cX11_used 14 = .ok (.getfield 147, 3) := by decide +kernel
theorem dX11_used_17 : decode cX11_used 17 = .ok (.if_icmp .ge 28, 3) := by decide +kernel
theorem dX11_used_20 : decode cX11_used 20 = .ok (.aload_n 0, 1) := by decide +kernel
theorem dX11_used_21 : decode cX11_used 21 = .ok (.iload_n 3, 1) := by decide +kernel
theorem dX11_used_22 : decode cX11_used 22 = .ok (.invokevirtual 330, 3) := by decide +kernel
theorem dX11_used_25 : decode cX11_used 25 = .ok (.ifCond .eq 14, 3) := by decide +kernel
theorem dX11_used_28 : decode cX11_used 28 = .ok (.iload_n 2, 1) := by decide +kernel
theorem dX11_used_29 : decode cX11_used 29 = .ok (.aload_n 0, 1) := by decide +kernel
theorem dX11_used_30 : decode cX11_used 30 = .ok (.getfield 113, 3) := by decide +kernel
theorem dX11_used_33 : decode cX11_used 33 = .ok (.iload_n 1, 1) := by decide +kernel
theorem dX11_used_34 : decode cX11_used 34 = .ok (.invokevirtual 358, 3) := by decide +kernel
theorem dX11_used_37 : decode cX11_used 37 = .ok (.iadd, 1) := by decide +kernel
theorem dX11_used_38 : decode cX11_used 38 = .ok (.istore_n 2, 1) := by decide +kernel
theorem dX11_used_39 : decode cX11_used 39 = .ok (.iinc 3 1, 3) := by decide +kernel
theorem dX11_used_42 : decode cX11_used 42 = .ok (.goto (-33), 3) := by decide +kernel
theorem dX11_used_45 : decode cX11_used 45 = .ok (.iload_n 2, 1) := by decide +kernel
theorem dX11_used_46 : decode cX11_used 46 = .ok (.ireturn, 1) := by decide +kernel
theorem dX11_dear_0 : decode cX11_dear 0 = .ok (.aload_n 0, 1) := by decide +kernel
theorem dX11_dear_1 : decode cX11_dear 1 = .ok (.iload_n 1, 1) := by decide +kernel
theorem dX11_dear_2 : decode cX11_dear 2 = .ok (.invokevirtual 162, 3) := by decide +kernel
theorem dX11_dear_5 : decode cX11_dear 5 = .ok (.aload_n 0, 1) := by decide +kernel
theorem dX11_dear_6 : decode cX11_dear 6 = .ok (.iload_n 2, 1) := by decide +kernel
theorem dX11_dear_7 : decode cX11_dear 7 = .ok (.invokevirtual 162, 3) := by decide +kernel
theorem dX11_dear_10 : decode cX11_dear 10 = .ok (.aload_n 0, 1) := by decide +kernel
theorem dX11_dear_11 : decode cX11_dear 11 = .ok (.getfield 48, 3) := by decide +kernel
theorem dX11_dear_14 : decode cX11_dear 14 = .ok (.iload_n 1, 1) := by decide +kernel
theorem dX11_dear_15 : decode cX11_dear 15 = .ok (.iload_n 2, 1) := by decide +kernel
theorem dX11_dear_16 : decode cX11_dear 16 = .ok (.aload_n 0, 1) := by decide +kernel
theorem dX11_dear_17 : decode cX11_dear 17 = .ok (.getfield 64, 3) := by decide +kernel
theorem dX11_dear_20 : decode cX11_dear 20 = .ok (.bipush 6, 2) := by decide +kernel
theorem dX11_dear_22 : decode cX11_dear 22 = .ok (.iaload, 1) := by decide +kernel
theorem dX11_dear_23 : decode cX11_dear 23 = .ok (.invokevirtual 361, 3) := by decide +kernel
theorem dX11_dear_26 : decode cX11_dear 26 = .ok (.ireturn, 1) := by decide +kernel
theorem dX11_sentence_0 : decode cX11_sentence 0 = .ok (.aload_n 0, 1) := by decide +kernel
theorem dX11_sentence_1 : decode cX11_sentence 1 = .ok (.iload_n 1, 1) := by decide +kernel
theorem dX11_sentence_2 : decode cX11_sentence 2 = .ok (.iconst 0, 1) := by decide +kernel
theorem dX11_sentence_3 : decode cX11_sentence 3 = .ok (.iconst 2, 1) := by decide +kernel
theorem dX11_sentence_4 : decode cX11_sentence 4 = .ok (.invokevirtual 125, 3) := by decide +kernel
theorem dX11_sentence_7 : decode cX11_sentence 7 = .ok (.aload_n 0, 1) := by decide +kernel
theorem dX11_sentence_8 : decode cX11_sentence 8 = .ok (.getfield 104, 3) := by decide +kernel
theorem dX11_sentence_11 : decode cX11_sentence 11 = .ok (.invokevirtual 365, 3) := by decide +kernel
theorem dX11_sentence_14 : decode cX11_sentence 14 = .ok (.iload_n 1, 1) := by decide +kernel
theorem dX11_sentence_15 : decode cX11_sentence 15 = .ok (.lookupswitch 41 #[(0, 25), (1, 33)], 25) := by decide +kernel
theorem dX11_sentence_40 : decode cX11_sentence 40 = .ok (.aload_n 0, 1) := by decide +kernel
theorem dX11_sentence_41 : decode cX11_sentence 41 = .ok (.getfield 104, 3) := by decide +kernel
theorem dX11_sentence_44 : decode cX11_sentence 44 = .ok (.getfield 366, 3) := by decide +kernel
theorem dX11_sentence_47 : decode cX11_sentence 47 = .ok (.ireturn, 1) := by decide +kernel
theorem dX11_sentence_48 : decode cX11_sentence 48 = .ok (.aload_n 0, 1) := by decide +kernel
theorem dX11_sentence_49 : decode cX11_sentence 49 = .ok (.getfield 104, 3) := by decide +kernel
theorem dX11_sentence_52 : decode cX11_sentence 52 = .ok (.getfield 367, 3) := by decide +kernel
theorem dX11_sentence_55 : decode cX11_sentence 55 = .ok (.ireturn, 1) := by decide +kernel
theorem dX11_sentence_56 : decode cX11_sentence 56 = .ok (.aload_n 0, 1) := by decide +kernel
theorem dX11_sentence_57 : decode cX11_sentence 57 = .ok (.getfield 104, 3) := by decide +kernel
theorem dX11_sentence_60 : decode cX11_sentence 60 = .ok (.getfield 370, 3) := by decide +kernel
theorem dX11_sentence_63 : decode cX11_sentence 63 = .ok (.ireturn, 1) := by decide +kernel
theorem dX11_said_0 : decode cX11_said 0 = .ok (.aload_n 0, 1) := by decide +kernel
theorem dX11_said_1 : decode cX11_said 1 = .ok (.iload_n 1, 1) := by decide +kernel
theorem dX11_said_2 : decode cX11_said 2 = .ok (.invokevirtual 172, 3) := by decide +kernel
theorem dX11_said_5 : decode cX11_said 5 = .ok (.aload_n 0, 1) := by decide +kernel
theorem dX11_said_6 : decode cX11_said 6 = .ok (.getfield 104, 3) := by decide +kernel
theorem dX11_said_9 : decode cX11_said 9 = .ok (.invokevirtual 365, 3) := by decide +kernel
theorem dX11_said_12 : decode cX11_said 12 = .ok (.aload_n 0, 1) := by decide +kernel
theorem dX11_said_13 : decode cX11_said 13 = .ok (.getfield 104, 3) := by decide +kernel
theorem dX11_said_16 : decode cX11_said 16 = .ok (.getfield 371, 3) := by decide +kernel
theorem dX11_said_19 : decode cX11_said 19 = .ok (.iload_n 1, 1) := by decide +kernel
theorem dX11_said_20 : decode cX11_said 20 = .ok (.iaload, 1) := by decide +kernel
theorem dX11_said_21 : decode cX11_said 21 = .ok (.ireturn, 1) := by decide +kernel
theorem dX11_apart_0 : decode cX11_apart 0 = .ok (.aload_n 0, 1) := by decide +kernel
theorem dX11_apart_1 : decode cX11_apart 1 = .ok (.iload_n 1, 1) := by decide +kernel
theorem dX11_apart_2 : decode cX11_apart 2 = .ok (.invokevirtual 162, 3) := by decide +kernel
theorem dX11_apart_5 : decode cX11_apart 5 = .ok (.aload_n 0, 1) := by decide +kernel
theorem dX11_apart_6 : decode cX11_apart 6 = .ok (.iload_n 2, 1) := by decide +kernel
theorem dX11_apart_7 : decode cX11_apart 7 = .ok (.invokevirtual 162, 3) := by decide +kernel
theorem dX11_apart_10 : decode cX11_apart 10 = .ok (.aload_n 0, 1) := by decide +kernel
theorem dX11_apart_11 : decode cX11_apart 11 = .ok (.iload_n 1, 1) := by decide +kernel
theorem dX11_apart_12 : decode cX11_apart 12 = .ok (.iload_n 2, 1) := by decide +kernel
theorem dX11_apart_13 : decode cX11_apart 13 = .ok (.invokevirtual 374, 3) := by decide +kernel
theorem dX11_apart_16 : decode cX11_apart 16 = .ok (.ireturn, 1) := by decide +kernel
theorem dX11_twin_0 : decode cX11_twin 0 = .ok (.aload_n 0, 1) := by decide +kernel
theorem dX11_twin_1 : decode cX11_twin 1 = .ok (.iload_n 1, 1) := by decide +kernel
theorem dX11_twin_2 : decode cX11_twin 2 = .ok (.invokevirtual 162, 3) := by decide +kernel
theorem dX11_twin_5 : decode cX11_twin 5 = .ok (.aload_n 0, 1) := by decide +kernel
theorem dX11_twin_6 : decode cX11_twin 6 = .ok (.iload_n 2, 1) := by decide +kernel
theorem dX11_twin_7 : decode cX11_twin 7 = .ok (.iconst 0, 1) := by decide +kernel
theorem dX11_twin_8 : decode cX11_twin 8 = .ok (.iconst 1, 1) := by decide +kernel
theorem dX11_twin_9 : decode cX11_twin 9 = .ok (.invokevirtual 125, 3) := by decide +kernel
theorem dX11_twin_12 : decode cX11_twin 12 = .ok (.iconst (-1), 1) := by decide +kernel
theorem dX11_twin_13 : decode cX11_twin 13 = .ok (.istore_n 3, 1) := by decide +kernel
theorem dX11_twin_14 : decode cX11_twin 14 = .ok (.iconst (-1), 1) := by decide +kernel
theorem dX11_twin_15 : decode cX11_twin 15 = .ok (.istore 4, 2) := by decide +kernel
theorem dX11_twin_17 : decode cX11_twin 17 = .ok (.iconst 0, 1) := by decide +kernel
theorem dX11_twin_18 : decode cX11_twin 18 = .ok (.istore 5, 2) := by decide +kernel
theorem dX11_twin_20 : decode cX11_twin 20 = .ok (.iload 5, 2) := by decide +kernel
theorem dX11_twin_22 : decode cX11_twin 22 = .ok (.aload_n 0, 1) := by decide +kernel
theorem dX11_twin_23 : decode cX11_twin 23 = .ok (.getfield 19, 3) := by decide +kernel
theorem dX11_twin_26 : decode cX11_twin 26 = .ok (.getfield 139, 3) := by decide +kernel
theorem dX11_twin_29 : decode cX11_twin 29 = .ok (.if_icmp .ge 54, 3) := by decide +kernel
theorem dX11_twin_32 : decode cX11_twin 32 = .ok (.iload 5, 2) := by decide +kernel
theorem dX11_twin_34 : decode cX11_twin 34 = .ok (.iload_n 1, 1) := by decide +kernel
theorem dX11_twin_35 : decode cX11_twin 35 = .ok (.if_icmp .ne 7, 3) := by decide +kernel
theorem dX11_twin_38 : decode cX11_twin 38 = .ok (.iconst (-1), 1) := by decide +kernel
theorem dX11_twin_39 : decode cX11_twin 39 = .ok (.goto 10, 3) := by decide +kernel
theorem dX11_twin_42 : decode cX11_twin 42 = .ok (.aload_n 0, 1) := by decide +kernel
theorem dX11_twin_43 : decode cX11_twin 43 = .ok (.iload_n 1, 1) := by decide +kernel
theorem dX11_twin_44 : decode cX11_twin 44 = .ok (.iload 5, 2) := by decide +kernel
theorem dX11_twin_46 : decode cX11_twin 46 = .ok (.invokevirtual 374, 3) := by decide +kernel
theorem dX11_twin_49 : decode cX11_twin 49 = .ok (.istore 6, 2) := by decide +kernel
theorem dX11_twin_51 : decode cX11_twin 51 = .ok (.iload 6, 2) := by decide +kernel
theorem dX11_twin_53 : decode cX11_twin 53 = .ok (.iconst (-1), 1) := by decide +kernel
theorem dX11_twin_54 : decode cX11_twin 54 = .ok (.if_icmp .eq 23, 3) := by decide +kernel
theorem dX11_twin_57 : decode cX11_twin 57 = .ok (.iload 4, 2) := by decide +kernel
theorem dX11_twin_59 : decode cX11_twin 59 = .ok (.iconst (-1), 1) := by decide +kernel
theorem dX11_twin_60 : decode cX11_twin 60 = .ok (.if_icmp .eq 10, 3) := by decide +kernel
theorem dX11_twin_63 : decode cX11_twin 63 = .ok (.iload 6, 2) := by decide +kernel
theorem dX11_twin_65 : decode cX11_twin 65 = .ok (.iload 4, 2) := by decide +kernel
theorem dX11_twin_67 : decode cX11_twin 67 = .ok (.if_icmp .ge 10, 3) := by decide +kernel
theorem dX11_twin_70 : decode cX11_twin 70 = .ok (.iload 5, 2) := by decide +kernel
theorem dX11_twin_72 : decode cX11_twin 72 = .ok (.istore_n 3, 1) := by decide +kernel
theorem dX11_twin_73 : decode cX11_twin 73 = .ok (.iload 6, 2) := by decide +kernel
theorem dX11_twin_75 : decode cX11_twin 75 = .ok (.istore 4, 2) := by decide +kernel
theorem dX11_twin_77 : decode cX11_twin 77 = .ok (.iinc 5 1, 3) := by decide +kernel
theorem dX11_twin_80 : decode cX11_twin 80 = .ok (.goto (-60), 3) := by decide +kernel
theorem dX11_twin_83 : decode cX11_twin 83 = .ok (.iload_n 2, 1) := by decide +kernel
theorem dX11_twin_84 : decode cX11_twin 84 = .ok (.ifCond .ne 7, 3) := by decide +kernel
theorem dX11_twin_87 : decode cX11_twin 87 = .ok (.iload_n 3, 1) := by decide +kernel
theorem dX11_twin_88 : decode cX11_twin 88 = .ok (.goto 5, 3) := by decide +kernel
theorem dX11_twin_91 : decode cX11_twin 91 = .ok (.iload 4, 2) := by decide +kernel
theorem dX11_twin_93 : decode cX11_twin 93 = .ok (.ireturn, 1) := by decide +kernel
theorem dX11_twins_0 : decode cX11_twins 0 = .ok (.aload_n 0, 1) := by decide +kernel
theorem dX11_twins_1 : decode cX11_twins 1 = .ok (.iload_n 1, 1) := by decide +kernel
theorem dX11_twins_2 : decode cX11_twins 2 = .ok (.iconst 0, 1) := by decide +kernel
theorem dX11_twins_3 : decode cX11_twins 3 = .ok (.sipush 999, 3) := by decide +kernel
theorem dX11_twins_6 : decode cX11_twins 6 = .ok (.invokevirtual 125, 3) := by decide +kernel
theorem dX11_twins_9 : decode cX11_twins 9 = .ok (.iconst 0, 1) := by decide +kernel
theorem dX11_twins_10 : decode cX11_twins 10 = .ok (.istore_n 2, 1) := by decide +kernel
theorem dX11_twins_11 : decode cX11_twins 11 = .ok (.iconst 0, 1) := by decide +kernel
theorem dX11_twins_12 : decode cX11_twins 12 = .ok (.istore_n 3, 1) := by decide +kernel
theorem dX11_twins_13 : decode cX11_twins 13 = .ok (.iload_n 3, 1) := by decide +kernel
theorem dX11_twins_14 : decode cX11_twins 14 = .ok (.aload_n 0, 1) := by decide +kernel
theorem dX11_twins_15 : decode cX11_twins 15 = .ok (.getfield 19, 3) := by decide +kernel
theorem dX11_twins_18 : decode cX11_twins 18 = .ok (.getfield 139, 3) := by decide +kernel
theorem dX11_twins_21 : decode cX11_twins 21 = .ok (.if_icmp .ge 64, 3) := by decide +kernel
theorem dX11_twins_24 : decode cX11_twins 24 = .ok (.iconst 0, 1) := by decide +kernel
theorem dX11_twins_25 : decode cX11_twins 25 = .ok (.istore 4, 2) := by decide +kernel
theorem dX11_twins_27 : decode cX11_twins 27 = .ok (.iload 4, 2) := by decide +kernel
theorem dX11_twins_29 : decode cX11_twins 29 = .ok (.aload_n 0, 1) := by decide +kernel
theorem dX11_twins_30 : decode cX11_twins 30 = .ok (.getfield 19, 3) := by decide +kernel
theorem dX11_twins_33 : decode cX11_twins 33 = .ok (.getfield 139, 3) := by decide +kernel
theorem dX11_twins_36 : decode cX11_twins 36 = .ok (.if_icmp .ge 43, 3) := by decide +kernel
theorem dX11_twins_39 : decode cX11_twins 39 = .ok (.iload 4, 2) := by decide +kernel
theorem dX11_twins_41 : decode cX11_twins 41 = .ok (.iload_n 3, 1) := by decide +kernel
theorem dX11_twins_42 : decode cX11_twins 42 = .ok (.if_icmp .ne 7, 3) := by decide +kernel
theorem dX11_twins_45 : decode cX11_twins 45 = .ok (.iconst (-1), 1) := by decide +kernel
theorem dX11_twins_46 : decode cX11_twins 46 = .ok (.goto 10, 3) := by decide +kernel
theorem dX11_twins_49 : decode cX11_twins 49 = .ok (.aload_n 0, 1) := by decide +kernel
theorem dX11_twins_50 : decode cX11_twins 50 = .ok (.iload_n 3, 1) := by decide +kernel
theorem dX11_twins_51 : decode cX11_twins 51 = .ok (.iload 4, 2) := by decide +kernel
theorem dX11_twins_53 : decode cX11_twins 53 = .ok (.invokevirtual 374, 3) := by decide +kernel
theorem dX11_twins_56 : decode cX11_twins 56 = .ok (.istore 5, 2) := by decide +kernel
theorem dX11_twins_58 : decode cX11_twins 58 = .ok (.iload 5, 2) := by decide +kernel
theorem dX11_twins_60 : decode cX11_twins 60 = .ok (.iconst (-1), 1) := by decide +kernel
theorem dX11_twins_61 : decode cX11_twins 61 = .ok (.if_icmp .eq 12, 3) := by decide +kernel
theorem dX11_twins_64 : decode cX11_twins 64 = .ok (.iload 5, 2) := by decide +kernel
theorem dX11_twins_66 : decode cX11_twins 66 = .ok (.iload_n 1, 1) := by decide +kernel
theorem dX11_twins_67 : decode cX11_twins 67 = .ok (.if_icmp .gt 6, 3) := by decide +kernel
theorem dX11_twins_70 : decode cX11_twins 70 = .ok (.iinc 2 1, 3) := by decide +kernel
theorem dX11_twins_73 : decode cX11_twins 73 = .ok (.iinc 4 1, 3) := by decide +kernel
theorem dX11_twins_76 : decode cX11_twins 76 = .ok (.goto (-49), 3) := by decide +kernel
theorem dX11_twins_79 : decode cX11_twins 79 = .ok (.iinc 3 1, 3) := by decide +kernel
theorem dX11_twins_82 : decode cX11_twins 82 = .ok (.goto (-69), 3) := by decide +kernel
theorem dX11_twins_85 : decode cX11_twins 85 = .ok (.iload_n 2, 1) := by decide +kernel
theorem dX11_twins_86 : decode cX11_twins 86 = .ok (.ireturn, 1) := by decide +kernel
theorem dX11_status_0 : decode cX11_status 0 = .ok (.iload_n 1, 1) := by decide +kernel
theorem dX11_status_1 : decode cX11_status 1 = .ok (.ifCond .ne 8, 3) := by decide +kernel
theorem dX11_status_4 : decode cX11_status 4 = .ok (.aload_n 0, 1) := by decide +kernel
theorem dX11_status_5 : decode cX11_status 5 = .ok (.getfield 377, 3) := by decide +kernel
theorem dX11_status_8 : decode cX11_status 8 = .ok (.ireturn, 1) := by decide +kernel
theorem dX11_status_9 : decode cX11_status 9 = .ok (.iload_n 1, 1) := by decide +kernel
theorem dX11_status_10 : decode cX11_status 10 = .ok (.iconst 1, 1) := by decide +kernel
theorem dX11_status_11 : decode cX11_status 11 = .ok (.if_icmp .ne 10, 3) := by decide +kernel
theorem dX11_status_14 : decode cX11_status 14 = .ok (.aload_n 0, 1) := by decide +kernel
theorem dX11_status_15 : decode cX11_status 15 = .ok (.getfield 380, 3) := by decide +kernel
theorem dX11_status_18 : decode cX11_status 18 = .ok (.goto 4, 3) := by decide +kernel
theorem dX11_status_21 : decode cX11_status 21 = .ok (.iconst (-1), 1) := by decide +kernel
theorem dX11_status_22 : decode cX11_status 22 = .ok (.ireturn, 1) := by decide +kernel
theorem dX11_changed_0 : decode cX11_changed 0 = .ok (.aload_n 0, 1) := by decide +kernel
theorem dX11_changed_1 : decode cX11_changed 1 = .ok (.getfield 86, 3) := by decide +kernel
theorem dX11_changed_4 : decode cX11_changed 4 = .ok (.invokevirtual 383, 3) := by decide +kernel
theorem dX11_changed_7 : decode cX11_changed 7 = .ok (.aload_n 0, 1) := by decide +kernel
theorem dX11_changed_8 : decode cX11_changed 8 = .ok (.getfield 95, 3) := by decide +kernel
theorem dX11_changed_11 : decode cX11_changed 11 = .ok (.iconst 0, 1) := by decide +kernel
theorem dX11_changed_12 : decode cX11_changed 12 = .ok (.putfield 386, 3) := by decide +kernel
theorem dX11_changed_15 : decode cX11_changed 15 = .ok (.aload_n 0, 1) := by decide +kernel
theorem dX11_changed_16 : decode cX11_changed 16 = .ok (.getfield 104, 3) := by decide +kernel
theorem dX11_changed_19 : decode cX11_changed 19 = .ok (.iconst 0, 1) := by decide +kernel
theorem dX11_changed_20 : decode cX11_changed 20 = .ok (.putfield 390, 3) := by decide +kernel
theorem dX11_changed_23 : decode cX11_changed 23 = .ok (.return_, 1) := by decide +kernel
theorem dX11_findWay_0 : decode cX11_findWay 0 = .ok (.aload_n 0, 1) := by decide +kernel
theorem dX11_findWay_1 : decode cX11_findWay 1 = .ok (.getfield 86, 3) := by decide +kernel
theorem dX11_findWay_4 : decode cX11_findWay 4 = .ok (.iload_n 1, 1) := by decide +kernel
theorem dX11_findWay_5 : decode cX11_findWay 5 = .ok (.invokevirtual 175, 3) := by decide +kernel
theorem dX11_findWay_8 : decode cX11_findWay 8 = .ok (.aload_n 0, 1) := by decide +kernel
theorem dX11_findWay_9 : decode cX11_findWay 9 = .ok (.getfield 86, 3) := by decide +kernel
theorem dX11_findWay_12 : decode cX11_findWay 12 = .ok (.iload_n 1, 1) := by decide +kernel
theorem dX11_findWay_13 : decode cX11_findWay 13 = .ok (.invokevirtual 178, 3) := by decide +kernel
theorem dX11_findWay_16 : decode cX11_findWay 16 = .ok (.istore_n 2, 1) := by decide +kernel
theorem dX11_findWay_17 : decode cX11_findWay 17 = .ok (.iload_n 2, 1) := by decide +kernel
theorem dX11_findWay_18 : decode cX11_findWay 18 = .ok (.iconst (-1), 1) := by decide +kernel
theorem dX11_findWay_19 : decode cX11_findWay 19 = .ok (.if_icmp .ne 5, 3) := by decide +kernel
theorem dX11_findWay_22 : decode cX11_findWay 22 = .ok (.iconst 0, 1) := by decide +kernel
theorem dX11_findWay_23 : decode cX11_findWay 23 = .ok (.ireturn, 1) := by decide +kernel
theorem dX11_findWay_24 : decode cX11_findWay 24 = .ok (.aload_n 0, 1) := by decide +kernel
theorem dX11_findWay_25 : decode cX11_findWay 25 = .ok (.getfield 72, 3) := by decide +kernel
theorem dX11_findWay_28 : decode cX11_findWay 28 = .ok (.aload_n 0, 1) := by decide +kernel
theorem dX11_findWay_29 : decode cX11_findWay 29 = .ok (.getfield 36, 3) := by decide +kernel
theorem dX11_findWay_32 : decode cX11_findWay 32 = .ok (.getfield 258, 3) := by decide +kernel
theorem dX11_findWay_35 : decode cX11_findWay 35 = .ok (.iload_n 1, 1) := by decide +kernel
theorem dX11_findWay_36 : decode cX11_findWay 36 = .ok (.iaload, 1) := by decide +kernel
theorem dX11_findWay_37 : decode cX11_findWay 37 = .ok (.aload_n 0, 1) := by decide +kernel
theorem dX11_findWay_38 : decode cX11_findWay 38 = .ok (.getfield 36, 3) := by decide +kernel
theorem dX11_findWay_41 : decode cX11_findWay 41 = .ok (.iload_n 1, 1) := by decide +kernel
theorem dX11_findWay_42 : decode cX11_findWay 42 = .ok (.invokevirtual 249, 3) := by decide +kernel
theorem dX11_findWay_45 : decode cX11_findWay 45 = .ok (.invokevirtual 261, 3) := by decide +kernel
theorem dX11_findWay_48 : decode cX11_findWay 48 = .ok (.aload_n 0, 1) := by decide +kernel
theorem dX11_findWay_49 : decode cX11_findWay 49 = .ok (.getfield 113, 3) := by decide +kernel
theorem dX11_findWay_52 : decode cX11_findWay 52 = .ok (.iload_n 2, 1) := by decide +kernel
theorem dX11_findWay_53 : decode cX11_findWay 53 = .ok (.invokevirtual 391, 3) := by decide +kernel
theorem dX11_findWay_56 : decode cX11_findWay 56 = .ok (.iconst 1, 1) := by decide +kernel
theorem dX11_findWay_57 : decode cX11_findWay 57 = .ok (.ireturn, 1) := by decide +kernel
theorem dX11_costBetween_0 : decode cX11_costBetween 0 = .ok (.aload_n 0, 1) := by decide +kernel
theorem dX11_costBetween_1 : decode cX11_costBetween 1 = .ok (.getfield 86, 3) := by decide +kernel
theorem dX11_costBetween_4 : decode cX11_costBetween 4 = .ok (.iload_n 1, 1) := by decide +kernel
theorem dX11_costBetween_5 : decode cX11_costBetween 5 = .ok (.invokevirtual 394, 3) := by decide +kernel
theorem dX11_costBetween_8 : decode cX11_costBetween 8 = .ok (.aload_n 0, 1) := by decide +kernel
theorem dX11_costBetween_9 : decode cX11_costBetween 9 = .ok (.getfield 86, 3) := by decide +kernel
theorem dX11_costBetween_12 : decode cX11_costBetween 12 = .ok (.bipush 80, 2) := by decide +kernel
theorem dX11_costBetween_14 : decode cX11_costBetween 14 = .ok (.iload_n 1, 1) := by decide +kernel
theorem dX11_costBetween_15 : decode cX11_costBetween 15 = .ok (.iadd, 1) := by decide +kernel
theorem dX11_costBetween_16 : decode cX11_costBetween 16 = .ok (.iload_n 2, 1) := by decide +kernel
theorem dX11_costBetween_17 : decode cX11_costBetween 17 = .ok (.invokevirtual 299, 3) := by decide +kernel
theorem dX11_costBetween_20 : decode cX11_costBetween 20 = .ok (.istore_n 3, 1) := by decide +kernel
theorem dX11_costBetween_21 : decode cX11_costBetween 21 = .ok (.iload_n 3, 1) := by decide +kernel
theorem dX11_costBetween_22 : decode cX11_costBetween 22 = .ok (.iconst (-1), 1) := by decide +kernel
theorem dX11_costBetween_23 : decode cX11_costBetween 23 = .ok (.if_icmp .ne 7, 3) := by decide +kernel
theorem dX11_costBetween_26 : decode cX11_costBetween 26 = .ok (.iconst (-1), 1) := by decide +kernel
theorem dX11_costBetween_27 : decode cX11_costBetween 27 = .ok (.goto 14, 3) := by decide +kernel
theorem dX11_costBetween_30 : decode cX11_costBetween 30 = .ok (.iload_n 3, 1) := by decide +kernel
theorem dX11_costBetween_31 : decode cX11_costBetween 31 = .ok (.aload_n 0, 1) := by decide +kernel
theorem dX11_costBetween_32 : decode cX11_costBetween 32 = .ok (.getfield 19, 3) := by decide +kernel
theorem dX11_costBetween_35 : decode cX11_costBetween 35 = .ok (.getfield 165, 3) := by decide +kernel
theorem dX11_costBetween_38 : decode cX11_costBetween 38 = .ok (.iload_n 2, 1) := by decide +kernel
theorem dX11_costBetween_39 : decode cX11_costBetween 39 = .ok (.iaload, 1) := by decide +kernel
theorem dX11_costBetween_40 : decode cX11_costBetween 40 = .ok (.isub, 1) := by decide +kernel
theorem dX11_costBetween_41 : decode cX11_costBetween 41 = .ok (.ireturn, 1) := by decide +kernel
theorem dX11_needWord_0 : decode cX11_needWord 0 = .ok (.aload_n 0, 1) := by decide +kernel
theorem dX11_needWord_1 : decode cX11_needWord 1 = .ok (.iload_n 1, 1) := by decide +kernel
theorem dX11_needWord_2 : decode cX11_needWord 2 = .ok (.aload_n 0, 1) := by decide +kernel
theorem dX11_needWord_3 : decode cX11_needWord 3 = .ok (.getfield 19, 3) := by decide +kernel
theorem dX11_needWord_6 : decode cX11_needWord 6 = .ok (.getfield 139, 3) := by decide +kernel
theorem dX11_needWord_9 : decode cX11_needWord 9 = .ok (.invokevirtual 278, 3) := by decide +kernel
theorem dX11_needWord_12 : decode cX11_needWord 12 = .ok (.return_, 1) := by decide +kernel
theorem dX11_needNode_0 : decode cX11_needNode 0 = .ok (.aload_n 0, 1) := by decide +kernel
theorem dX11_needNode_1 : decode cX11_needNode 1 = .ok (.iload_n 1, 1) := by decide +kernel
theorem dX11_needNode_2 : decode cX11_needNode 2 = .ok (.aload_n 0, 1) := by decide +kernel
theorem dX11_needNode_3 : decode cX11_needNode 3 = .ok (.getfield 19, 3) := by decide +kernel
theorem dX11_needNode_6 : decode cX11_needNode 6 = .ok (.getfield 193, 3) := by decide +kernel
theorem dX11_needNode_9 : decode cX11_needNode 9 = .ok (.invokevirtual 278, 3) := by decide +kernel
theorem dX11_needNode_12 : decode cX11_needNode 12 = .ok (.return_, 1) := by decide +kernel
theorem dX11_needShape_0 : decode cX11_needShape 0 = .ok (.aload_n 0, 1) := by decide +kernel
theorem dX11_needShape_1 : decode cX11_needShape 1 = .ok (.iload_n 1, 1) := by decide +kernel
theorem dX11_needShape_2 : decode cX11_needShape 2 = .ok (.aload_n 0, 1) := by decide +kernel
theorem dX11_needShape_3 : decode cX11_needShape 3 = .ok (.getfield 26, 3) := by decide +kernel
theorem dX11_needShape_6 : decode cX11_needShape 6 = .ok (.getfield 145, 3) := by decide +kernel
theorem dX11_needShape_9 : decode cX11_needShape 9 = .ok (.invokevirtual 278, 3) := by decide +kernel
theorem dX11_needShape_12 : decode cX11_needShape 12 = .ok (.return_, 1) := by decide +kernel
theorem dX11_needToken_0 : decode cX11_needToken 0 = .ok (.aload_n 0, 1) := by decide +kernel
theorem dX11_needToken_1 : decode cX11_needToken 1 = .ok (.iload_n 1, 1) := by decide +kernel
theorem dX11_needToken_2 : decode cX11_needToken 2 = .ok (.aload_n 0, 1) := by decide +kernel
theorem dX11_needToken_3 : decode cX11_needToken 3 = .ok (.getfield 36, 3) := by decide +kernel
theorem dX11_needToken_6 : decode cX11_needToken 6 = .ok (.getfield 147, 3) := by decide +kernel
theorem dX11_needToken_9 : decode cX11_needToken 9 = .ok (.invokevirtual 278, 3) := by decide +kernel
theorem dX11_needToken_12 : decode cX11_needToken 12 = .ok (.return_, 1) := by decide +kernel
theorem dX11_needElement_0 : decode cX11_needElement 0 = .ok (.iload_n 1, 1) := by decide +kernel
theorem dX11_needElement_1 : decode cX11_needElement 1 = .ok (.ifCond .lt 8, 3) := by decide +kernel
theorem dX11_needElement_4 : decode cX11_needElement 4 = .ok (.iload_n 1, 1) := by decide +kernel
theorem dX11_needElement_5 : decode cX11_needElement 5 = .ok (.iload_n 2, 1) := by decide +kernel
theorem dX11_needElement_6 : decode cX11_needElement 6 = .ok (.if_icmp .lt 24, 3) := by decide +kernel
theorem dX11_needElement_9 : decode cX11_needElement 9 = .ok (.aload_n 0, 1) := by decide +kernel
theorem dX11_needElement_10 : decode cX11_needElement 10 = .ok (.dup, 1) := by decide +kernel
theorem dX11_needElement_11 : decode cX11_needElement 11 = .ok (.getfield 377, 3) := by decide +kernel
theorem dX11_needElement_14 : decode cX11_needElement 14 = .ok (.iconst 1, 1) := by decide +kernel
theorem dX11_needElement_15 : decode cX11_needElement 15 = .ok (.iadd, 1) := by decide +kernel
theorem dX11_needElement_16 : decode cX11_needElement 16 = .ok (.putfield 377, 3) := by decide +kernel
theorem dX11_needElement_19 : decode cX11_needElement 19 = .ok (.new 397, 3) := by decide +kernel
theorem dX11_needElement_22 : decode cX11_needElement 22 = .ok (.dup, 1) := by decide +kernel
theorem dX11_needElement_23 : decode cX11_needElement 23 = .ok (.ldc_w 399, 3) := by decide +kernel
theorem dX11_needElement_26 : decode cX11_needElement 26 = .ok (.invokespecial 401, 3) := by decide +kernel
theorem dX11_needElement_29 : decode cX11_needElement 29 = .ok (.athrow, 1) := by decide +kernel
theorem dX11_needElement_30 : decode cX11_needElement 30 = .ok (.return_, 1) := by decide +kernel
theorem dX11_needBetween_0 : decode cX11_needBetween 0 = .ok (.iload_n 1, 1) := by decide +kernel
theorem dX11_needBetween_1 : decode cX11_needBetween 1 = .ok (.iload_n 2, 1) := by decide +kernel
theorem dX11_needBetween_2 : decode cX11_needBetween 2 = .ok (.if_icmp .lt 8, 3) := by decide +kernel
theorem dX11_needBetween_5 : decode cX11_needBetween 5 = .ok (.iload_n 1, 1) := by decide +kernel
theorem dX11_needBetween_6 : decode cX11_needBetween 6 = .ok (.iload_n 3, 1) := by decide +kernel
theorem dX11_needBetween_7 : decode cX11_needBetween 7 = .ok (.if_icmp .le 24, 3) := by decide +kernel
theorem dX11_needBetween_10 : decode cX11_needBetween 10 = .ok (.aload_n 0, 1) := by decide +kernel
theorem dX11_needBetween_11 : decode cX11_needBetween 11 = .ok (.dup, 1) := by decide +kernel
theorem dX11_needBetween_12 : decode cX11_needBetween 12 = .ok (.getfield 380, 3) := by decide +kernel
theorem dX11_needBetween_15 : decode cX11_needBetween 15 = .ok (.iconst 1, 1) := by decide +kernel
theorem dX11_needBetween_16 : decode cX11_needBetween 16 = .ok (.iadd, 1) := by decide +kernel
theorem dX11_needBetween_17 : decode cX11_needBetween 17 = .ok (.putfield 380, 3) := by decide +kernel
theorem dX11_needBetween_20 : decode cX11_needBetween 20 = .ok (.new 404, 3) := by decide +kernel
theorem dX11_needBetween_23 : decode cX11_needBetween 23 = .ok (.dup, 1) := by decide +kernel
theorem dX11_needBetween_24 : decode cX11_needBetween 24 = .ok (.ldc_w 406, 3) := by decide +kernel
theorem dX11_needBetween_27 : decode cX11_needBetween 27 = .ok (.invokespecial 408, 3) := by decide +kernel
theorem dX11_needBetween_30 : decode cX11_needBetween 30 = .ok (.athrow, 1) := by decide +kernel
theorem dX11_needBetween_31 : decode cX11_needBetween 31 = .ok (.return_, 1) := by decide +kernel
theorem dX11_isLetter_0 : decode cX11_isLetter 0 = .ok (.iload_n 0, 1) := by decide +kernel
theorem dX11_isLetter_1 : decode cX11_isLetter 1 = .ok (.bipush 97, 2) := by decide +kernel
theorem dX11_isLetter_3 : decode cX11_isLetter 3 = .ok (.if_icmp .lt 13, 3) := by decide +kernel
theorem dX11_isLetter_6 : decode cX11_isLetter 6 = .ok (.iload_n 0, 1) := by decide +kernel
theorem dX11_isLetter_7 : decode cX11_isLetter 7 = .ok (.bipush 123, 2) := by decide +kernel
theorem dX11_isLetter_9 : decode cX11_isLetter 9 = .ok (.if_icmp .ge 7, 3) := by decide +kernel
theorem dX11_isLetter_12 : decode cX11_isLetter 12 = .ok (.iconst 1, 1) := by decide +kernel
theorem dX11_isLetter_13 : decode cX11_isLetter 13 = .ok (.goto 4, 3) := by decide +kernel
theorem dX11_isLetter_16 : decode cX11_isLetter 16 = .ok (.iconst 0, 1) := by decide +kernel
theorem dX11_isLetter_17 : decode cX11_isLetter 17 = .ok (.ireturn, 1) := by decide +kernel
theorem dX11_isDigit_0 : decode cX11_isDigit 0 = .ok (.iload_n 0, 1) := by decide +kernel
theorem dX11_isDigit_1 : decode cX11_isDigit 1 = .ok (.bipush 48, 2) := by decide +kernel
theorem dX11_isDigit_3 : decode cX11_isDigit 3 = .ok (.if_icmp .lt 13, 3) := by decide +kernel
theorem dX11_isDigit_6 : decode cX11_isDigit 6 = .ok (.iload_n 0, 1) := by decide +kernel
theorem dX11_isDigit_7 : decode cX11_isDigit 7 = .ok (.bipush 57, 2) := by decide +kernel
theorem dX11_isDigit_9 : decode cX11_isDigit 9 = .ok (.if_icmp .gt 7, 3) := by decide +kernel
theorem dX11_isDigit_12 : decode cX11_isDigit 12 = .ok (.iconst 1, 1) := by decide +kernel
theorem dX11_isDigit_13 : decode cX11_isDigit 13 = .ok (.goto 4, 3) := by decide +kernel
theorem dX11_isDigit_16 : decode cX11_isDigit 16 = .ok (.iconst 0, 1) := by decide +kernel
theorem dX11_isDigit_17 : decode cX11_isDigit 17 = .ok (.ireturn, 1) := by decide +kernel
