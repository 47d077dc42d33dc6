theorem dX0_init_0 : decode cX0_init 0 = .ok (.aload_n 0, 1) := by decide +kernel
theorem dX0_init_1 : decode cX0_init 1 = .ok (.invokespecial 3, 3) := by decide +kernel
theorem dX0_init_4 : decode cX0_init 4 = .ok (.aload_n 0, 1) := by decide +kernel
theorem dX0_init_5 : decode cX0_init 5 = .ok (.new 9, 3) := by decide +kernel
theorem dX0_init_8 : decode cX0_init 8 = .ok (.dup, 1) := by decide +kernel
theorem dX0_init_9 : decode cX0_init 9 = .ok (.invokespecial 11, 3) := by decide +kernel
theorem dX0_init_12 : decode cX0_init 12 = .ok (.putfield 12, 3) := by decide +kernel
theorem dX0_init_15 : decode cX0_init 15 = .ok (.return_, 1) := by decide +kernel
theorem dX0_findStart_0 : decode cX0_findStart 0 = .ok (.aload_n 0, 1) := by decide +kernel
theorem dX0_findStart_1 : decode cX0_findStart 1 = .ok (.iconst (-1), 1) := by decide +kernel
theorem dX0_findStart_2 : decode cX0_findStart 2 = .ok (.putfield 18, 3) := by decide +kernel
theorem dX0_findStart_5 : decode cX0_findStart 5 = .ok (.iconst 0, 1) := by decide +kernel
theorem dX0_findStart_6 : decode cX0_findStart 6 = .ok (.istore 4, 2) := by decide +kernel
theorem dX0_findStart_8 : decode cX0_findStart 8 = .ok (.iload 4, 2) := by decide +kernel
theorem dX0_findStart_10 : decode cX0_findStart 10 = .ok (.aload_n 2, 1) := by decide +kernel
theorem dX0_findStart_11 : decode cX0_findStart 11 = .ok (.getfield 22, 3) := by decide +kernel
theorem dX0_findStart_14 : decode cX0_findStart 14 = .ok (.if_icmp .ge 42, 3) := by decide +kernel
theorem dX0_findStart_17 : decode cX0_findStart 17 = .ok (.aload_n 0, 1) := by decide +kernel
theorem dX0_findStart_18 : decode cX0_findStart 18 = .ok (.getfield 12, 3) := by decide +kernel
theorem dX0_findStart_21 : decode cX0_findStart 21 = .ok (.aload_n 2, 1) := by decide +kernel
theorem dX0_findStart_22 : decode cX0_findStart 22 = .ok (.invokevirtual 25, 3) := by decide +kernel
theorem dX0_findStart_25 : decode cX0_findStart 25 = .ok (.aload_n 1, 1) := by decide +kernel
theorem dX0_findStart_26 : decode cX0_findStart 26 = .ok (.aload_n 0, 1) := by decide +kernel
theorem dX0_findStart_27 : decode cX0_findStart 27 = .ok (.getfield 12, 3) := by decide +kernel
theorem dX0_findStart_30 : decode cX0_findStart 30 = .ok (.iload 4, 2) := by decide +kernel
theorem dX0_findStart_32 : decode cX0_findStart 32 = .ok (.invokevirtual 29, 3) := by decide +kernel
theorem dX0_findStart_35 : decode cX0_findStart 35 = .ok (.aload_n 0, 1) := by decide +kernel
theorem dX0_findStart_36 : decode cX0_findStart 36 = .ok (.aload_n 0, 1) := by decide +kernel
theorem dX0_findStart_37 : decode cX0_findStart 37 = .ok (.getfield 12, 3) := by decide +kernel
theorem dX0_findStart_40 : decode cX0_findStart 40 = .ok (.iload_n 3, 1) := by decide +kernel
theorem dX0_findStart_41 : decode cX0_findStart 41 = .ok (.invokevirtual 35, 3) := by decide +kernel
theorem dX0_findStart_44 : decode cX0_findStart 44 = .ok (.iconst 0, 1) := by decide +kernel
theorem dX0_findStart_45 : decode cX0_findStart 45 = .ok (.iload 4, 2) := by decide +kernel
theorem dX0_findStart_47 : decode cX0_findStart 47 = .ok (.invokevirtual 39, 3) := by decide +kernel
theorem dX0_findStart_50 : decode cX0_findStart 50 = .ok (.iinc 4 1, 3) := by decide +kernel
theorem dX0_findStart_53 : decode cX0_findStart 53 = .ok (.goto (-45), 3) := by decide +kernel
theorem dX0_findStart_56 : decode cX0_findStart 56 = .ok (.return_, 1) := by decide +kernel
theorem dX0_better_0 : decode cX0_better 0 = .ok (.iload_n 1, 1) := by decide +kernel
theorem dX0_better_1 : decode cX0_better 1 = .ok (.aload_n 0, 1) := by decide +kernel
theorem dX0_better_2 : decode cX0_better 2 = .ok (.getfield 18, 3) := by decide +kernel
theorem dX0_better_5 : decode cX0_better 5 = .ok (.if_icmp .gt 4, 3) := by decide +kernel
theorem dX0_better_8 : decode cX0_better 8 = .ok (.return_, 1) := by decide +kernel
theorem dX0_better_9 : decode cX0_better 9 = .ok (.aload_n 0, 1) := by decide +kernel
theorem dX0_better_10 : decode cX0_better 10 = .ok (.iload_n 1, 1) := by decide +kernel
theorem dX0_better_11 : decode cX0_better 11 = .ok (.putfield 18, 3) := by decide +kernel
theorem dX0_better_14 : decode cX0_better 14 = .ok (.aload_n 0, 1) := by decide +kernel
theorem dX0_better_15 : decode cX0_better 15 = .ok (.iload_n 2, 1) := by decide +kernel
theorem dX0_better_16 : decode cX0_better 16 = .ok (.putfield 43, 3) := by decide +kernel
theorem dX0_better_19 : decode cX0_better 19 = .ok (.aload_n 0, 1) := by decide +kernel
theorem dX0_better_20 : decode cX0_better 20 = .ok (.iload_n 3, 1) := by decide +kernel
theorem dX0_better_21 : decode cX0_better 21 = .ok (.putfield 46, 3) := by decide +kernel
theorem dX0_better_24 : decode cX0_better 24 = .ok (.return_, 1) := by decide +kernel
theorem dX0_lessPaid_0 : decode cX0_lessPaid 0 = .ok (.aload_n 0, 1) := by decide +kernel
theorem dX0_lessPaid_1 : decode cX0_lessPaid 1 = .ok (.getfield 12, 3) := by decide +kernel
theorem dX0_lessPaid_4 : decode cX0_lessPaid 4 = .ok (.aload_n 2, 1) := by decide +kernel
theorem dX0_lessPaid_5 : decode cX0_lessPaid 5 = .ok (.invokevirtual 25, 3) := by decide +kernel
theorem dX0_lessPaid_8 : decode cX0_lessPaid 8 = .ok (.aload_n 1, 1) := by decide +kernel
theorem dX0_lessPaid_9 : decode cX0_lessPaid 9 = .ok (.aload_n 0, 1) := by decide +kernel
theorem dX0_lessPaid_10 : decode cX0_lessPaid 10 = .ok (.getfield 12, 3) := by decide +kernel
theorem dX0_lessPaid_13 : decode cX0_lessPaid 13 = .ok (.aload_n 1, 1) := by decide +kernel
theorem dX0_lessPaid_14 : decode cX0_lessPaid 14 = .ok (.getfield 49, 3) := by decide +kernel
theorem dX0_lessPaid_17 : decode cX0_lessPaid 17 = .ok (.invokevirtual 52, 3) := by decide +kernel
theorem dX0_lessPaid_20 : decode cX0_lessPaid 20 = .ok (.aload_n 0, 1) := by decide +kernel
theorem dX0_lessPaid_21 : decode cX0_lessPaid 21 = .ok (.getfield 12, 3) := by decide +kernel
theorem dX0_lessPaid_24 : decode cX0_lessPaid 24 = .ok (.iload 4, 2) := by decide +kernel
theorem dX0_lessPaid_26 : decode cX0_lessPaid 26 = .ok (.invokevirtual 55, 3) := by decide +kernel
theorem dX0_lessPaid_29 : decode cX0_lessPaid 29 = .ok (.istore 6, 2) := by decide +kernel
theorem dX0_lessPaid_31 : decode cX0_lessPaid 31 = .ok (.aload_n 0, 1) := by decide +kernel
theorem dX0_lessPaid_32 : decode cX0_lessPaid 32 = .ok (.getfield 12, 3) := by decide +kernel
theorem dX0_lessPaid_35 : decode cX0_lessPaid 35 = .ok (.aload_n 2, 1) := by decide +kernel
theorem dX0_lessPaid_36 : decode cX0_lessPaid 36 = .ok (.invokevirtual 25, 3) := by decide +kernel
theorem dX0_lessPaid_39 : decode cX0_lessPaid 39 = .ok (.aload_n 0, 1) := by decide +kernel
theorem dX0_lessPaid_40 : decode cX0_lessPaid 40 = .ok (.getfield 12, 3) := by decide +kernel
theorem dX0_lessPaid_43 : decode cX0_lessPaid 43 = .ok (.iload_n 3, 1) := by decide +kernel
theorem dX0_lessPaid_44 : decode cX0_lessPaid 44 = .ok (.iload 5, 2) := by decide +kernel
theorem dX0_lessPaid_46 : decode cX0_lessPaid 46 = .ok (.ineg, 1) := by decide +kernel
theorem dX0_lessPaid_47 : decode cX0_lessPaid 47 = .ok (.invokevirtual 58, 3) := by decide +kernel
theorem dX0_lessPaid_50 : decode cX0_lessPaid 50 = .ok (.aload_n 1, 1) := by decide +kernel
theorem dX0_lessPaid_51 : decode cX0_lessPaid 51 = .ok (.aload_n 0, 1) := by decide +kernel
theorem dX0_lessPaid_52 : decode cX0_lessPaid 52 = .ok (.getfield 12, 3) := by decide +kernel
theorem dX0_lessPaid_55 : decode cX0_lessPaid 55 = .ok (.aload_n 1, 1) := by decide +kernel
theorem dX0_lessPaid_56 : decode cX0_lessPaid 56 = .ok (.getfield 49, 3) := by decide +kernel
theorem dX0_lessPaid_59 : decode cX0_lessPaid 59 = .ok (.invokevirtual 52, 3) := by decide +kernel
theorem dX0_lessPaid_62 : decode cX0_lessPaid 62 = .ok (.iload 6, 2) := by decide +kernel
theorem dX0_lessPaid_64 : decode cX0_lessPaid 64 = .ok (.aload_n 0, 1) := by decide +kernel
theorem dX0_lessPaid_65 : decode cX0_lessPaid 65 = .ok (.getfield 12, 3) := by decide +kernel
theorem dX0_lessPaid_68 : decode cX0_lessPaid 68 = .ok (.iload 4, 2) := by decide +kernel
theorem dX0_lessPaid_70 : decode cX0_lessPaid 70 = .ok (.invokevirtual 55, 3) := by decide +kernel
theorem dX0_lessPaid_73 : decode cX0_lessPaid 73 = .ok (.isub, 1) := by decide +kernel
theorem dX0_lessPaid_74 : decode cX0_lessPaid 74 = .ok (.ireturn, 1) := by decide +kernel
theorem dX0_findLeastGift_0 : decode cX0_findLeastGift 0 = .ok (.aload_n 0, 1) := by decide +kernel
theorem dX0_findLeastGift_1 : decode cX0_findLeastGift 1 = .ok (.iconst 0, 1) := by decide +kernel
theorem dX0_findLeastGift_2 : decode cX0_findLeastGift 2 = .ok (.putfield 43, 3) := by decide +kernel
theorem dX0_findLeastGift_5 : decode cX0_findLeastGift 5 = .ok (.aload_n 0, 1) := by decide +kernel
theorem dX0_findLeastGift_6 : decode cX0_findLeastGift 6 = .ok (.bipush (-2), 2) := by decide +kernel
theorem dX0_findLeastGift_8 : decode cX0_findLeastGift 8 = .ok (.putfield 46, 3) := by decide +kernel
theorem dX0_findLeastGift_11 : decode cX0_findLeastGift 11 = .ok (.aload_n 0, 1) := by decide +kernel
theorem dX0_findLeastGift_12 : decode cX0_findLeastGift 12 = .ok (.getfield 12, 3) := by decide +kernel
theorem dX0_findLeastGift_15 : decode cX0_findLeastGift 15 = .ok (.aload_n 2, 1) := by decide +kernel
theorem dX0_findLeastGift_16 : decode cX0_findLeastGift 16 = .ok (.invokevirtual 25, 3) := by decide +kernel
theorem dX0_findLeastGift_19 : decode cX0_findLeastGift 19 = .ok (.aload_n 1, 1) := by decide +kernel
theorem dX0_findLeastGift_20 : decode cX0_findLeastGift 20 = .ok (.aload_n 0, 1) := by decide +kernel
theorem dX0_findLeastGift_21 : decode cX0_findLeastGift 21 = .ok (.getfield 12, 3) := by decide +kernel
theorem dX0_findLeastGift_24 : decode cX0_findLeastGift 24 = .ok (.iload_n 3, 1) := by decide +kernel
theorem dX0_findLeastGift_25 : decode cX0_findLeastGift 25 = .ok (.invokevirtual 62, 3) := by decide +kernel
theorem dX0_findLeastGift_28 : decode cX0_findLeastGift 28 = .ok (.ifCond .ne 4, 3) := by decide +kernel
theorem dX0_findLeastGift_31 : decode cX0_findLeastGift 31 = .ok (.return_, 1) := by decide +kernel
theorem dX0_findLeastGift_32 : decode cX0_findLeastGift 32 = .ok (.aload_n 2, 1) := by decide +kernel
theorem dX0_findLeastGift_33 : decode cX0_findLeastGift 33 = .ok (.iload_n 3, 1) := by decide +kernel
theorem dX0_findLeastGift_34 : decode cX0_findLeastGift 34 = .ok (.invokevirtual 66, 3) := by decide +kernel
theorem dX0_findLeastGift_37 : decode cX0_findLeastGift 37 = .ok (.sipush 2000, 3) := by decide +kernel
theorem dX0_findLeastGift_40 : decode cX0_findLeastGift 40 = .ok (.invokestatic 69, 3) := by decide +kernel
theorem dX0_findLeastGift_43 : decode cX0_findLeastGift 43 = .ok (.istore 4, 2) := by decide +kernel
theorem dX0_findLeastGift_45 : decode cX0_findLeastGift 45 = .ok (.iconst 1, 1) := by decide +kernel
theorem dX0_findLeastGift_46 : decode cX0_findLeastGift 46 = .ok (.istore 5, 2) := by decide +kernel
theorem dX0_findLeastGift_48 : decode cX0_findLeastGift 48 = .ok (.iload 5, 2) := by decide +kernel
theorem dX0_findLeastGift_50 : decode cX0_findLeastGift 50 = .ok (.iload 4, 2) := by decide +kernel
theorem dX0_findLeastGift_52 : decode cX0_findLeastGift 52 = .ok (.if_icmp .gt 59, 3) := by decide +kernel
theorem dX0_findLeastGift_55 : decode cX0_findLeastGift 55 = .ok (.iconst 0, 1) := by decide +kernel
theorem dX0_findLeastGift_56 : decode cX0_findLeastGift 56 = .ok (.istore 6, 2) := by decide +kernel
theorem dX0_findLeastGift_58 : decode cX0_findLeastGift 58 = .ok (.iload 6, 2) := by decide +kernel
theorem dX0_findLeastGift_60 : decode cX0_findLeastGift 60 = .ok (.aload_n 2, 1) := by decide +kernel
theorem dX0_findLeastGift_61 : decode cX0_findLeastGift 61 = .ok (.getfield 22, 3) := by decide +kernel
theorem dX0_findLeastGift_64 : decode cX0_findLeastGift 64 = .ok (.if_icmp .ge 41, 3) := by decide +kernel
theorem dX0_findLeastGift_67 : decode cX0_findLeastGift 67 = .ok (.iload 6, 2) := by decide +kernel
theorem dX0_findLeastGift_69 : decode cX0_findLeastGift 69 = .ok (.iload_n 3, 1) := by decide +kernel
theorem dX0_findLeastGift_70 : decode cX0_findLeastGift 70 = .ok (.if_icmp .eq 29, 3) := by decide +kernel
theorem dX0_findLeastGift_73 : decode cX0_findLeastGift 73 = .ok (.aload_n 0, 1) := by decide +kernel
theorem dX0_findLeastGift_74 : decode cX0_findLeastGift 74 = .ok (.aload_n 1, 1) := by decide +kernel
theorem dX0_findLeastGift_75 : decode cX0_findLeastGift 75 = .ok (.iload_n 3, 1) := by decide +kernel
theorem dX0_findLeastGift_76 : decode cX0_findLeastGift 76 = .ok (.iload 6, 2) := by decide +kernel
theorem dX0_findLeastGift_78 : decode cX0_findLeastGift 78 = .ok (.iload 5, 2) := by decide +kernel
theorem dX0_findLeastGift_80 : decode cX0_findLeastGift 80 = .ok (.invokevirtual 75, 3) := by decide +kernel
theorem dX0_findLeastGift_83 : decode cX0_findLeastGift 83 = .ok (.ifCond .eq 16, 3) := by decide +kernel
theorem dX0_findLeastGift_86 : decode cX0_findLeastGift 86 = .ok (.aload_n 0, 1) := by decide +kernel
theorem dX0_findLeastGift_87 : decode cX0_findLeastGift 87 = .ok (.iload 5, 2) := by decide +kernel
theorem dX0_findLeastGift_89 : decode cX0_findLeastGift 89 = .ok (.putfield 43, 3) := by decide +kernel
theorem dX0_findLeastGift_92 : decode cX0_findLeastGift 92 = .ok (.aload_n 0, 1) := by decide +kernel
theorem dX0_findLeastGift_93 : decode cX0_findLeastGift 93 = .ok (.iload 6, 2) := by decide +kernel
theorem dX0_findLeastGift_95 : decode cX0_findLeastGift 95 = .ok (.putfield 46, 3) := by decide +kernel
theorem dX0_findLeastGift_98 : decode cX0_findLeastGift 98 = .ok (.return_, 1) := by decide +kernel
theorem dX0_findLeastGift_99 : decode cX0_findLeastGift 99 = .ok (.iinc 6 1, 3) := by decide +kernel
theorem dX0_findLeastGift_102 : decode cX0_findLeastGift 102 = .ok (.goto (-44), 3) := by decide +kernel
theorem dX0_findLeastGift_105 : decode cX0_findLeastGift 105 = .ok (.iinc 5 1, 3) := by decide +kernel
theorem dX0_findLeastGift_108 : decode cX0_findLeastGift 108 = .ok (.goto (-60), 3) := by decide +kernel
theorem dX0_findLeastGift_111 : decode cX0_findLeastGift 111 = .ok (.aload_n 0, 1) := by decide +kernel
theorem dX0_findLeastGift_112 : decode cX0_findLeastGift 112 = .ok (.bipush (-2), 2) := by decide +kernel
theorem dX0_findLeastGift_114 : decode cX0_findLeastGift 114 = .ok (.putfield 43, 3) := by decide +kernel
theorem dX0_findLeastGift_117 : decode cX0_findLeastGift 117 = .ok (.return_, 1) := by decide +kernel
theorem dX0_isFreeBy_0 : decode cX0_isFreeBy 0 = .ok (.aload_n 0, 1) := by decide +kernel
theorem dX0_isFreeBy_1 : decode cX0_isFreeBy 1 = .ok (.getfield 12, 3) := by decide +kernel
theorem dX0_isFreeBy_4 : decode cX0_isFreeBy 4 = .ok (.iload_n 2, 1) := by decide +kernel
theorem dX0_isFreeBy_5 : decode cX0_isFreeBy 5 = .ok (.iload_n 3, 1) := by decide +kernel
theorem dX0_isFreeBy_6 : decode cX0_isFreeBy 6 = .ok (.iload 4, 2) := by decide +kernel
theorem dX0_isFreeBy_8 : decode cX0_isFreeBy 8 = .ok (.invokevirtual 79, 3) := by decide +kernel
theorem dX0_isFreeBy_11 : decode cX0_isFreeBy 11 = .ok (.aload_n 1, 1) := by decide +kernel
theorem dX0_isFreeBy_12 : decode cX0_isFreeBy 12 = .ok (.aload_n 0, 1) := by decide +kernel
theorem dX0_isFreeBy_13 : decode cX0_isFreeBy 13 = .ok (.getfield 12, 3) := by decide +kernel
theorem dX0_isFreeBy_16 : decode cX0_isFreeBy 16 = .ok (.iload_n 2, 1) := by decide +kernel
theorem dX0_isFreeBy_17 : decode cX0_isFreeBy 17 = .ok (.invokevirtual 62, 3) := by decide +kernel
theorem dX0_isFreeBy_20 : decode cX0_isFreeBy 20 = .ok (.ifCond .ne 7, 3) := by decide +kernel
theorem dX0_isFreeBy_23 : decode cX0_isFreeBy 23 = .ok (.iconst 1, 1) := by decide +kernel
theorem dX0_isFreeBy_24 : decode cX0_isFreeBy 24 = .ok (.goto 4, 3) := by decide +kernel
theorem dX0_isFreeBy_27 : decode cX0_isFreeBy 27 = .ok (.iconst 0, 1) := by decide +kernel
theorem dX0_isFreeBy_28 : decode cX0_isFreeBy 28 = .ok (.istore 5, 2) := by decide +kernel
theorem dX0_isFreeBy_30 : decode cX0_isFreeBy 30 = .ok (.aload_n 0, 1) := by decide +kernel
theorem dX0_isFreeBy_31 : decode cX0_isFreeBy 31 = .ok (.getfield 12, 3) := by decide +kernel
theorem dX0_isFreeBy_34 : decode cX0_isFreeBy 34 = .ok (.iload_n 3, 1) := by decide +kernel
theorem dX0_isFreeBy_35 : decode cX0_isFreeBy 35 = .ok (.iload_n 2, 1) := by decide +kernel
theorem dX0_isFreeBy_36 : decode cX0_isFreeBy 36 = .ok (.iload 4, 2) := by decide +kernel
theorem dX0_isFreeBy_38 : decode cX0_isFreeBy 38 = .ok (.invokevirtual 79, 3) := by decide +kernel
theorem dX0_isFreeBy_41 : decode cX0_isFreeBy 41 = .ok (.iload 5, 2) := by decide +kernel
theorem dX0_isFreeBy_43 : decode cX0_isFreeBy 43 = .ok (.ireturn, 1) := by decide +kernel
theorem dX0_findBestGift_0 : decode cX0_findBestGift 0 = .ok (.aload_n 0, 1) := by decide +kernel
theorem dX0_findBestGift_1 : decode cX0_findBestGift 1 = .ok (.getfield 12, 3) := by decide +kernel
theorem dX0_findBestGift_4 : decode cX0_findBestGift 4 = .ok (.aload_n 2, 1) := by decide +kernel
theorem dX0_findBestGift_5 : decode cX0_findBestGift 5 = .ok (.invokevirtual 25, 3) := by decide +kernel
theorem dX0_findBestGift_8 : decode cX0_findBestGift 8 = .ok (.aload_n 1, 1) := by decide +kernel
theorem dX0_findBestGift_9 : decode cX0_findBestGift 9 = .ok (.aload_n 0, 1) := by decide +kernel
theorem dX0_findBestGift_10 : decode cX0_findBestGift 10 = .ok (.getfield 12, 3) := by decide +kernel
theorem dX0_findBestGift_13 : decode cX0_findBestGift 13 = .ok (.iload 5, 2) := by decide +kernel
theorem dX0_findBestGift_15 : decode cX0_findBestGift 15 = .ok (.aload_n 1, 1) := by decide +kernel
theorem dX0_findBestGift_16 : decode cX0_findBestGift 16 = .ok (.getfield 49, 3) := by decide +kernel
theorem dX0_findBestGift_19 : decode cX0_findBestGift 19 = .ok (.invokevirtual 82, 3) := by decide +kernel
theorem dX0_findBestGift_22 : decode cX0_findBestGift 22 = .ok (.aload_n 0, 1) := by decide +kernel
theorem dX0_findBestGift_23 : decode cX0_findBestGift 23 = .ok (.iconst (-1), 1) := by decide +kernel
theorem dX0_findBestGift_24 : decode cX0_findBestGift 24 = .ok (.putfield 18, 3) := by decide +kernel
theorem dX0_findBestGift_27 : decode cX0_findBestGift 27 = .ok (.aload_n 0, 1) := by decide +kernel
theorem dX0_findBestGift_28 : decode cX0_findBestGift 28 = .ok (.aload_n 0, 1) := by decide +kernel
theorem dX0_findBestGift_29 : decode cX0_findBestGift 29 = .ok (.getfield 12, 3) := by decide +kernel
theorem dX0_findBestGift_32 : decode cX0_findBestGift 32 = .ok (.iload_n 3, 1) := by decide +kernel
theorem dX0_findBestGift_33 : decode cX0_findBestGift 33 = .ok (.invokevirtual 35, 3) := by decide +kernel
theorem dX0_findBestGift_36 : decode cX0_findBestGift 36 = .ok (.iconst 0, 1) := by decide +kernel
theorem dX0_findBestGift_37 : decode cX0_findBestGift 37 = .ok (.bipush (-2), 2) := by decide +kernel
theorem dX0_findBestGift_39 : decode cX0_findBestGift 39 = .ok (.invokevirtual 39, 3) := by decide +kernel
theorem dX0_findBestGift_42 : decode cX0_findBestGift 42 = .ok (.iconst 1, 1) := by decide +kernel
theorem dX0_findBestGift_43 : decode cX0_findBestGift 43 = .ok (.istore 6, 2) := by decide +kernel
theorem dX0_findBestGift_45 : decode cX0_findBestGift 45 = .ok (.iload 6, 2) := by decide +kernel
theorem dX0_findBestGift_47 : decode cX0_findBestGift 47 = .ok (.bipush 20, 2) := by decide +kernel
theorem dX0_findBestGift_49 : decode cX0_findBestGift 49 = .ok (.if_icmp .gt 105, 3) := by decide +kernel
theorem dX0_findBestGift_52 : decode cX0_findBestGift 52 = .ok (.iload 6, 2) := by decide +kernel
theorem dX0_findBestGift_54 : decode cX0_findBestGift 54 = .ok (.iload 4, 2) := by decide +kernel
theorem dX0_findBestGift_56 : decode cX0_findBestGift 56 = .ok (.imul, 1) := by decide +kernel
theorem dX0_findBestGift_57 : decode cX0_findBestGift 57 = .ok (.aload_n 2, 1) := by decide +kernel
theorem dX0_findBestGift_58 : decode cX0_findBestGift 58 = .ok (.iload_n 3, 1) := by decide +kernel
theorem dX0_findBestGift_59 : decode cX0_findBestGift 59 = .ok (.invokevirtual 66, 3) := by decide +kernel
theorem dX0_findBestGift_62 : decode cX0_findBestGift 62 = .ok (.if_icmp .gt 92, 3) := by decide +kernel
theorem dX0_findBestGift_65 : decode cX0_findBestGift 65 = .ok (.iconst 0, 1) := by decide +kernel
theorem dX0_findBestGift_66 : decode cX0_findBestGift 66 = .ok (.istore 7, 2) := by decide +kernel
theorem dX0_findBestGift_68 : decode cX0_findBestGift 68 = .ok (.iload 7, 2) := by decide +kernel
theorem dX0_findBestGift_70 : decode cX0_findBestGift 70 = .ok (.aload_n 2, 1) := by decide +kernel
theorem dX0_findBestGift_71 : decode cX0_findBestGift 71 = .ok (.getfield 22, 3) := by decide +kernel
theorem dX0_findBestGift_74 : decode cX0_findBestGift 74 = .ok (.if_icmp .ge 74, 3) := by decide +kernel
theorem dX0_findBestGift_77 : decode cX0_findBestGift 77 = .ok (.iload 7, 2) := by decide +kernel
theorem dX0_findBestGift_79 : decode cX0_findBestGift 79 = .ok (.iload_n 3, 1) := by decide +kernel
theorem dX0_findBestGift_80 : decode cX0_findBestGift 80 = .ok (.if_icmp .ne 6, 3) := by decide +kernel
theorem dX0_findBestGift_83 : decode cX0_findBestGift 83 = .ok (.goto 59, 3) := by decide +kernel
theorem dX0_findBestGift_86 : decode cX0_findBestGift 86 = .ok (.aload_n 0, 1) := by decide +kernel
theorem dX0_findBestGift_87 : decode cX0_findBestGift 87 = .ok (.getfield 12, 3) := by decide +kernel
theorem dX0_findBestGift_90 : decode cX0_findBestGift 90 = .ok (.aload_n 2, 1) := by decide +kernel
theorem dX0_findBestGift_91 : decode cX0_findBestGift 91 = .ok (.invokevirtual 25, 3) := by decide +kernel
theorem dX0_findBestGift_94 : decode cX0_findBestGift 94 = .ok (.aload_n 0, 1) := by decide +kernel
theorem dX0_findBestGift_95 : decode cX0_findBestGift 95 = .ok (.getfield 12, 3) := by decide +kernel
theorem dX0_findBestGift_98 : decode cX0_findBestGift 98 = .ok (.iload_n 3, 1) := by decide +kernel
theorem dX0_findBestGift_99 : decode cX0_findBestGift 99 = .ok (.iload 7, 2) := by decide +kernel
theorem dX0_findBestGift_101 : decode cX0_findBestGift 101 = .ok (.iload 6, 2) := by decide +kernel
theorem dX0_findBestGift_103 : decode cX0_findBestGift 103 = .ok (.iload 4, 2) := by decide +kernel
theorem dX0_findBestGift_105 : decode cX0_findBestGift 105 = .ok (.imul, 1) := by decide +kernel
theorem dX0_findBestGift_106 : decode cX0_findBestGift 106 = .ok (.invokevirtual 79, 3) := by decide +kernel
theorem dX0_findBestGift_109 : decode cX0_findBestGift 109 = .ok (.aload_n 1, 1) := by decide +kernel
theorem dX0_findBestGift_110 : decode cX0_findBestGift 110 = .ok (.aload_n 0, 1) := by decide +kernel
theorem dX0_findBestGift_111 : decode cX0_findBestGift 111 = .ok (.getfield 12, 3) := by decide +kernel
theorem dX0_findBestGift_114 : decode cX0_findBestGift 114 = .ok (.iload 5, 2) := by decide +kernel
theorem dX0_findBestGift_116 : decode cX0_findBestGift 116 = .ok (.aload_n 1, 1) := by decide +kernel
theorem dX0_findBestGift_117 : decode cX0_findBestGift 117 = .ok (.getfield 49, 3) := by decide +kernel
theorem dX0_findBestGift_120 : decode cX0_findBestGift 120 = .ok (.invokevirtual 82, 3) := by decide +kernel
theorem dX0_findBestGift_123 : decode cX0_findBestGift 123 = .ok (.aload_n 0, 1) := by decide +kernel
theorem dX0_findBestGift_124 : decode cX0_findBestGift 124 = .ok (.aload_n 0, 1) := by decide +kernel
theorem dX0_findBestGift_125 : decode cX0_findBestGift 125 = .ok (.getfield 12, 3) := by decide +kernel
theorem dX0_findBestGift_128 : decode cX0_findBestGift 128 = .ok (.iload_n 3, 1) := by decide +kernel
theorem dX0_findBestGift_129 : decode cX0_findBestGift 129 = .ok (.invokevirtual 35, 3) := by decide +kernel
theorem dX0_findBestGift_132 : decode cX0_findBestGift 132 = .ok (.iload 6, 2) := by decide +kernel
theorem dX0_findBestGift_134 : decode cX0_findBestGift 134 = .ok (.iload 4, 2) := by decide +kernel
theorem dX0_findBestGift_136 : decode cX0_findBestGift 136 = .ok (.imul, 1) := by decide +kernel
theorem dX0_findBestGift_137 : decode cX0_findBestGift 137 = .ok (.iload 7, 2) := by decide +kernel
theorem dX0_findBestGift_139 : decode cX0_findBestGift 139 = .ok (.invokevirtual 39, 3) := by decide +kernel
theorem dX0_findBestGift_142 : decode cX0_findBestGift 142 = .ok (.iinc 7 1, 3) := by decide +kernel
theorem dX0_findBestGift_145 : decode cX0_findBestGift 145 = .ok (.goto (-77), 3) := by decide +kernel
theorem dX0_findBestGift_148 : decode cX0_findBestGift 148 = .ok (.iinc 6 1, 3) := by decide +kernel
theorem dX0_findBestGift_151 : decode cX0_findBestGift 151 = .ok (.goto (-106), 3) := by decide +kernel
theorem dX0_findBestGift_154 : decode cX0_findBestGift 154 = .ok (.return_, 1) := by decide +kernel
theorem dX0_rate_0 : decode cX0_rate 0 = .ok (.aload_n 0, 1) := by decide +kernel
theorem dX0_rate_1 : decode cX0_rate 1 = .ok (.getfield 12, 3) := by decide +kernel
theorem dX0_rate_4 : decode cX0_rate 4 = .ok (.aload_n 2, 1) := by decide +kernel
theorem dX0_rate_5 : decode cX0_rate 5 = .ok (.invokevirtual 25, 3) := by decide +kernel
theorem dX0_rate_8 : decode cX0_rate 8 = .ok (.aload_n 1, 1) := by decide +kernel
theorem dX0_rate_9 : decode cX0_rate 9 = .ok (.aload_n 0, 1) := by decide +kernel
theorem dX0_rate_10 : decode cX0_rate 10 = .ok (.getfield 12, 3) := by decide +kernel
theorem dX0_rate_13 : decode cX0_rate 13 = .ok (.aload_n 1, 1) := by decide +kernel
theorem dX0_rate_14 : decode cX0_rate 14 = .ok (.getfield 49, 3) := by decide +kernel
theorem dX0_rate_17 : decode cX0_rate 17 = .ok (.invokevirtual 52, 3) := by decide +kernel
theorem dX0_rate_20 : decode cX0_rate 20 = .ok (.iload 6, 2) := by decide +kernel
theorem dX0_rate_22 : decode cX0_rate 22 = .ok (.ifCond .eq 15, 3) := by decide +kernel
theorem dX0_rate_25 : decode cX0_rate 25 = .ok (.aload_n 0, 1) := by decide +kernel
theorem dX0_rate_26 : decode cX0_rate 26 = .ok (.getfield 12, 3) := by decide +kernel
theorem dX0_rate_29 : decode cX0_rate 29 = .ok (.iload 4, 2) := by decide +kernel
theorem dX0_rate_31 : decode cX0_rate 31 = .ok (.invokevirtual 35, 3) := by decide +kernel
theorem dX0_rate_34 : decode cX0_rate 34 = .ok (.goto 11, 3) := by decide +kernel
theorem dX0_rate_37 : decode cX0_rate 37 = .ok (.aload_n 0, 1) := by decide +kernel
theorem dX0_rate_38 : decode cX0_rate 38 = .ok (.getfield 12, 3) := by decide +kernel
theorem dX0_rate_41 : decode cX0_rate 41 = .ok (.iload_n 3, 1) := by decide +kernel
theorem dX0_rate_42 : decode cX0_rate 42 = .ok (.invokevirtual 35, 3) := by decide +kernel
theorem dX0_rate_45 : decode cX0_rate 45 = .ok (.istore 7, 2) := by decide +kernel
theorem dX0_rate_47 : decode cX0_rate 47 = .ok (.aload_n 0, 1) := by decide +kernel
theorem dX0_rate_48 : decode cX0_rate 48 = .ok (.getfield 12, 3) := by decide +kernel
theorem dX0_rate_51 : decode cX0_rate 51 = .ok (.aload_n 2, 1) := by decide +kernel
theorem dX0_rate_52 : decode cX0_rate 52 = .ok (.invokevirtual 25, 3) := by decide +kernel
theorem dX0_rate_55 : decode cX0_rate 55 = .ok (.aload_n 0, 1) := by decide +kernel
theorem dX0_rate_56 : decode cX0_rate 56 = .ok (.getfield 12, 3) := by decide +kernel
theorem dX0_rate_59 : decode cX0_rate 59 = .ok (.iload_n 3, 1) := by decide +kernel
theorem dX0_rate_60 : decode cX0_rate 60 = .ok (.iload 4, 2) := by decide +kernel
theorem dX0_rate_62 : decode cX0_rate 62 = .ok (.iload 5, 2) := by decide +kernel
theorem dX0_rate_64 : decode cX0_rate 64 = .ok (.invokevirtual 79, 3) := by decide +kernel
theorem dX0_rate_67 : decode cX0_rate 67 = .ok (.aload_n 1, 1) := by decide +kernel
theorem dX0_rate_68 : decode cX0_rate 68 = .ok (.aload_n 0, 1) := by decide +kernel
theorem dX0_rate_69 : decode cX0_rate 69 = .ok (.getfield 12, 3) := by decide +kernel
theorem dX0_rate_72 : decode cX0_rate 72 = .ok (.aload_n 1, 1) := by decide +kernel
theorem dX0_rate_73 : decode cX0_rate 73 = .ok (.getfield 49, 3) := by decide +kernel
theorem dX0_rate_76 : decode cX0_rate 76 = .ok (.invokevirtual 52, 3) := by decide +kernel
theorem dX0_rate_79 : decode cX0_rate 79 = .ok (.aload_n 0, 1) := by decide +kernel
theorem dX0_rate_80 : decode cX0_rate 80 = .ok (.getfield 12, 3) := by decide +kernel
theorem dX0_rate_83 : decode cX0_rate 83 = .ok (.iload 4, 2) := by decide +kernel
theorem dX0_rate_85 : decode cX0_rate 85 = .ok (.iload_n 3, 1) := by decide +kernel
theorem dX0_rate_86 : decode cX0_rate 86 = .ok (.iload 5, 2) := by decide +kernel
theorem dX0_rate_88 : decode cX0_rate 88 = .ok (.aload_n 0, 1) := by decide +kernel
theorem dX0_rate_89 : decode cX0_rate 89 = .ok (.getfield 12, 3) := by decide +kernel
theorem dX0_rate_92 : decode cX0_rate 92 = .ok (.iload 4, 2) := by decide +kernel
theorem dX0_rate_94 : decode cX0_rate 94 = .ok (.invokevirtual 66, 3) := by decide +kernel
theorem dX0_rate_97 : decode cX0_rate 97 = .ok (.invokestatic 69, 3) := by decide +kernel
theorem dX0_rate_100 : decode cX0_rate 100 = .ok (.invokevirtual 79, 3) := by decide +kernel
theorem dX0_rate_103 : decode cX0_rate 103 = .ok (.iload 6, 2) := by decide +kernel
theorem dX0_rate_105 : decode cX0_rate 105 = .ok (.ifCond .eq 18, 3) := by decide +kernel
theorem dX0_rate_108 : decode cX0_rate 108 = .ok (.aload_n 0, 1) := by decide +kernel
theorem dX0_rate_109 : decode cX0_rate 109 = .ok (.getfield 12, 3) := by decide +kernel
theorem dX0_rate_112 : decode cX0_rate 112 = .ok (.iload 4, 2) := by decide +kernel
theorem dX0_rate_114 : decode cX0_rate 114 = .ok (.invokevirtual 35, 3) := by decide +kernel
theorem dX0_rate_117 : decode cX0_rate 117 = .ok (.iload 7, 2) := by decide +kernel
theorem dX0_rate_119 : decode cX0_rate 119 = .ok (.isub, 1) := by decide +kernel
theorem dX0_rate_120 : decode cX0_rate 120 = .ok (.goto 14, 3) := by decide +kernel
theorem dX0_rate_123 : decode cX0_rate 123 = .ok (.iload 7, 2) := by decide +kernel
theorem dX0_rate_125 : decode cX0_rate 125 = .ok (.aload_n 0, 1) := by decide +kernel
theorem dX0_rate_126 : decode cX0_rate 126 = .ok (.getfield 12, 3) := by decide +kernel
theorem dX0_rate_129 : decode cX0_rate 129 = .ok (.iload_n 3, 1) := by decide +kernel
theorem dX0_rate_130 : decode cX0_rate 130 = .ok (.invokevirtual 35, 3) := by decide +kernel
theorem dX0_rate_133 : decode cX0_rate 133 = .ok (.isub, 1) := by decide +kernel
theorem dX0_rate_134 : decode cX0_rate 134 = .ok (.ireturn, 1) := by decide +kernel
theorem dX0_bestSite_0 : decode cX0_bestSite 0 = .ok (.iconst 0, 1) := by decide +kernel
theorem dX0_bestSite_1 : decode cX0_bestSite 1 = .ok (.istore 4, 2) := by decide +kernel
theorem dX0_bestSite_3 : decode cX0_bestSite 3 = .ok (.ldc2_w 88, 3) := by decide +kernel
theorem dX0_bestSite_6 : decode cX0_bestSite 6 = .ok (.lstore 5, 2) := by decide +kernel
theorem dX0_bestSite_8 : decode cX0_bestSite 8 = .ok (.iconst 0, 1) := by decide +kernel
theorem dX0_bestSite_9 : decode cX0_bestSite 9 = .ok (.istore 7, 2) := by decide +kernel
theorem dX0_bestSite_11 : decode cX0_bestSite 11 = .ok (.iload 7, 2) := by decide +kernel
theorem dX0_bestSite_13 : decode cX0_bestSite 13 = .ok (.aload_n 2, 1) := by decide +kernel
theorem dX0_bestSite_14 : decode cX0_bestSite 14 = .ok (.getfield 22, 3) := by decide +kernel
theorem dX0_bestSite_17 : decode cX0_bestSite 17 = .ok (.if_icmp .gt 83, 3) := by decide +kernel
theorem dX0_bestSite_20 : decode cX0_bestSite 20 = .ok (.aload_n 0, 1) := by decide +kernel
theorem dX0_bestSite_21 : decode cX0_bestSite 21 = .ok (.getfield 12, 3) := by decide +kernel
theorem dX0_bestSite_24 : decode cX0_bestSite 24 = .ok (.aload_n 2, 1) := by decide +kernel
theorem dX0_bestSite_25 : decode cX0_bestSite 25 = .ok (.invokevirtual 25, 3) := by decide +kernel
theorem dX0_bestSite_28 : decode cX0_bestSite 28 = .ok (.aload_n 0, 1) := by decide +kernel
theorem dX0_bestSite_29 : decode cX0_bestSite 29 = .ok (.getfield 12, 3) := by decide +kernel
theorem dX0_bestSite_32 : decode cX0_bestSite 32 = .ok (.iload 7, 2) := by decide +kernel
theorem dX0_bestSite_34 : decode cX0_bestSite 34 = .ok (.iload_n 3, 1) := by decide +kernel
theorem dX0_bestSite_35 : decode cX0_bestSite 35 = .ok (.invokevirtual 90, 3) := by decide +kernel
theorem dX0_bestSite_38 : decode cX0_bestSite 38 = .ok (.lconst 0, 1) := by decide +kernel
theorem dX0_bestSite_39 : decode cX0_bestSite 39 = .ok (.lstore 8, 2) := by decide +kernel
theorem dX0_bestSite_41 : decode cX0_bestSite 41 = .ok (.iconst 0, 1) := by decide +kernel
theorem dX0_bestSite_42 : decode cX0_bestSite 42 = .ok (.istore 10, 2) := by decide +kernel
theorem dX0_bestSite_44 : decode cX0_bestSite 44 = .ok (.iload 10, 2) := by decide +kernel
theorem dX0_bestSite_46 : decode cX0_bestSite 46 = .ok (.aload_n 0, 1) := by decide +kernel
theorem dX0_bestSite_47 : decode cX0_bestSite 47 = .ok (.getfield 12, 3) := by decide +kernel
theorem dX0_bestSite_50 : decode cX0_bestSite 50 = .ok (.getfield 22, 3) := by decide +kernel
theorem dX0_bestSite_53 : decode cX0_bestSite 53 = .ok (.if_icmp .ge 25, 3) := by decide +kernel
theorem dX0_bestSite_56 : decode cX0_bestSite 56 = .ok (.lload 8, 2) := by decide +kernel
theorem dX0_bestSite_58 : decode cX0_bestSite 58 = .ok (.aload_n 1, 1) := by decide +kernel
theorem dX0_bestSite_59 : decode cX0_bestSite 59 = .ok (.aload_n 0, 1) := by decide +kernel
theorem dX0_bestSite_60 : decode cX0_bestSite 60 = .ok (.getfield 12, 3) := by decide +kernel
theorem dX0_bestSite_63 : decode cX0_bestSite 63 = .ok (.iload 10, 2) := by decide +kernel
theorem dX0_bestSite_65 : decode cX0_bestSite 65 = .ok (.invokevirtual 62, 3) := by decide +kernel
theorem dX0_bestSite_68 : decode cX0_bestSite 68 = .ok (.i2l, 1) := by decide +kernel
theorem dX0_bestSite_69 : decode cX0_bestSite 69 = .ok (.ladd, 1) := by decide +kernel
theorem dX0_bestSite_70 : decode cX0_bestSite 70 = .ok (.lstore 8, 2) := by decide +kernel
theorem dX0_bestSite_72 : decode cX0_bestSite 72 = .ok (.iinc 10 1, 3) := by decide +kernel
theorem dX0_bestSite_75 : decode cX0_bestSite 75 = .ok (.goto (-31), 3) := by decide +kernel
theorem dX0_bestSite_78 : decode cX0_bestSite 78 = .ok (.lload 8, 2) := by decide +kernel
theorem dX0_bestSite_80 : decode cX0_bestSite 80 = .ok (.lload 5, 2) := by decide +kernel
theorem dX0_bestSite_82 : decode cX0_bestSite 82 = .ok (.lcmp, 1) := by decide +kernel
theorem dX0_bestSite_83 : decode cX0_bestSite 83 = .ok (.ifCond .ge 11, 3) := by decide +kernel
theorem dX0_bestSite_86 : decode cX0_bestSite 86 = .ok (.lload 8, 2) := by decide +kernel
theorem dX0_bestSite_88 : decode cX0_bestSite 88 = .ok (.lstore 5, 2) := by decide +kernel
theorem dX0_bestSite_90 : decode cX0_bestSite 90 = .ok (.iload 7, 2) := by decide +kernel
theorem dX0_bestSite_92 : decode cX0_bestSite 92 = .ok (.istore 4, 2) := by decide +kernel
theorem dX0_bestSite_94 : decode cX0_bestSite 94 = .ok (.iinc 7 1, 3) := by decide +kernel
theorem dX0_bestSite_97 : decode cX0_bestSite 97 = .ok (.goto (-86), 3) := by decide +kernel
theorem dX0_bestSite_100 : decode cX0_bestSite 100 = .ok (.iload 4, 2) := by decide +kernel
theorem dX0_bestSite_102 : decode cX0_bestSite 102 = .ok (.ireturn, 1) := by decide +kernel
theorem dX1_init_0 : decode cX1_init 0 = .ok (.aload_n 0, 1) := by decide +kernel
theorem dX1_init_1 : decode cX1_init 1 = .ok (.invokespecial 3, 3) := by decide +kernel
theorem dX1_init_4 : decode cX1_init 4 = .ok (.aload_n 0, 1) := by decide +kernel
theorem dX1_init_5 : decode cX1_init 5 = .ok (.new 9, 3) := by decide +kernel
theorem dX1_init_8 : decode cX1_init 8 = .ok (.dup, 1) := by decide +kernel
theorem dX1_init_9 : decode cX1_init 9 = .ok (.invokespecial 11, 3) := by decide +kernel
theorem dX1_init_12 : decode cX1_init 12 = .ok (.putfield 12, 3) := by decide +kernel
theorem dX1_init_15 : decode cX1_init 15 = .ok (.aload_n 0, 1) := by decide +kernel
theorem dX1_init_16 : decode cX1_init 16 = .ok (.sipush 3311, 3) := by decide +kernel
theorem dX1_init_19 : decode cX1_init 19 = .ok (.newarray .int, 2) := by decide +kernel
theorem dX1_init_21 : decode cX1_init 21 = .ok (.putfield 18, 3) := by decide +kernel
theorem dX1_init_24 : decode cX1_init 24 = .ok (.return_, 1) := by decide +kernel
theorem dX1_period_0 : decode cX1_period 0 = .ok (.aload_n 0, 1) := by decide +kernel
theorem dX1_period_1 : decode cX1_period 1 = .ok (.aload_n 1, 1) := by decide +kernel
theorem dX1_period_2 : decode cX1_period 2 = .ok (.aload_n 2, 1) := by decide +kernel
theorem dX1_period_3 : decode cX1_period 3 = .ok (.invokevirtual 22, 3) := by decide +kernel
theorem dX1_period_6 : decode cX1_period 6 = .ok (.iconst 1, 1) := by decide +kernel
theorem dX1_period_7 : decode cX1_period 7 = .ok (.istore 4, 2) := by decide +kernel
theorem dX1_period_9 : decode cX1_period 9 = .ok (.iload 4, 2) := by decide +kernel
theorem dX1_period_11 : decode cX1_period 11 = .ok (.sipush 300, 3) := by decide +kernel
theorem dX1_period_14 : decode cX1_period 14 = .ok (.if_icmp .gt 55, 3) := by decide +kernel
theorem dX1_period_17 : decode cX1_period 17 = .ok (.iconst 0, 1) := by decide +kernel
theorem dX1_period_18 : decode cX1_period 18 = .ok (.istore 5, 2) := by decide +kernel
theorem dX1_period_20 : decode cX1_period 20 = .ok (.iload 5, 2) := by decide +kernel
theorem dX1_period_22 : decode cX1_period 22 = .ok (.iload 4, 2) := by decide +kernel
theorem dX1_period_24 : decode cX1_period 24 = .ok (.iadd, 1) := by decide +kernel
theorem dX1_period_25 : decode cX1_period 25 = .ok (.sipush 300, 3) := by decide +kernel
theorem dX1_period_28 : decode cX1_period 28 = .ok (.if_icmp .gt 35, 3) := by decide +kernel
theorem dX1_period_31 : decode cX1_period 31 = .ok (.aload_n 0, 1) := by decide +kernel
theorem dX1_period_32 : decode cX1_period 32 = .ok (.iload 5, 2) := by decide +kernel
theorem dX1_period_34 : decode cX1_period 34 = .ok (.iload 5, 2) := by decide +kernel
theorem dX1_period_36 : decode cX1_period 36 = .ok (.iload 4, 2) := by decide +kernel
theorem dX1_period_38 : decode cX1_period 38 = .ok (.iadd, 1) := by decide +kernel
theorem dX1_period_39 : decode cX1_period 39 = .ok (.invokevirtual 26, 3) := by decide +kernel
theorem dX1_period_42 : decode cX1_period 42 = .ok (.ifCond .eq 15, 3) := by decide +kernel
theorem dX1_period_45 : decode cX1_period 45 = .ok (.iload_n 3, 1) := by decide +kernel
theorem dX1_period_46 : decode cX1_period 46 = .ok (.ifCond .eq 8, 3) := by decide +kernel
theorem dX1_period_49 : decode cX1_period 49 = .ok (.iload 4, 2) := by decide +kernel
theorem dX1_period_51 : decode cX1_period 51 = .ok (.goto 5, 3) := by decide +kernel
theorem dX1_period_54 : decode cX1_period 54 = .ok (.iload 5, 2) := by decide +kernel
theorem dX1_period_56 : decode cX1_period 56 = .ok (.ireturn, 1) := by decide +kernel
theorem dX1_period_57 : decode cX1_period 57 = .ok (.iinc 5 1, 3) := by decide +kernel
theorem dX1_period_60 : decode cX1_period 60 = .ok (.goto (-40), 3) := by decide +kernel
theorem dX1_period_63 : decode cX1_period 63 = .ok (.iinc 4 1, 3) := by decide +kernel
theorem dX1_period_66 : decode cX1_period 66 = .ok (.goto (-57), 3) := by decide +kernel
theorem dX1_period_69 : decode cX1_period 69 = .ok (.bipush (-2), 2) := by decide +kernel
theorem dX1_period_71 : decode cX1_period 71 = .ok (.ireturn, 1) := by decide +kernel
theorem dX1_walk_0 : decode cX1_walk 0 = .ok (.aload_n 0, 1) := by decide +kernel
theorem dX1_walk_1 : decode cX1_walk 1 = .ok (.getfield 12, 3) := by decide +kernel
theorem dX1_walk_4 : decode cX1_walk 4 = .ok (.aload_n 2, 1) := by decide +kernel
theorem dX1_walk_5 : decode cX1_walk 5 = .ok (.invokevirtual 30, 3) := by decide +kernel
theorem dX1_walk_8 : decode cX1_walk 8 = .ok (.iconst 0, 1) := by decide +kernel
theorem dX1_walk_9 : decode cX1_walk 9 = .ok (.istore_n 3, 1) := by decide +kernel
theorem dX1_walk_10 : decode cX1_walk 10 = .ok (.iload_n 3, 1) := by decide +kernel
theorem dX1_walk_11 : decode cX1_walk 11 = .ok (.sipush 300, 3) := by decide +kernel
theorem dX1_walk_14 : decode cX1_walk 14 = .ok (.if_icmp .gt 91, 3) := by decide +kernel
theorem dX1_walk_17 : decode cX1_walk 17 = .ok (.iload_n 3, 1) := by decide +kernel
theorem dX1_walk_18 : decode cX1_walk 18 = .ok (.bipush 11, 2) := by decide +kernel
theorem dX1_walk_20 : decode cX1_walk 20 = .ok (.imul, 1) := by decide +kernel
theorem dX1_walk_21 : decode cX1_walk 21 = .ok (.istore 4, 2) := by decide +kernel
theorem dX1_walk_23 : decode cX1_walk 23 = .ok (.aload_n 0, 1) := by decide +kernel
theorem dX1_walk_24 : decode cX1_walk 24 = .ok (.getfield 18, 3) := by decide +kernel
theorem dX1_walk_27 : decode cX1_walk 27 = .ok (.iload 4, 2) := by decide +kernel
theorem dX1_walk_29 : decode cX1_walk 29 = .ok (.aload_n 0, 1) := by decide +kernel
theorem dX1_walk_30 : decode cX1_walk 30 = .ok (.getfield 12, 3) := by decide +kernel
theorem dX1_walk_33 : decode cX1_walk 33 = .ok (.getfield 34, 3) := by decide +kernel
theorem dX1_walk_36 : decode cX1_walk 36 = .ok (.iastore, 1) := by decide +kernel
theorem dX1_walk_37 : decode cX1_walk 37 = .ok (.iconst 0, 1) := by decide +kernel
theorem dX1_walk_38 : decode cX1_walk 38 = .ok (.istore 5, 2) := by decide +kernel
theorem dX1_walk_40 : decode cX1_walk 40 = .ok (.iload 5, 2) := by decide +kernel
theorem dX1_walk_42 : decode cX1_walk 42 = .ok (.bipush 10, 2) := by decide +kernel
theorem dX1_walk_44 : decode cX1_walk 44 = .ok (.if_icmp .ge 43, 3) := by decide +kernel
theorem dX1_walk_47 : decode cX1_walk 47 = .ok (.aload_n 0, 1) := by decide +kernel
theorem dX1_walk_48 : decode cX1_walk 48 = .ok (.getfield 12, 3) := by decide +kernel
theorem dX1_walk_51 : decode cX1_walk 51 = .ok (.iload 5, 2) := by decide +kernel
theorem dX1_walk_53 : decode cX1_walk 53 = .ok (.invokevirtual 38, 3) := by decide +kernel
theorem dX1_walk_56 : decode cX1_walk 56 = .ok (.ifCond .eq 31, 3) := by decide +kernel
theorem dX1_walk_59 : decode cX1_walk 59 = .ok (.aload_n 0, 1) := by decide +kernel
theorem dX1_walk_60 : decode cX1_walk 60 = .ok (.getfield 18, 3) := by decide +kernel
theorem dX1_walk_63 : decode cX1_walk 63 = .ok (.iload 4, 2) := by decide +kernel
theorem dX1_walk_65 : decode cX1_walk 65 = .ok (.iconst 1, 1) := by decide +kernel
theorem dX1_walk_66 : decode cX1_walk 66 = .ok (.iadd, 1) := by decide +kernel
theorem dX1_walk_67 : decode cX1_walk 67 = .ok (.iload 5, 2) := by decide +kernel
theorem dX1_walk_69 : decode cX1_walk 69 = .ok (.iadd, 1) := by decide +kernel
theorem dX1_walk_70 : decode cX1_walk 70 = .ok (.aload_n 0, 1) := by decide +kernel
theorem dX1_walk_71 : decode cX1_walk 71 = .ok (.getfield 12, 3) := by decide +kernel
theorem dX1_walk_74 : decode cX1_walk 74 = .ok (.getfield 42, 3) := by decide +kernel
theorem dX1_walk_77 : decode cX1_walk 77 = .ok (.iload 5, 2) := by decide +kernel
theorem dX1_walk_79 : decode cX1_walk 79 = .ok (.iaload, 1) := by decide +kernel
theorem dX1_walk_80 : decode cX1_walk 80 = .ok (.iastore, 1) := by decide +kernel
theorem dX1_walk_81 : decode cX1_walk 81 = .ok (.iinc 5 1, 3) := by decide +kernel
theorem dX1_walk_84 : decode cX1_walk 84 = .ok (.goto (-44), 3) := by decide +kernel
theorem dX1_walk_87 : decode cX1_walk 87 = .ok (.aload_n 1, 1) := by decide +kernel
theorem dX1_walk_88 : decode cX1_walk 88 = .ok (.aload_n 0, 1) := by decide +kernel
theorem dX1_walk_89 : decode cX1_walk 89 = .ok (.getfield 12, 3) := by decide +kernel
theorem dX1_walk_92 : decode cX1_walk 92 = .ok (.aload_n 1, 1) := by decide +kernel
theorem dX1_walk_93 : decode cX1_walk 93 = .ok (.getfield 45, 3) := by decide +kernel
theorem dX1_walk_96 : decode cX1_walk 96 = .ok (.invokevirtual 50, 3) := by decide +kernel
theorem dX1_walk_99 : decode cX1_walk 99 = .ok (.iinc 3 1, 3) := by decide +kernel
theorem dX1_walk_102 : decode cX1_walk 102 = .ok (.goto (-92), 3) := by decide +kernel
theorem dX1_walk_105 : decode cX1_walk 105 = .ok (.return_, 1) := by decide +kernel
theorem dX1_isSame_0 : decode cX1_isSame 0 = .ok (.iload_n 1, 1) := by decide +kernel
theorem dX1_isSame_1 : decode cX1_isSame 1 = .ok (.bipush 11, 2) := by decide +kernel
theorem dX1_isSame_3 : decode cX1_isSame 3 = .ok (.imul, 1) := by decide +kernel
theorem dX1_isSame_4 : decode cX1_isSame 4 = .ok (.istore_n 3, 1) := by decide +kernel
theorem dX1_isSame_5 : decode cX1_isSame 5 = .ok (.iload_n 2, 1) := by decide +kernel
theorem dX1_isSame_6 : decode cX1_isSame 6 = .ok (.bipush 11, 2) := by decide +kernel
theorem dX1_isSame_8 : decode cX1_isSame 8 = .ok (.imul, 1) := by decide +kernel
theorem dX1_isSame_9 : decode cX1_isSame 9 = .ok (.istore 4, 2) := by decide +kernel
theorem dX1_isSame_11 : decode cX1_isSame 11 = .ok (.iconst 0, 1) := by decide +kernel
theorem dX1_isSame_12 : decode cX1_isSame 12 = .ok (.istore 5, 2) := by decide +kernel
theorem dX1_isSame_14 : decode cX1_isSame 14 = .ok (.iload 5, 2) := by decide +kernel
theorem dX1_isSame_16 : decode cX1_isSame 16 = .ok (.aload_n 0, 1) := by decide +kernel
theorem dX1_isSame_17 : decode cX1_isSame 17 = .ok (.getfield 12, 3) := by decide +kernel
theorem dX1_isSame_20 : decode cX1_isSame 20 = .ok (.getfield 54, 3) := by decide +kernel
theorem dX1_isSame_23 : decode cX1_isSame 23 = .ok (.if_icmp .gt 40, 3) := by decide +kernel
theorem dX1_isSame_26 : decode cX1_isSame 26 = .ok (.iload 5, 2) := by decide +kernel
theorem dX1_isSame_28 : decode cX1_isSame 28 = .ok (.bipush 11, 2) := by decide +kernel
theorem dX1_isSame_30 : decode cX1_isSame 30 = .ok (.if_icmp .ge 33, 3) := by decide +kernel
theorem dX1_isSame_33 : decode cX1_isSame 33 = .ok (.aload_n 0, 1) := by decide +kernel
theorem dX1_isSame_34 : decode cX1_isSame 34 = .ok (.getfield 18, 3) := by decide +kernel
theorem dX1_isSame_37 : decode cX1_isSame 37 = .ok (.iload_n 3, 1) := by decide +kernel
theorem dX1_isSame_38 : decode cX1_isSame 38 = .ok (.iload 5, 2) := by decide +kernel
theorem dX1_isSame_40 : decode cX1_isSame 40 = .ok (.iadd, 1) := by decide +kernel
theorem dX1_isSame_41 : decode cX1_isSame 41 = .ok (.iaload, 1) := by decide +kernel
theorem dX1_isSame_42 : decode cX1_isSame 42 = .ok (.aload_n 0, 1) := by decide +kernel
theorem dX1_isSame_43 : decode cX1_isSame 43 = .ok (.getfield 18, 3) := by decide +kernel
theorem dX1_isSame_46 : decode cX1_isSame 46 = .ok (.iload 4, 2) := by decide +kernel
theorem dX1_isSame_48 : decode cX1_isSame 48 = .ok (.iload 5, 2) := by decide +kernel
theorem dX1_isSame_50 : decode cX1_isSame 50 = .ok (.iadd, 1) := by decide +kernel
theorem dX1_isSame_51 : decode cX1_isSame 51 = .ok (.iaload, 1) := by decide +kernel
theorem dX1_isSame_52 : decode cX1_isSame 52 = .ok (.if_icmp .eq 5, 3) := by decide +kernel
theorem dX1_isSame_55 : decode cX1_isSame 55 = .ok (.iconst 0, 1) := by decide +kernel
theorem dX1_isSame_56 : decode cX1_isSame 56 = .ok (.ireturn, 1) := by decide +kernel
theorem dX1_isSame_57 : decode cX1_isSame 57 = .ok (.iinc 5 1, 3) := by decide +kernel
theorem dX1_isSame_60 : decode cX1_isSame 60 = .ok (.goto (-46), 3) := by decide +kernel
theorem dX1_isSame_63 : decode cX1_isSame 63 = .ok (.iconst 1, 1) := by decide +kernel
theorem dX1_isSame_64 : decode cX1_isSame 64 = .ok (.ireturn, 1) := by decide +kernel
theorem dX1_spreadAfter_0 : decode cX1_spreadAfter 0 = .ok (.aload_n 0, 1) := by decide +kernel
theorem dX1_spreadAfter_1 : decode cX1_spreadAfter 1 = .ok (.getfield 12, 3) := by decide +kernel
theorem dX1_spreadAfter_4 : decode cX1_spreadAfter 4 = .ok (.aload_n 2, 1) := by decide +kernel
theorem dX1_spreadAfter_5 : decode cX1_spreadAfter 5 = .ok (.invokevirtual 30, 3) := by decide +kernel
theorem dX1_spreadAfter_8 : decode cX1_spreadAfter 8 = .ok (.aload_n 1, 1) := by decide +kernel
theorem dX1_spreadAfter_9 : decode cX1_spreadAfter 9 = .ok (.aload_n 0, 1) := by decide +kernel
theorem dX1_spreadAfter_10 : decode cX1_spreadAfter 10 = .ok (.getfield 12, 3) := by decide +kernel
theorem dX1_spreadAfter_13 : decode cX1_spreadAfter 13 = .ok (.iload_n 3, 1) := by decide +kernel
theorem dX1_spreadAfter_14 : decode cX1_spreadAfter 14 = .ok (.aload_n 1, 1) := by decide +kernel
theorem dX1_spreadAfter_15 : decode cX1_spreadAfter 15 = .ok (.getfield 45, 3) := by decide +kernel
theorem dX1_spreadAfter_18 : decode cX1_spreadAfter 18 = .ok (.invokevirtual 57, 3) := by decide +kernel
theorem dX1_spreadAfter_21 : decode cX1_spreadAfter 21 = .ok (.aload_n 0, 1) := by decide +kernel
theorem dX1_spreadAfter_22 : decode cX1_spreadAfter 22 = .ok (.getfield 12, 3) := by decide +kernel
theorem dX1_spreadAfter_25 : decode cX1_spreadAfter 25 = .ok (.invokevirtual 61, 3) := by decide +kernel
theorem dX1_spreadAfter_28 : decode cX1_spreadAfter 28 = .ok (.ireturn, 1) := by decide +kernel
theorem dX1_evenAfter_0 : decode cX1_evenAfter 0 = .ok (.aload_n 0, 1) := by decide +kernel
theorem dX1_evenAfter_1 : decode cX1_evenAfter 1 = .ok (.getfield 12, 3) := by decide +kernel
theorem dX1_evenAfter_4 : decode cX1_evenAfter 4 = .ok (.aload_n 2, 1) := by decide +kernel
theorem dX1_evenAfter_5 : decode cX1_evenAfter 5 = .ok (.invokevirtual 30, 3) := by decide +kernel
theorem dX1_evenAfter_8 : decode cX1_evenAfter 8 = .ok (.iconst 0, 1) := by decide +kernel
theorem dX1_evenAfter_9 : decode cX1_evenAfter 9 = .ok (.istore 5, 2) := by decide +kernel
theorem dX1_evenAfter_11 : decode cX1_evenAfter 11 = .ok (.iload 5, 2) := by decide +kernel
theorem dX1_evenAfter_13 : decode cX1_evenAfter 13 = .ok (.sipush 300, 3) := by decide +kernel
theorem dX1_evenAfter_16 : decode cX1_evenAfter 16 = .ok (.if_icmp .gt 33, 3) := by decide +kernel
theorem dX1_evenAfter_19 : decode cX1_evenAfter 19 = .ok (.aload_n 0, 1) := by decide +kernel
theorem dX1_evenAfter_20 : decode cX1_evenAfter 20 = .ok (.getfield 12, 3) := by decide +kernel
theorem dX1_evenAfter_23 : decode cX1_evenAfter 23 = .ok (.invokevirtual 61, 3) := by decide +kernel
theorem dX1_evenAfter_26 : decode cX1_evenAfter 26 = .ok (.iload_n 3, 1) := by decide +kernel
theorem dX1_evenAfter_27 : decode cX1_evenAfter 27 = .ok (.if_icmp .gt 6, 3) := by decide +kernel
theorem dX1_evenAfter_30 : decode cX1_evenAfter 30 = .ok (.iload 5, 2) := by decide +kernel
theorem dX1_evenAfter_32 : decode cX1_evenAfter 32 = .ok (.ireturn, 1) := by decide +kernel
theorem dX1_evenAfter_33 : decode cX1_evenAfter 33 = .ok (.aload_n 1, 1) := by decide +kernel
theorem dX1_evenAfter_34 : decode cX1_evenAfter 34 = .ok (.aload_n 0, 1) := by decide +kernel
theorem dX1_evenAfter_35 : decode cX1_evenAfter 35 = .ok (.getfield 12, 3) := by decide +kernel
theorem dX1_evenAfter_38 : decode cX1_evenAfter 38 = .ok (.iload 4, 2) := by decide +kernel
theorem dX1_evenAfter_40 : decode cX1_evenAfter 40 = .ok (.invokevirtual 50, 3) := by decide +kernel
theorem dX1_evenAfter_43 : decode cX1_evenAfter 43 = .ok (.iinc 5 1, 3) := by decide +kernel
theorem dX1_evenAfter_46 : decode cX1_evenAfter 46 = .ok (.goto (-35), 3) := by decide +kernel
theorem dX1_evenAfter_49 : decode cX1_evenAfter 49 = .ok (.bipush (-2), 2) := by decide +kernel
theorem dX1_evenAfter_51 : decode cX1_evenAfter 51 = .ok (.ireturn, 1) := by decide +kernel
theorem dX1_soonestSharing_0 : decode cX1_soonestSharing 0 = .ok (.bipush (-2), 2) := by decide +kernel
theorem dX1_soonestSharing_2 : decode cX1_soonestSharing 2 = .ok (.istore 4, 2) := by decide +kernel
theorem dX1_soonestSharing_4 : decode cX1_soonestSharing 4 = .ok (.sipush 301, 3) := by decide +kernel
theorem dX1_soonestSharing_7 : decode cX1_soonestSharing 7 = .ok (.istore 5, 2) := by decide +kernel
theorem dX1_soonestSharing_9 : decode cX1_soonestSharing 9 = .ok (.iconst 0, 1) := by decide +kernel
theorem dX1_soonestSharing_10 : decode cX1_soonestSharing 10 = .ok (.istore 6, 2) := by decide +kernel
theorem dX1_soonestSharing_12 : decode cX1_soonestSharing 12 = .ok (.iload 6, 2) := by decide +kernel
theorem dX1_soonestSharing_14 : decode cX1_soonestSharing 14 = .ok (.iconst 2, 1) := by decide +kernel
theorem dX1_soonestSharing_15 : decode cX1_soonestSharing 15 = .ok (.if_icmp .gt 40, 3) := by decide +kernel
theorem dX1_soonestSharing_18 : decode cX1_soonestSharing 18 = .ok (.aload_n 0, 1) := by decide +kernel
theorem dX1_soonestSharing_19 : decode cX1_soonestSharing 19 = .ok (.aload_n 1, 1) := by decide +kernel
theorem dX1_soonestSharing_20 : decode cX1_soonestSharing 20 = .ok (.aload_n 2, 1) := by decide +kernel
theorem dX1_soonestSharing_21 : decode cX1_soonestSharing 21 = .ok (.iload_n 3, 1) := by decide +kernel
theorem dX1_soonestSharing_22 : decode cX1_soonestSharing 22 = .ok (.iload 6, 2) := by decide +kernel
theorem dX1_soonestSharing_24 : decode cX1_soonestSharing 24 = .ok (.invokevirtual 65, 3) := by decide +kernel
theorem dX1_soonestSharing_27 : decode cX1_soonestSharing 27 = .ok (.istore 7, 2) := by decide +kernel
theorem dX1_soonestSharing_29 : decode cX1_soonestSharing 29 = .ok (.iload 7, 2) := by decide +kernel
theorem dX1_soonestSharing_31 : decode cX1_soonestSharing 31 = .ok (.ifCond .lt 18, 3) := by decide +kernel
theorem dX1_soonestSharing_34 : decode cX1_soonestSharing 34 = .ok (.iload 7, 2) := by decide +kernel
theorem dX1_soonestSharing_36 : decode cX1_soonestSharing 36 = .ok (.iload 5, 2) := by decide +kernel
theorem dX1_soonestSharing_38 : decode cX1_soonestSharing 38 = .ok (.if_icmp .ge 11, 3) := by decide +kernel
theorem dX1_soonestSharing_41 : decode cX1_soonestSharing 41 = .ok (.iload 7, 2) := by decide +kernel
theorem dX1_soonestSharing_43 : decode cX1_soonestSharing 43 = .ok (.istore 5, 2) := by decide +kernel
theorem dX1_soonestSharing_45 : decode cX1_soonestSharing 45 = .ok (.iload 6, 2) := by decide +kernel
theorem dX1_soonestSharing_47 : decode cX1_soonestSharing 47 = .ok (.istore 4, 2) := by decide +kernel
theorem dX1_soonestSharing_49 : decode cX1_soonestSharing 49 = .ok (.iinc 6 1, 3) := by decide +kernel
theorem dX1_soonestSharing_52 : decode cX1_soonestSharing 52 = .ok (.goto (-40), 3) := by decide +kernel
theorem dX1_soonestSharing_55 : decode cX1_soonestSharing 55 = .ok (.iload 4, 2) := by decide +kernel
theorem dX1_soonestSharing_57 : decode cX1_soonestSharing 57 = .ok (.ireturn, 1) := by decide +kernel
theorem dX2_init_0 : decode cX2_init 0 = .ok (.aload_n 0, 1) := by decide +kernel
theorem dX2_init_1 : decode cX2_init 1 = .ok (.invokespecial 3, 3) := by decide +kernel
theorem dX2_init_4 : decode cX2_init 4 = .ok (.aload_n 0, 1) := by decide +kernel
theorem dX2_init_5 : decode cX2_init 5 = .ok (.bipush 30, 2) := by decide +kernel
theorem dX2_init_7 : decode cX2_init 7 = .ok (.anewarray 9, 3) := by decide +kernel
theorem dX2_init_10 : decode cX2_init 10 = .ok (.putfield 11, 3) := by decide +kernel
theorem dX2_init_13 : decode cX2_init 13 = .ok (.aload_n 0, 1) := by decide +kernel
theorem dX2_init_14 : decode cX2_init 14 = .ok (.iconst 3, 1) := by decide +kernel
theorem dX2_init_15 : decode cX2_init 15 = .ok (.anewarray 9, 3) := by decide +kernel
theorem dX2_init_18 : decode cX2_init 18 = .ok (.putfield 17, 3) := by decide +kernel
theorem dX2_init_21 : decode cX2_init 21 = .ok (.aload_n 0, 1) := by decide +kernel
theorem dX2_init_22 : decode cX2_init 22 = .ok (.iconst 3, 1) := by decide +kernel
theorem dX2_init_23 : decode cX2_init 23 = .ok (.newarray .boolean, 2) := by decide +kernel
theorem dX2_init_25 : decode cX2_init 25 = .ok (.putfield 20, 3) := by decide +kernel
theorem dX2_init_28 : decode cX2_init 28 = .ok (.iconst 0, 1) := by decide +kernel
theorem dX2_init_29 : decode cX2_init 29 = .ok (.istore_n 1, 1) := by decide +kernel
theorem dX2_init_30 : decode cX2_init 30 = .ok (.iload_n 1, 1) := by decide +kernel
theorem dX2_init_31 : decode cX2_init 31 = .ok (.aload_n 0, 1) := by decide +kernel
theorem dX2_init_32 : decode cX2_init 32 = .ok (.getfield 11, 3) := by decide +kernel
theorem dX2_init_35 : decode cX2_init 35 = .ok (.arraylength, 1) := by decide +kernel
theorem dX2_init_36 : decode cX2_init 36 = .ok (.if_icmp .ge 22, 3) := by decide +kernel
theorem dX2_init_39 : decode cX2_init 39 = .ok (.aload_n 0, 1) := by decide +kernel
theorem dX2_init_40 : decode cX2_init 40 = .ok (.getfield 11, 3) := by decide +kernel
theorem dX2_init_43 : decode cX2_init 43 = .ok (.iload_n 1, 1) := by decide +kernel
theorem dX2_init_44 : decode cX2_init 44 = .ok (.new 9, 3) := by decide +kernel
theorem dX2_init_47 : decode cX2_init 47 = .ok (.dup, 1) := by decide +kernel
theorem dX2_init_48 : decode cX2_init 48 = .ok (.invokespecial 24, 3) := by decide +kernel
theorem dX2_init_51 : decode cX2_init 51 = .ok (.aastore, 1) := by decide +kernel
theorem dX2_init_52 : decode cX2_init 52 = .ok (.iinc 1 1, 3) := by decide +kernel
theorem dX2_init_55 : decode cX2_init 55 = .ok (.goto (-25), 3) := by decide +kernel
theorem dX2_init_58 : decode cX2_init 58 = .ok (.iconst 0, 1) := by decide +kernel
theorem dX2_init_59 : decode cX2_init 59 = .ok (.istore_n 1, 1) := by decide +kernel
theorem dX2_init_60 : decode cX2_init 60 = .ok (.iload_n 1, 1) := by decide +kernel
theorem dX2_init_61 : decode cX2_init 61 = .ok (.aload_n 0, 1) := by decide +kernel
theorem dX2_init_62 : decode cX2_init 62 = .ok (.getfield 17, 3) := by decide +kernel
theorem dX2_init_65 : decode cX2_init 65 = .ok (.arraylength, 1) := by decide +kernel
theorem dX2_init_66 : decode cX2_init 66 = .ok (.if_icmp .ge 22, 3) := by decide +kernel
theorem dX2_init_69 : decode cX2_init 69 = .ok (.aload_n 0, 1) := by decide +kernel
theorem dX2_init_70 : decode cX2_init 70 = .ok (.getfield 17, 3) := by decide +kernel
theorem dX2_init_73 : decode cX2_init 73 = .ok (.iload_n 1, 1) := by decide +kernel
theorem dX2_init_74 : decode cX2_init 74 = .ok (.new 9, 3) := by decide +kernel
theorem dX2_init_77 : decode cX2_init 77 = .ok (.dup, 1) := by decide +kernel
theorem dX2_init_78 : decode cX2_init 78 = .ok (.invokespecial 24, 3) := by decide +kernel
theorem dX2_init_81 : decode cX2_init 81 = .ok (.aastore, 1) := by decide +kernel
theorem dX2_init_82 : decode cX2_init 82 = .ok (.iinc 1 1, 3) := by decide +kernel
theorem dX2_init_85 : decode cX2_init 85 = .ok (.goto (-25), 3) := by decide +kernel
theorem dX2_init_88 : decode cX2_init 88 = .ok (.return_, 1) := by decide +kernel
theorem dX2_clear_0 : decode cX2_clear 0 = .ok (.aload_n 0, 1) := by decide +kernel
theorem dX2_clear_1 : decode cX2_clear 1 = .ok (.invokevirtual 25, 3) := by decide +kernel
theorem dX2_clear_4 : decode cX2_clear 4 = .ok (.iconst 0, 1) := by decide +kernel
theorem dX2_clear_5 : decode cX2_clear 5 = .ok (.istore_n 1, 1) := by decide +kernel
theorem dX2_clear_6 : decode cX2_clear 6 = .ok (.iload_n 1, 1) := by decide +kernel
theorem dX2_clear_7 : decode cX2_clear 7 = .ok (.aload_n 0, 1) := by decide +kernel
theorem dX2_clear_8 : decode cX2_clear 8 = .ok (.getfield 20, 3) := by decide +kernel
theorem dX2_clear_11 : decode cX2_clear 11 = .ok (.arraylength, 1) := by decide +kernel
theorem dX2_clear_12 : decode cX2_clear 12 = .ok (.if_icmp .ge 16, 3) := by decide +kernel
theorem dX2_clear_15 : decode cX2_clear 15 = .ok (.aload_n 0, 1) := by decide +kernel
theorem dX2_clear_16 : decode cX2_clear 16 = .ok (.getfield 20, 3) := by decide +kernel
theorem dX2_clear_19 : decode cX2_clear 19 = .ok (.iload_n 1, 1) := by decide +kernel
theorem dX2_clear_20 : decode cX2_clear 20 = .ok (.iconst 0, 1) := by decide +kernel
theorem dX2_clear_21 : decode cX2_clear 21 = .ok (.bastore, 1) := by decide +kernel
theorem dX2_clear_22 : decode cX2_clear 22 = .ok (.iinc 1 1, 3) := by decide +kernel
theorem dX2_clear_25 : decode cX2_clear 25 = .ok (.goto (-19), 3) := by decide +kernel
theorem dX2_clear_28 : decode cX2_clear 28 = .ok (.return_, 1) := by decide +kernel
theorem dX2_forgetPast_0 : decode cX2_forgetPast 0 = .ok (.aload_n 0, 1) := by decide +kernel
theorem dX2_forgetPast_1 : decode cX2_forgetPast 1 = .ok (.iconst 0, 1) := by decide +kernel
theorem dX2_forgetPast_2 : decode cX2_forgetPast 2 = .ok (.putfield 28, 3) := by decide +kernel
theorem dX2_forgetPast_5 : decode cX2_forgetPast 5 = .ok (.return_, 1) := by decide +kernel
theorem dX2_note_0 : decode cX2_note 0 = .ok (.aload_n 0, 1) := by decide +kernel
theorem dX2_note_1 : decode cX2_note 1 = .ok (.getfield 32, 3) := by decide +kernel
theorem dX2_note_4 : decode cX2_note 4 = .ok (.ifCond .lt 27, 3) := by decide +kernel
theorem dX2_note_7 : decode cX2_note 7 = .ok (.aload_n 0, 1) := by decide +kernel
theorem dX2_note_8 : decode cX2_note 8 = .ok (.getfield 32, 3) := by decide +kernel
theorem dX2_note_11 : decode cX2_note 11 = .ok (.aload_n 0, 1) := by decide +kernel
theorem dX2_note_12 : decode cX2_note 12 = .ok (.getfield 11, 3) := by decide +kernel
theorem dX2_note_15 : decode cX2_note 15 = .ok (.arraylength, 1) := by decide +kernel
theorem dX2_note_16 : decode cX2_note 16 = .ok (.if_icmp .ge 15, 3) := by decide +kernel
theorem dX2_note_19 : decode cX2_note 19 = .ok (.aload_n 0, 1) := by decide +kernel
theorem dX2_note_20 : decode cX2_note 20 = .ok (.getfield 11, 3) := by decide +kernel
theorem dX2_note_23 : decode cX2_note 23 = .ok (.aload_n 0, 1) := by decide +kernel
theorem dX2_note_24 : decode cX2_note 24 = .ok (.getfield 32, 3) := by decide +kernel
theorem dX2_note_27 : decode cX2_note 27 = .ok (.aaload, 1) := by decide +kernel
theorem dX2_note_28 : decode cX2_note 28 = .ok (.ifnonnull 4, 3) := by decide +kernel
theorem dX2_note_31 : decode cX2_note 31 = .ok (.return_, 1) := by decide +kernel
theorem dX2_note_32 : decode cX2_note 32 = .ok (.aload_n 0, 1) := by decide +kernel
theorem dX2_note_33 : decode cX2_note 33 = .ok (.getfield 11, 3) := by decide +kernel
theorem dX2_note_36 : decode cX2_note 36 = .ok (.aload_n 0, 1) := by decide +kernel
theorem dX2_note_37 : decode cX2_note 37 = .ok (.getfield 32, 3) := by decide +kernel
theorem dX2_note_40 : decode cX2_note 40 = .ok (.aaload, 1) := by decide +kernel
theorem dX2_note_41 : decode cX2_note 41 = .ok (.aload_n 1, 1) := by decide +kernel
theorem dX2_note_42 : decode cX2_note 42 = .ok (.invokevirtual 35, 3) := by decide +kernel
theorem dX2_note_45 : decode cX2_note 45 = .ok (.aload_n 0, 1) := by decide +kernel
theorem dX2_note_46 : decode cX2_note 46 = .ok (.aload_n 0, 1) := by decide +kernel
theorem dX2_note_47 : decode cX2_note 47 = .ok (.getfield 32, 3) := by decide +kernel
theorem dX2_note_50 : decode cX2_note 50 = .ok (.iconst 1, 1) := by decide +kernel
theorem dX2_note_51 : decode cX2_note 51 = .ok (.iadd, 1) := by decide +kernel
theorem dX2_note_52 : decode cX2_note 52 = .ok (.aload_n 0, 1) := by decide +kernel
theorem dX2_note_53 : decode cX2_note 53 = .ok (.getfield 11, 3) := by decide +kernel
theorem dX2_note_56 : decode cX2_note 56 = .ok (.arraylength, 1) := by decide +kernel
theorem dX2_note_57 : decode cX2_note 57 = .ok (.if_icmp .ge 12, 3) := by decide +kernel
theorem dX2_note_60 : decode cX2_note 60 = .ok (.aload_n 0, 1) := by decide +kernel
theorem dX2_note_61 : decode cX2_note 61 = .ok (.getfield 32, 3) := by decide +kernel
theorem dX2_note_64 : decode cX2_note 64 = .ok (.iconst 1, 1) := by decide +kernel
theorem dX2_note_65 : decode cX2_note 65 = .ok (.iadd, 1) := by decide +kernel
theorem dX2_note_66 : decode cX2_note 66 = .ok (.goto 4, 3) := by decide +kernel
theorem dX2_note_69 : decode cX2_note 69 = .ok (.iconst 0, 1) := by decide +kernel
theorem dX2_note_70 : decode cX2_note 70 = .ok (.putfield 32, 3) := by decide +kernel
theorem dX2_note_73 : decode cX2_note 73 = .ok (.aload_n 0, 1) := by decide +kernel
theorem dX2_note_74 : decode cX2_note 74 = .ok (.getfield 28, 3) := by decide +kernel
theorem dX2_note_77 : decode cX2_note 77 = .ok (.aload_n 0, 1) := by decide +kernel
theorem dX2_note_78 : decode cX2_note 78 = .ok (.getfield 11, 3) := by decide +kernel
theorem dX2_note_81 : decode cX2_note 81 = .ok (.arraylength, 1) := by decide +kernel
theorem dX2_note_82 : decode cX2_note 82 = .ok (.if_icmp .ge 13, 3) := by decide +kernel
theorem dX2_note_85 : decode cX2_note 85 = .ok (.aload_n 0, 1) := by decide +kernel
theorem dX2_note_86 : decode cX2_note 86 = .ok (.dup, 1) := by decide +kernel
theorem dX2_note_87 : decode cX2_note 87 = .ok (.getfield 28, 3) := by decide +kernel
theorem dX2_note_90 : decode cX2_note 90 = .ok (.iconst 1, 1) := by decide +kernel
theorem dX2_note_91 : decode cX2_note 91 = .ok (.iadd, 1) := by decide +kernel
theorem dX2_note_92 : decode cX2_note 92 = .ok (.putfield 28, 3) := by decide +kernel
theorem dX2_note_95 : decode cX2_note 95 = .ok (.return_, 1) := by decide +kernel
theorem dX2_takeBack_0 : decode cX2_takeBack 0 = .ok (.aload_n 0, 1) := by decide +kernel
theorem dX2_takeBack_1 : decode cX2_takeBack 1 = .ok (.getfield 28, 3) := by decide +kernel
theorem dX2_takeBack_4 : decode cX2_takeBack 4 = .ok (.ifCond .gt 5, 3) := by decide +kernel
theorem dX2_takeBack_7 : decode cX2_takeBack 7 = .ok (.iconst 0, 1) := by decide +kernel
theorem dX2_takeBack_8 : decode cX2_takeBack 8 = .ok (.ireturn, 1) := by decide +kernel
theorem dX2_takeBack_9 : decode cX2_takeBack 9 = .ok (.aload_n 0, 1) := by decide +kernel
theorem dX2_takeBack_10 : decode cX2_takeBack 10 = .ok (.getfield 32, 3) := by decide +kernel
theorem dX2_takeBack_13 : decode cX2_takeBack 13 = .ok (.ifCond .le 12, 3) := by decide +kernel
theorem dX2_takeBack_16 : decode cX2_takeBack 16 = .ok (.aload_n 0, 1) := by decide +kernel
theorem dX2_takeBack_17 : decode cX2_takeBack 17 = .ok (.getfield 32, 3) := by decide +kernel
theorem dX2_takeBack_20 : decode cX2_takeBack 20 = .ok (.iconst 1, 1) := by decide +kernel
theorem dX2_takeBack_21 : decode cX2_takeBack 21 = .ok (.isub, 1) := by decide +kernel
theorem dX2_takeBack_22 : decode cX2_takeBack 22 = .ok (.goto 10, 3) := by decide +kernel
theorem dX2_takeBack_25 : decode cX2_takeBack 25 = .ok (.aload_n 0, 1) := by decide +kernel
theorem dX2_takeBack_26 : decode cX2_takeBack 26 = .ok (.getfield 11, 3) := by decide +kernel
theorem dX2_takeBack_29 : decode cX2_takeBack 29 = .ok (.arraylength, 1) := by decide +kernel
theorem dX2_takeBack_30 : decode cX2_takeBack 30 = .ok (.iconst 1, 1) := by decide +kernel
theorem dX2_takeBack_31 : decode cX2_takeBack 31 = .ok (.isub, 1) := by decide +kernel
theorem dX2_takeBack_32 : decode cX2_takeBack 32 = .ok (.istore_n 2, 1) := by decide +kernel
theorem dX2_takeBack_33 : decode cX2_takeBack 33 = .ok (.iload_n 2, 1) := by decide +kernel
theorem dX2_takeBack_34 : decode cX2_takeBack 34 = .ok (.aload_n 0, 1) := by decide +kernel
theorem dX2_takeBack_35 : decode cX2_takeBack 35 = .ok (.getfield 11, 3) := by decide +kernel
theorem dX2_takeBack_38 : decode cX2_takeBack 38 = .ok (.arraylength, 1) := by decide +kernel
theorem dX2_takeBack_39 : decode cX2_takeBack 39 = .ok (.if_icmp .ge 12, 3) := by decide +kernel
theorem dX2_takeBack_42 : decode cX2_takeBack 42 = .ok (.aload_n 0, 1) := by decide +kernel
theorem dX2_takeBack_43 : decode cX2_takeBack 43 = .ok (.getfield 11, 3) := by decide +kernel
theorem dX2_takeBack_46 : decode cX2_takeBack 46 = .ok (.iload_n 2, 1) := by decide +kernel
theorem dX2_takeBack_47 : decode cX2_takeBack 47 = .ok (.aaload, 1) := by decide +kernel
theorem dX2_takeBack_48 : decode cX2_takeBack 48 = .ok (.ifnonnull 5, 3) := by decide +kernel
theorem dX2_takeBack_51 : decode cX2_takeBack 51 = .ok (.iconst 0, 1) := by decide +kernel
theorem dX2_takeBack_52 : decode cX2_takeBack 52 = .ok (.ireturn, 1) := by decide +kernel
theorem dX2_takeBack_53 : decode cX2_takeBack 53 = .ok (.aload_n 1, 1) := by decide +kernel
theorem dX2_takeBack_54 : decode cX2_takeBack 54 = .ok (.aload_n 0, 1) := by decide +kernel
theorem dX2_takeBack_55 : decode cX2_takeBack 55 = .ok (.getfield 11, 3) := by decide +kernel
theorem dX2_takeBack_58 : decode cX2_takeBack 58 = .ok (.iload_n 2, 1) := by decide +kernel
theorem dX2_takeBack_59 : decode cX2_takeBack 59 = .ok (.aaload, 1) := by decide +kernel
theorem dX2_takeBack_60 : decode cX2_takeBack 60 = .ok (.invokevirtual 35, 3) := by decide +kernel
theorem dX2_takeBack_63 : decode cX2_takeBack 63 = .ok (.aload_n 0, 1) := by decide +kernel
theorem dX2_takeBack_64 : decode cX2_takeBack 64 = .ok (.iload_n 2, 1) := by decide +kernel
theorem dX2_takeBack_65 : decode cX2_takeBack 65 = .ok (.putfield 32, 3) := by decide +kernel
theorem dX2_takeBack_68 : decode cX2_takeBack 68 = .ok (.aload_n 0, 1) := by decide +kernel
theorem dX2_takeBack_69 : decode cX2_takeBack 69 = .ok (.dup, 1) := by decide +kernel
theorem dX2_takeBack_70 : decode cX2_takeBack 70 = .ok (.getfield 28, 3) := by decide +kernel
theorem dX2_takeBack_73 : decode cX2_takeBack 73 = .ok (.iconst 1, 1) := by decide +kernel
theorem dX2_takeBack_74 : decode cX2_takeBack 74 = .ok (.isub, 1) := by decide +kernel
theorem dX2_takeBack_75 : decode cX2_takeBack 75 = .ok (.putfield 28, 3) := by decide +kernel
theorem dX2_takeBack_78 : decode cX2_takeBack 78 = .ok (.iconst 1, 1) := by decide +kernel
theorem dX2_takeBack_79 : decode cX2_takeBack 79 = .ok (.ireturn, 1) := by decide +kernel
theorem dX2_holdIn_0 : decode cX2_holdIn 0 = .ok (.iload_n 1, 1) := by decide +kernel
theorem dX2_holdIn_1 : decode cX2_holdIn 1 = .ok (.ifCond .lt 21, 3) := by decide +kernel
theorem dX2_holdIn_4 : decode cX2_holdIn 4 = .ok (.iload_n 1, 1) := by decide +kernel
theorem dX2_holdIn_5 : decode cX2_holdIn 5 = .ok (.aload_n 0, 1) := by decide +kernel
theorem dX2_holdIn_6 : decode cX2_holdIn 6 = .ok (.getfield 17, 3) := by decide +kernel
theorem dX2_holdIn_9 : decode cX2_holdIn 9 = .ok (.arraylength, 1) := by decide +kernel
theorem dX2_holdIn_10 : decode cX2_holdIn 10 = .ok (.if_icmp .ge 12, 3) := by decide +kernel
theorem dX2_holdIn_13 : decode cX2_holdIn 13 = .ok (.aload_n 0, 1) := by decide +kernel
theorem dX2_holdIn_14 : decode cX2_holdIn 14 = .ok (.getfield 17, 3) := by decide +kernel
theorem dX2_holdIn_17 : decode cX2_holdIn 17 = .ok (.iload_n 1, 1) := by decide +kernel
theorem dX2_holdIn_18 : decode cX2_holdIn 18 = .ok (.aaload, 1) := by decide +kernel
theorem dX2_holdIn_19 : decode cX2_holdIn 19 = .ok (.ifnonnull 5, 3) := by decide +kernel
theorem dX2_holdIn_22 : decode cX2_holdIn 22 = .ok (.iconst 0, 1) := by decide +kernel
theorem dX2_holdIn_23 : decode cX2_holdIn 23 = .ok (.ireturn, 1) := by decide +kernel
theorem dX2_holdIn_24 : decode cX2_holdIn 24 = .ok (.aload_n 0, 1) := by decide +kernel
theorem dX2_holdIn_25 : decode cX2_holdIn 25 = .ok (.getfield 17, 3) := by decide +kernel
theorem dX2_holdIn_28 : decode cX2_holdIn 28 = .ok (.iload_n 1, 1) := by decide +kernel
theorem dX2_holdIn_29 : decode cX2_holdIn 29 = .ok (.aaload, 1) := by decide +kernel
theorem dX2_holdIn_30 : decode cX2_holdIn 30 = .ok (.aload_n 2, 1) := by decide +kernel
theorem dX2_holdIn_31 : decode cX2_holdIn 31 = .ok (.invokevirtual 35, 3) := by decide +kernel
theorem dX2_holdIn_34 : decode cX2_holdIn 34 = .ok (.aload_n 0, 1) := by decide +kernel
theorem dX2_holdIn_35 : decode cX2_holdIn 35 = .ok (.getfield 20, 3) := by decide +kernel
theorem dX2_holdIn_38 : decode cX2_holdIn 38 = .ok (.iload_n 1, 1) := by decide +kernel
theorem dX2_holdIn_39 : decode cX2_holdIn 39 = .ok (.iconst 1, 1) := by decide +kernel
theorem dX2_holdIn_40 : decode cX2_holdIn 40 = .ok (.bastore, 1) := by decide +kernel
theorem dX2_holdIn_41 : decode cX2_holdIn 41 = .ok (.iconst 1, 1) := by decide +kernel
theorem dX2_holdIn_42 : decode cX2_holdIn 42 = .ok (.ireturn, 1) := by decide +kernel
theorem dX2_bringBack_0 : decode cX2_bringBack 0 = .ok (.aload_n 0, 1) := by decide +kernel
theorem dX2_bringBack_1 : decode cX2_bringBack 1 = .ok (.iload_n 1, 1) := by decide +kernel
theorem dX2_bringBack_2 : decode cX2_bringBack 2 = .ok (.invokevirtual 39, 3) := by decide +kernel
theorem dX2_bringBack_5 : decode cX2_bringBack 5 = .ok (.ifCond .eq 12, 3) := by decide +kernel
theorem dX2_bringBack_8 : decode cX2_bringBack 8 = .ok (.aload_n 0, 1) := by decide +kernel
theorem dX2_bringBack_9 : decode cX2_bringBack 9 = .ok (.getfield 17, 3) := by decide +kernel
theorem dX2_bringBack_12 : decode cX2_bringBack 12 = .ok (.iload_n 1, 1) := by decide +kernel
theorem dX2_bringBack_13 : decode cX2_bringBack 13 = .ok (.aaload, 1) := by decide +kernel
theorem dX2_bringBack_14 : decode cX2_bringBack 14 = .ok (.ifnonnull 5, 3) := by decide +kernel
theorem dX2_bringBack_17 : decode cX2_bringBack 17 = .ok (.iconst 0, 1) := by decide +kernel
theorem dX2_bringBack_18 : decode cX2_bringBack 18 = .ok (.ireturn, 1) := by decide +kernel
theorem dX2_bringBack_19 : decode cX2_bringBack 19 = .ok (.aload_n 2, 1) := by decide +kernel
theorem dX2_bringBack_20 : decode cX2_bringBack 20 = .ok (.aload_n 0, 1) := by decide +kernel
theorem dX2_bringBack_21 : decode cX2_bringBack 21 = .ok (.getfield 17, 3) := by decide +kernel
theorem dX2_bringBack_24 : decode cX2_bringBack 24 = .ok (.iload_n 1, 1) := by decide +kernel
theorem dX2_bringBack_25 : decode cX2_bringBack 25 = .ok (.aaload, 1) := by decide +kernel
theorem dX2_bringBack_26 : decode cX2_bringBack 26 = .ok (.invokevirtual 35, 3) := by decide +kernel
theorem dX2_bringBack_29 : decode cX2_bringBack 29 = .ok (.iconst 1, 1) := by decide +kernel
theorem dX2_bringBack_30 : decode cX2_bringBack 30 = .ok (.ireturn, 1) := by decide +kernel
theorem dX2_heldSlots_0 : decode cX2_heldSlots 0 = .ok (.iconst 0, 1) := by decide +kernel
theorem dX2_heldSlots_1 : decode cX2_heldSlots 1 = .ok (.istore_n 1, 1) := by decide +kernel
theorem dX2_heldSlots_2 : decode cX2_heldSlots 2 = .ok (.iconst 0, 1) := by decide +kernel
theorem dX2_heldSlots_3 : decode cX2_heldSlots 3 = .ok (.istore_n 2, 1) := by decide +kernel
theorem dX2_heldSlots_4 : decode cX2_heldSlots 4 = .ok (.iload_n 2, 1) := by decide +kernel
theorem dX2_heldSlots_5 : decode cX2_heldSlots 5 = .ok (.aload_n 0, 1) := by decide +kernel
theorem dX2_heldSlots_6 : decode cX2_heldSlots 6 = .ok (.getfield 17, 3) := by decide +kernel
theorem dX2_heldSlots_9 : decode cX2_heldSlots 9 = .ok (.arraylength, 1) := by decide +kernel
theorem dX2_heldSlots_10 : decode cX2_heldSlots 10 = .ok (.if_icmp .ge 20, 3) := by decide +kernel
theorem dX2_heldSlots_13 : decode cX2_heldSlots 13 = .ok (.aload_n 0, 1) := by decide +kernel
theorem dX2_heldSlots_14 : decode cX2_heldSlots 14 = .ok (.iload_n 2, 1) := by decide +kernel
theorem dX2_heldSlots_15 : decode cX2_heldSlots 15 = .ok (.invokevirtual 39, 3) := by decide +kernel
theorem dX2_heldSlots_18 : decode cX2_heldSlots 18 = .ok (.ifCond .eq 6, 3) := by decide +kernel
theorem dX2_heldSlots_21 : decode cX2_heldSlots 21 = .ok (.iinc 1 1, 3) := by decide +kernel
theorem dX2_heldSlots_24 : decode cX2_heldSlots 24 = .ok (.iinc 2 1, 3) := by decide +kernel
theorem dX2_heldSlots_27 : decode cX2_heldSlots 27 = .ok (.goto (-23), 3) := by decide +kernel
theorem dX2_heldSlots_30 : decode cX2_heldSlots 30 = .ok (.iload_n 1, 1) := by decide +kernel
theorem dX2_heldSlots_31 : decode cX2_heldSlots 31 = .ok (.ireturn, 1) := by decide +kernel
theorem dX2_isHeld_0 : decode cX2_isHeld 0 = .ok (.iload_n 1, 1) := by decide +kernel
theorem dX2_isHeld_1 : decode cX2_isHeld 1 = .ok (.ifCond .lt 21, 3) := by decide +kernel
theorem dX2_isHeld_4 : decode cX2_isHeld 4 = .ok (.iload_n 1, 1) := by decide +kernel
theorem dX2_isHeld_5 : decode cX2_isHeld 5 = .ok (.iconst 3, 1) := by decide +kernel
theorem dX2_isHeld_6 : decode cX2_isHeld 6 = .ok (.if_icmp .ge 16, 3) := by decide +kernel
theorem dX2_isHeld_9 : decode cX2_isHeld 9 = .ok (.aload_n 0, 1) := by decide +kernel
theorem dX2_isHeld_10 : decode cX2_isHeld 10 = .ok (.getfield 20, 3) := by decide +kernel
theorem dX2_isHeld_13 : decode cX2_isHeld 13 = .ok (.iload_n 1, 1) := by decide +kernel
theorem dX2_isHeld_14 : decode cX2_isHeld 14 = .ok (.baload, 1) := by decide +kernel
theorem dX2_isHeld_15 : decode cX2_isHeld 15 = .ok (.ifCond .eq 7, 3) := by decide +kernel
theorem dX2_isHeld_18 : decode cX2_isHeld 18 = .ok (.iconst 1, 1) := by decide +kernel
theorem dX2_isHeld_19 : decode cX2_isHeld 19 = .ok (.goto 4, 3) := by decide +kernel
theorem dX2_isHeld_22 : decode cX2_isHeld 22 = .ok (.iconst 0, 1) := by decide +kernel
theorem dX2_isHeld_23 : decode cX2_isHeld 23 = .ok (.ireturn, 1) := by decide +kernel
theorem dX3_init_0 : decode cX3_init 0 = .ok (.aload_n 0, 1) := by decide +kernel
theorem dX3_init_1 : decode cX3_init 1 = .ok (.invokespecial 3, 3) := by decide +kernel
theorem dX3_init_4 : decode cX3_init 4 = .ok (.aload_n 0, 1) := by decide +kernel
theorem dX3_init_5 : decode cX3_init 5 = .ok (.sipush 400, 3) := by decide +kernel
theorem dX3_init_8 : decode cX3_init 8 = .ok (.newarray .int, 2) := by decide +kernel
theorem dX3_init_10 : decode cX3_init 10 = .ok (.putfield 9, 3) := by decide +kernel
theorem dX3_init_13 : decode cX3_init 13 = .ok (.aload_n 0, 1) := by decide +kernel
theorem dX3_init_14 : decode cX3_init 14 = .ok (.sipush 400, 3) := by decide +kernel
theorem dX3_init_17 : decode cX3_init 17 = .ok (.newarray .int, 2) := by decide +kernel
theorem dX3_init_19 : decode cX3_init 19 = .ok (.putfield 15, 3) := by decide +kernel
theorem dX3_init_22 : decode cX3_init 22 = .ok (.aload_n 0, 1) := by decide +kernel
theorem dX3_init_23 : decode cX3_init 23 = .ok (.bipush 16, 2) := by decide +kernel
theorem dX3_init_25 : decode cX3_init 25 = .ok (.newarray .int, 2) := by decide +kernel
theorem dX3_init_27 : decode cX3_init 27 = .ok (.putfield 18, 3) := by decide +kernel
theorem dX3_init_30 : decode cX3_init 30 = .ok (.return_, 1) := by decide +kernel
theorem dX3_clear_0 : decode cX3_clear 0 = .ok (.aload_n 0, 1) := by decide +kernel
theorem dX3_clear_1 : decode cX3_clear 1 = .ok (.iconst 0, 1) := by decide +kernel
theorem dX3_clear_2 : decode cX3_clear 2 = .ok (.putfield 21, 3) := by decide +kernel
theorem dX3_clear_5 : decode cX3_clear 5 = .ok (.aload_n 0, 1) := by decide +kernel
theorem dX3_clear_6 : decode cX3_clear 6 = .ok (.iconst 0, 1) := by decide +kernel
theorem dX3_clear_7 : decode cX3_clear 7 = .ok (.putfield 25, 3) := by decide +kernel
theorem dX3_clear_10 : decode cX3_clear 10 = .ok (.return_, 1) := by decide +kernel
theorem dX3_beSeen_0 : decode cX3_beSeen 0 = .ok (.aload_n 0, 1) := by decide +kernel
theorem dX3_beSeen_1 : decode cX3_beSeen 1 = .ok (.invokevirtual 29, 3) := by decide +kernel
theorem dX3_beSeen_4 : decode cX3_beSeen 4 = .ok (.aload_n 0, 1) := by decide +kernel
theorem dX3_beSeen_5 : decode cX3_beSeen 5 = .ok (.iconst 2, 1) := by decide +kernel
theorem dX3_beSeen_6 : decode cX3_beSeen 6 = .ok (.iload_n 1, 1) := by decide +kernel
theorem dX3_beSeen_7 : decode cX3_beSeen 7 = .ok (.invokevirtual 32, 3) := by decide +kernel
theorem dX3_beSeen_10 : decode cX3_beSeen 10 = .ok (.aload_n 0, 1) := by decide +kernel
theorem dX3_beSeen_11 : decode cX3_beSeen 11 = .ok (.iconst 4, 1) := by decide +kernel
theorem dX3_beSeen_12 : decode cX3_beSeen 12 = .ok (.iconst 0, 1) := by decide +kernel
theorem dX3_beSeen_13 : decode cX3_beSeen 13 = .ok (.invokevirtual 32, 3) := by decide +kernel
theorem dX3_beSeen_16 : decode cX3_beSeen 16 = .ok (.return_, 1) := by decide +kernel
theorem dX3_beNumber_0 : decode cX3_beNumber 0 = .ok (.aload_n 0, 1) := by decide +kernel
theorem dX3_beNumber_1 : decode cX3_beNumber 1 = .ok (.invokevirtual 29, 3) := by decide +kernel
theorem dX3_beNumber_4 : decode cX3_beNumber 4 = .ok (.aload_n 0, 1) := by decide +kernel
theorem dX3_beNumber_5 : decode cX3_beNumber 5 = .ok (.iconst 1, 1) := by decide +kernel
theorem dX3_beNumber_6 : decode cX3_beNumber 6 = .ok (.iload_n 1, 1) := by decide +kernel
theorem dX3_beNumber_7 : decode cX3_beNumber 7 = .ok (.invokevirtual 32, 3) := by decide +kernel
theorem dX3_beNumber_10 : decode cX3_beNumber 10 = .ok (.aload_n 0, 1) := by decide +kernel
theorem dX3_beNumber_11 : decode cX3_beNumber 11 = .ok (.iconst 4, 1) := by decide +kernel
theorem dX3_beNumber_12 : decode cX3_beNumber 12 = .ok (.iconst 0, 1) := by decide +kernel
theorem dX3_beNumber_13 : decode cX3_beNumber 13 = .ok (.invokevirtual 32, 3) := by decide +kernel
theorem dX3_beNumber_16 : decode cX3_beNumber 16 = .ok (.return_, 1) := by decide +kernel
theorem dX3_add_0 : decode cX3_add 0 = .ok (.aload_n 0, 1) := by decide +kernel
theorem dX3_add_1 : decode cX3_add 1 = .ok (.getfield 21, 3) := by decide +kernel
theorem dX3_add_4 : decode cX3_add 4 = .ok (.ifCond .lt 15, 3) := by decide +kernel
theorem dX3_add_7 : decode cX3_add 7 = .ok (.aload_n 0, 1) := by decide +kernel
theorem dX3_add_8 : decode cX3_add 8 = .ok (.getfield 21, 3) := by decide +kernel
theorem dX3_add_11 : decode cX3_add 11 = .ok (.aload_n 0, 1) := by decide +kernel
theorem dX3_add_12 : decode cX3_add 12 = .ok (.getfield 9, 3) := by decide +kernel
theorem dX3_add_15 : decode cX3_add 15 = .ok (.arraylength, 1) := by decide +kernel
theorem dX3_add_16 : decode cX3_add 16 = .ok (.if_icmp .lt 4, 3) := by decide +kernel
theorem dX3_add_19 : decode cX3_add 19 = .ok (.return_, 1) := by decide +kernel
theorem dX3_add_20 : decode cX3_add 20 = .ok (.aload_n 0, 1) := by decide +kernel
theorem dX3_add_21 : decode cX3_add 21 = .ok (.getfield 9, 3) := by decide +kernel
theorem dX3_add_24 : decode cX3_add 24 = .ok (.aload_n 0, 1) := by decide +kernel
theorem dX3_add_25 : decode cX3_add 25 = .ok (.getfield 21, 3) := by decide +kernel
theorem dX3_add_28 : decode cX3_add 28 = .ok (.iload_n 1, 1) := by decide +kernel
theorem dX3_add_29 : decode cX3_add 29 = .ok (.iastore, 1) := by decide +kernel
theorem dX3_add_30 : decode cX3_add 30 = .ok (.aload_n 0, 1) := by decide +kernel
theorem dX3_add_31 : decode cX3_add 31 = .ok (.getfield 15, 3) := by decide +kernel
theorem dX3_add_34 : decode cX3_add 34 = .ok (.aload_n 0, 1) := by decide +kernel
theorem dX3_add_35 : decode cX3_add 35 = .ok (.getfield 21, 3) := by decide +kernel
theorem dX3_add_38 : decode cX3_add 38 = .ok (.iload_n 2, 1) := by decide +kernel
theorem dX3_add_39 : decode cX3_add 39 = .ok (.iastore, 1) := by decide +kernel
theorem dX3_add_40 : decode cX3_add 40 = .ok (.aload_n 0, 1) := by decide +kernel
theorem dX3_add_41 : decode cX3_add 41 = .ok (.dup, 1) := by decide +kernel
theorem dX3_add_42 : decode cX3_add 42 = .ok (.getfield 21, 3) := by decide +kernel
theorem dX3_add_45 : decode cX3_add 45 = .ok (.iconst 1, 1) := by decide +kernel
theorem dX3_add_46 : decode cX3_add 46 = .ok (.iadd, 1) := by decide +kernel
theorem dX3_add_47 : decode cX3_add 47 = .ok (.putfield 21, 3) := by decide +kernel
theorem dX3_add_50 : decode cX3_add 50 = .ok (.iload_n 1, 1) := by decide +kernel
theorem dX3_add_51 : decode cX3_add 51 = .ok (.iconst 2, 1) := by decide +kernel
theorem dX3_add_52 : decode cX3_add 52 = .ok (.if_icmp .ne 13, 3) := by decide +kernel
theorem dX3_add_55 : decode cX3_add 55 = .ok (.iload_n 2, 1) := by decide +kernel
theorem dX3_add_56 : decode cX3_add 56 = .ok (.iconst 5, 1) := by decide +kernel
theorem dX3_add_57 : decode cX3_add 57 = .ok (.if_icmp .ne 8, 3) := by decide +kernel
theorem dX3_add_60 : decode cX3_add 60 = .ok (.aload_n 0, 1) := by decide +kernel
theorem dX3_add_61 : decode cX3_add 61 = .ok (.iconst 1, 1) := by decide +kernel
theorem dX3_add_62 : decode cX3_add 62 = .ok (.putfield 25, 3) := by decide +kernel
theorem dX3_add_65 : decode cX3_add 65 = .ok (.return_, 1) := by decide +kernel
theorem dX3_leadHere_0 : decode cX3_leadHere 0 = .ok (.iload_n 1, 1) := by decide +kernel
theorem dX3_leadHere_1 : decode cX3_leadHere 1 = .ok (.ifCond .lt 22, 3) := by decide +kernel
theorem dX3_leadHere_4 : decode cX3_leadHere 4 = .ok (.iload_n 1, 1) := by decide +kernel
theorem dX3_leadHere_5 : decode cX3_leadHere 5 = .ok (.aload_n 0, 1) := by decide +kernel
theorem dX3_leadHere_6 : decode cX3_leadHere 6 = .ok (.getfield 15, 3) := by decide +kernel
theorem dX3_leadHere_9 : decode cX3_leadHere 9 = .ok (.arraylength, 1) := by decide +kernel
theorem dX3_leadHere_10 : decode cX3_leadHere 10 = .ok (.if_icmp .ge 13, 3) := by decide +kernel
theorem dX3_leadHere_13 : decode cX3_leadHere 13 = .ok (.aload_n 0, 1) := by decide +kernel
theorem dX3_leadHere_14 : decode cX3_leadHere 14 = .ok (.getfield 15, 3) := by decide +kernel
theorem dX3_leadHere_17 : decode cX3_leadHere 17 = .ok (.iload_n 1, 1) := by decide +kernel
theorem dX3_leadHere_18 : decode cX3_leadHere 18 = .ok (.aload_n 0, 1) := by decide +kernel
theorem dX3_leadHere_19 : decode cX3_leadHere 19 = .ok (.getfield 21, 3) := by decide +kernel
theorem dX3_leadHere_22 : decode cX3_leadHere 22 = .ok (.iastore, 1) := by decide +kernel
theorem dX3_leadHere_23 : decode cX3_leadHere 23 = .ok (.return_, 1) := by decide +kernel
theorem dX3_value_0 : decode cX3_value 0 = .ok (.iconst 0, 1) := by decide +kernel
theorem dX3_value_1 : decode cX3_value 1 = .ok (.istore_n 2, 1) := by decide +kernel
theorem dX3_value_2 : decode cX3_value 2 = .ok (.iconst 0, 1) := by decide +kernel
theorem dX3_value_3 : decode cX3_value 3 = .ok (.istore_n 3, 1) := by decide +kernel
theorem dX3_value_4 : decode cX3_value 4 = .ok (.iconst 0, 1) := by decide +kernel
theorem dX3_value_5 : decode cX3_value 5 = .ok (.istore 4, 2) := by decide +kernel
theorem dX3_value_7 : decode cX3_value 7 = .ok (.iload 4, 2) := by decide +kernel
theorem dX3_value_9 : decode cX3_value 9 = .ok (.aload_n 0, 1) := by decide +kernel
theorem dX3_value_10 : decode cX3_value 10 = .ok (.getfield 21, 3) := by decide +kernel
theorem dX3_value_13 : decode cX3_value 13 = .ok (.if_icmp .ge 238, 3) := by decide +kernel
theorem dX3_value_16 : decode cX3_value 16 = .ok (.iload_n 3, 1) := by decide +kernel
theorem dX3_value_17 : decode cX3_value 17 = .ok (.ifCond .lt 234, 3) := by decide +kernel
theorem dX3_value_20 : decode cX3_value 20 = .ok (.iload_n 3, 1) := by decide +kernel
theorem dX3_value_21 : decode cX3_value 21 = .ok (.aload_n 0, 1) := by decide +kernel
theorem dX3_value_22 : decode cX3_value 22 = .ok (.getfield 21, 3) := by decide +kernel
theorem dX3_value_25 : decode cX3_value 25 = .ok (.if_icmp .ge 226, 3) := by decide +kernel
theorem dX3_value_28 : decode cX3_value 28 = .ok (.iload_n 3, 1) := by decide +kernel
theorem dX3_value_29 : decode cX3_value 29 = .ok (.aload_n 0, 1) := by decide +kernel
theorem dX3_value_30 : decode cX3_value 30 = .ok (.getfield 9, 3) := by decide +kernel
theorem dX3_value_33 : decode cX3_value 33 = .ok (.arraylength, 1) := by decide +kernel
theorem dX3_value_34 : decode cX3_value 34 = .ok (.if_icmp .ge 217, 3) := by decide +kernel
theorem dX3_value_37 : decode cX3_value 37 = .ok (.aload_n 0, 1) := by decide +kernel
theorem dX3_value_38 : decode cX3_value 38 = .ok (.getfield 9, 3) := by decide +kernel
theorem dX3_value_41 : decode cX3_value 41 = .ok (.iload_n 3, 1) := by decide +kernel
theorem dX3_value_42 : decode cX3_value 42 = .ok (.iaload, 1) := by decide +kernel
theorem dX3_value_43 : decode cX3_value 43 = .ok (.istore 5, 2) := by decide +kernel
theorem dX3_value_45 : decode cX3_value 45 = .ok (.aload_n 0, 1) := by decide +kernel
theorem dX3_value_46 : decode cX3_value 46 = .ok (.getfield 15, 3) := by decide +kernel
theorem dX3_value_49 : decode cX3_value 49 = .ok (.iload_n 3, 1) := by decide +kernel
theorem dX3_value_50 : decode cX3_value 50 = .ok (.iaload, 1) := by decide +kernel
theorem dX3_value_51 : decode cX3_value 51 = .ok (.istore 6, 2) := by decide +kernel
theorem dX3_value_53 : decode cX3_value 53 = .ok (.iinc 3 1, 3) := by decide +kernel
theorem dX3_value_56 : decode cX3_value 56 = .ok (.iload 5, 2) := by decide +kernel
theorem dX3_value_58 : decode cX3_value 58 = .ok (.iconst 4, 1) := by decide +kernel
theorem dX3_value_59 : decode cX3_value 59 = .ok (.if_icmp .ne 20, 3) := by decide +kernel
theorem dX3_value_62 : decode cX3_value 62 = .ok (.iload_n 2, 1) := by decide +kernel
theorem dX3_value_63 : decode cX3_value 63 = .ok (.ifCond .le 14, 3) := by decide +kernel
theorem dX3_value_66 : decode cX3_value 66 = .ok (.aload_n 0, 1) := by decide +kernel
theorem dX3_value_67 : decode cX3_value 67 = .ok (.getfield 18, 3) := by decide +kernel
theorem dX3_value_70 : decode cX3_value 70 = .ok (.iload_n 2, 1) := by decide +kernel
theorem dX3_value_71 : decode cX3_value 71 = .ok (.iconst 1, 1) := by decide +kernel
theorem dX3_value_72 : decode cX3_value 72 = .ok (.isub, 1) := by decide +kernel
theorem dX3_value_73 : decode cX3_value 73 = .ok (.iaload, 1) := by decide +kernel
theorem dX3_value_74 : decode cX3_value 74 = .ok (.goto 4, 3) := by decide +kernel
theorem dX3_value_77 : decode cX3_value 77 = .ok (.iconst 0, 1) := by decide +kernel
theorem dX3_value_78 : decode cX3_value 78 = .ok (.ireturn, 1) := by decide +kernel
theorem dX3_value_79 : decode cX3_value 79 = .ok (.iload 5, 2) := by decide +kernel
theorem dX3_value_81 : decode cX3_value 81 = .ok (.iconst 1, 1) := by decide +kernel
theorem dX3_value_82 : decode cX3_value 82 = .ok (.if_icmp .eq 9, 3) := by decide +kernel
theorem dX3_value_85 : decode cX3_value 85 = .ok (.iload 5, 2) := by decide +kernel
theorem dX3_value_87 : decode cX3_value 87 = .ok (.iconst 2, 1) := by decide +kernel
theorem dX3_value_88 : decode cX3_value 88 = .ok (.if_icmp .ne 65, 3) := by decide +kernel
theorem dX3_value_91 : decode cX3_value 91 = .ok (.iload_n 2, 1) := by decide +kernel
theorem dX3_value_92 : decode cX3_value 92 = .ok (.ifCond .lt 17, 3) := by decide +kernel
theorem dX3_value_95 : decode cX3_value 95 = .ok (.iload_n 2, 1) := by decide +kernel
theorem dX3_value_96 : decode cX3_value 96 = .ok (.aload_n 0, 1) := by decide +kernel
theorem dX3_value_97 : decode cX3_value 97 = .ok (.getfield 18, 3) := by decide +kernel
theorem dX3_value_100 : decode cX3_value 100 = .ok (.arraylength, 1) := by decide +kernel
theorem dX3_value_101 : decode cX3_value 101 = .ok (.if_icmp .ge 8, 3) := by decide +kernel
theorem dX3_value_104 : decode cX3_value 104 = .ok (.iload 6, 2) := by decide +kernel
theorem dX3_value_106 : decode cX3_value 106 = .ok (.ifCond .ge 5, 3) := by decide +kernel
theorem dX3_value_109 : decode cX3_value 109 = .ok (.iconst 0, 1) := by decide +kernel
theorem dX3_value_110 : decode cX3_value 110 = .ok (.ireturn, 1) := by decide +kernel
theorem dX3_value_111 : decode cX3_value 111 = .ok (.iload 5, 2) := by decide +kernel
theorem dX3_value_113 : decode cX3_value 113 = .ok (.iconst 2, 1) := by decide +kernel
theorem dX3_value_114 : decode cX3_value 114 = .ok (.if_icmp .ne 12, 3) := by decide +kernel
theorem dX3_value_117 : decode cX3_value 117 = .ok (.iload 6, 2) := by decide +kernel
theorem dX3_value_119 : decode cX3_value 119 = .ok (.aload_n 1, 1) := by decide +kernel
theorem dX3_value_120 : decode cX3_value 120 = .ok (.arraylength, 1) := by decide +kernel
theorem dX3_value_121 : decode cX3_value 121 = .ok (.if_icmp .lt 5, 3) := by decide +kernel
theorem dX3_value_124 : decode cX3_value 124 = .ok (.iconst 0, 1) := by decide +kernel
theorem dX3_value_125 : decode cX3_value 125 = .ok (.ireturn, 1) := by decide +kernel
theorem dX3_value_126 : decode cX3_value 126 = .ok (.aload_n 0, 1) := by decide +kernel
theorem dX3_value_127 : decode cX3_value 127 = .ok (.getfield 18, 3) := by decide +kernel
theorem dX3_value_130 : decode cX3_value 130 = .ok (.iload_n 2, 1) := by decide +kernel
theorem dX3_value_131 : decode cX3_value 131 = .ok (.iinc 2 1, 3) := by decide +kernel
theorem dX3_value_134 : decode cX3_value 134 = .ok (.iload 5, 2) := by decide +kernel
theorem dX3_value_136 : decode cX3_value 136 = .ok (.iconst 2, 1) := by decide +kernel
theorem dX3_value_137 : decode cX3_value 137 = .ok (.if_icmp .ne 10, 3) := by decide +kernel
theorem dX3_value_140 : decode cX3_value 140 = .ok (.aload_n 1, 1) := by decide +kernel
theorem dX3_value_141 : decode cX3_value 141 = .ok (.iload 6, 2) := by decide +kernel
theorem dX3_value_143 : decode cX3_value 143 = .ok (.iaload, 1) := by decide +kernel
theorem dX3_value_144 : decode cX3_value 144 = .ok (.goto 5, 3) := by decide +kernel
theorem dX3_value_147 : decode cX3_value 147 = .ok (.iload 6, 2) := by decide +kernel
theorem dX3_value_149 : decode cX3_value 149 = .ok (.iastore, 1) := by decide +kernel
theorem dX3_value_150 : decode cX3_value 150 = .ok (.goto 95, 3) := by decide +kernel
theorem dX3_value_153 : decode cX3_value 153 = .ok (.iload_n 2, 1) := by decide +kernel
theorem dX3_value_154 : decode cX3_value 154 = .ok (.iconst 2, 1) := by decide +kernel
theorem dX3_value_155 : decode cX3_value 155 = .ok (.if_icmp .lt 12, 3) := by decide +kernel
theorem dX3_value_158 : decode cX3_value 158 = .ok (.iload_n 2, 1) := by decide +kernel
theorem dX3_value_159 : decode cX3_value 159 = .ok (.aload_n 0, 1) := by decide +kernel
theorem dX3_value_160 : decode cX3_value 160 = .ok (.getfield 18, 3) := by decide +kernel
theorem dX3_value_163 : decode cX3_value 163 = .ok (.arraylength, 1) := by decide +kernel
theorem dX3_value_164 : decode cX3_value 164 = .ok (.if_icmp .le 5, 3) := by decide +kernel
theorem dX3_value_167 : decode cX3_value 167 = .ok (.iconst 0, 1) := by decide +kernel
theorem dX3_value_168 : decode cX3_value 168 = .ok (.ireturn, 1) := by decide +kernel
theorem dX3_value_169 : decode cX3_value 169 = .ok (.aload_n 0, 1) := by decide +kernel
theorem dX3_value_170 : decode cX3_value 170 = .ok (.getfield 18, 3) := by decide +kernel
theorem dX3_value_173 : decode cX3_value 173 = .ok (.iload_n 2, 1) := by decide +kernel
theorem dX3_value_174 : decode cX3_value 174 = .ok (.iconst 1, 1) := by decide +kernel
theorem dX3_value_175 : decode cX3_value 175 = .ok (.isub, 1) := by decide +kernel
theorem dX3_value_176 : decode cX3_value 176 = .ok (.iaload, 1) := by decide +kernel
theorem dX3_value_177 : decode cX3_value 177 = .ok (.istore 7, 2) := by decide +kernel
theorem dX3_value_179 : decode cX3_value 179 = .ok (.aload_n 0, 1) := by decide +kernel
theorem dX3_value_180 : decode cX3_value 180 = .ok (.getfield 18, 3) := by decide +kernel
theorem dX3_value_183 : decode cX3_value 183 = .ok (.iload_n 2, 1) := by decide +kernel
theorem dX3_value_184 : decode cX3_value 184 = .ok (.iconst 2, 1) := by decide +kernel
theorem dX3_value_185 : decode cX3_value 185 = .ok (.isub, 1) := by decide +kernel
theorem dX3_value_186 : decode cX3_value 186 = .ok (.iaload, 1) := by decide +kernel
theorem dX3_value_187 : decode cX3_value 187 = .ok (.istore 8, 2) := by decide +kernel
theorem dX3_value_189 : decode cX3_value 189 = .ok (.iload 5, 2) := by decide +kernel
theorem dX3_value_191 : decode cX3_value 191 = .ok (.iconst 3, 1) := by decide +kernel
theorem dX3_value_192 : decode cX3_value 192 = .ok (.if_icmp .ne 19, 3) := by decide +kernel
theorem dX3_value_195 : decode cX3_value 195 = .ok (.iinc 2 (-2), 3) := by decide +kernel
theorem dX3_value_198 : decode cX3_value 198 = .ok (.iload 8, 2) := by decide +kernel
theorem dX3_value_200 : decode cX3_value 200 = .ok (.iload 7, 2) := by decide +kernel
theorem dX3_value_202 : decode cX3_value 202 = .ok (.if_icmp .lt 43, 3) := by decide +kernel
theorem dX3_value_205 : decode cX3_value 205 = .ok (.iload 6, 2) := by decide +kernel
theorem dX3_value_207 : decode cX3_value 207 = .ok (.istore_n 3, 1) := by decide +kernel
theorem dX3_value_208 : decode cX3_value 208 = .ok (.goto 37, 3) := by decide +kernel
theorem dX3_value_211 : decode cX3_value 211 = .ok (.iload 5, 2) := by decide +kernel
theorem dX3_value_213 : decode cX3_value 213 = .ok (.bipush 47, 2) := by decide +kernel
theorem dX3_value_215 : decode cX3_value 215 = .ok (.if_icmp .ne 10, 3) := by decide +kernel
theorem dX3_value_218 : decode cX3_value 218 = .ok (.iload 7, 2) := by decide +kernel
theorem dX3_value_220 : decode cX3_value 220 = .ok (.ifCond .ne 5, 3) := by decide +kernel
theorem dX3_value_223 : decode cX3_value 223 = .ok (.iconst 0, 1) := by decide +kernel
theorem dX3_value_224 : decode cX3_value 224 = .ok (.ireturn, 1) := by decide +kernel
theorem dX3_value_225 : decode cX3_value 225 = .ok (.iinc 2 (-1), 3) := by decide +kernel
theorem dX3_value_228 : decode cX3_value 228 = .ok (.aload_n 0, 1) := by decide +kernel
theorem dX3_value_229 : decode cX3_value 229 = .ok (.getfield 18, 3) := by decide +kernel
theorem dX3_value_232 : decode cX3_value 232 = .ok (.iload_n 2, 1) := by decide +kernel
theorem dX3_value_233 : decode cX3_value 233 = .ok (.iconst 1, 1) := by decide +kernel
theorem dX3_value_234 : decode cX3_value 234 = .ok (.isub, 1) := by decide +kernel
theorem dX3_value_235 : decode cX3_value 235 = .ok (.iload 5, 2) := by decide +kernel
theorem dX3_value_237 : decode cX3_value 237 = .ok (.iload 8, 2) := by decide +kernel
theorem dX3_value_239 : decode cX3_value 239 = .ok (.iload 7, 2) := by decide +kernel
theorem dX3_value_241 : decode cX3_value 241 = .ok (.invokestatic 36, 3) := by decide +kernel
theorem dX3_value_244 : decode cX3_value 244 = .ok (.iastore, 1) := by decide +kernel
theorem dX3_value_245 : decode cX3_value 245 = .ok (.iinc 4 1, 3) := by decide +kernel
theorem dX3_value_248 : decode cX3_value 248 = .ok (.goto (-241), 3) := by decide +kernel
theorem dX3_value_251 : decode cX3_value 251 = .ok (.iconst 0, 1) := by decide +kernel
theorem dX3_value_252 : decode cX3_value 252 = .ok (.ireturn, 1) := by decide +kernel
theorem dX3_combined_0 : decode cX3_combined 0 = .ok (.iload_n 0, 1) := by decide +kernel
theorem dX3_combined_1 : decode cX3_combined 1 = .ok (.tableswitch 43 42 45 #[39, 31, 43, 35], 31) := by decide +kernel
theorem dX3_combined_32 : decode cX3_combined 32 = .ok (.iload_n 1, 1) := by decide +kernel
theorem dX3_combined_33 : decode cX3_combined 33 = .ok (.iload_n 2, 1) := by decide +kernel
theorem dX3_combined_34 : decode cX3_combined 34 = .ok (.iadd, 1) := by decide +kernel
theorem dX3_combined_35 : decode cX3_combined 35 = .ok (.ireturn, 1) := by decide +kernel
theorem dX3_combined_36 : decode cX3_combined 36 = .ok (.iload_n 1, 1) := by decide +kernel
theorem dX3_combined_37 : decode cX3_combined 37 = .ok (.iload_n 2, 1) := by decide +kernel
theorem dX3_combined_38 : decode cX3_combined 38 = .ok (.isub, 1) := by decide +kernel
theorem dX3_combined_39 : decode cX3_combined 39 = .ok (.ireturn, 1) := by decide +kernel
theorem dX3_combined_40 : decode cX3_combined 40 = .ok (.iload_n 1, 1) := by decide +kernel
theorem dX3_combined_41 : decode cX3_combined 41 = .ok (.iload_n 2, 1) := by decide +kernel
theorem dX3_combined_42 : decode cX3_combined 42 = .ok (.imul, 1) := by decide +kernel
theorem dX3_combined_43 : decode cX3_combined 43 = .ok (.ireturn, 1) := by decide +kernel
theorem dX3_combined_44 : decode cX3_combined 44 = .ok (.iload_n 2, 1) := by decide +kernel
theorem dX3_combined_45 : decode cX3_combined 45 = .ok (.ifCond .ne 7, 3) := by decide +kernel
theorem dX3_combined_48 : decode cX3_combined 48 = .ok (.iconst 0, 1) := by decide +kernel
theorem dX3_combined_49 : decode cX3_combined 49 = .ok (.goto 6, 3) := by decide +kernel
theorem dX3_combined_52 : decode cX3_combined 52 = .ok (.iload_n 1, 1) := by decide +kernel
theorem dX3_combined_53 : decode cX3_combined 53 = .ok (.iload_n 2, 1) := by decide +kernel
theorem dX3_combined_54 : decode cX3_combined 54 = .ok (.idiv, 1) := by decide +kernel
theorem dX3_combined_55 : decode cX3_combined 55 = .ok (.ireturn, 1) := by decide +kernel
theorem dX4_init_0 : decode cX4_init 0 = .ok (.aload_n 0, 1) := by decide +kernel
theorem dX4_init_1 : decode cX4_init 1 = .ok (.invokespecial 3, 3) := by decide +kernel
theorem dX4_init_4 : decode cX4_init 4 = .ok (.aload_n 0, 1) := by decide +kernel
theorem dX4_init_5 : decode cX4_init 5 = .ok (.new 9, 3) := by decide +kernel
theorem dX4_init_8 : decode cX4_init 8 = .ok (.dup, 1) := by decide +kernel
theorem dX4_init_9 : decode cX4_init 9 = .ok (.invokespecial 11, 3) := by decide +kernel
theorem dX4_init_12 : decode cX4_init 12 = .ok (.putfield 12, 3) := by decide +kernel
theorem dX4_init_15 : decode cX4_init 15 = .ok (.aload_n 0, 1) := by decide +kernel
theorem dX4_init_16 : decode cX4_init 16 = .ok (.sipush 2048, 3) := by decide +kernel
theorem dX4_init_19 : decode cX4_init 19 = .ok (.newarray .int, 2) := by decide +kernel
theorem dX4_init_21 : decode cX4_init 21 = .ok (.putfield 18, 3) := by decide +kernel
theorem dX4_init_24 : decode cX4_init 24 = .ok (.return_, 1) := by decide +kernel
theorem dX4_restAt_0 : decode cX4_restAt 0 = .ok (.aload_n 2, 1) := by decide +kernel
theorem dX4_restAt_1 : decode cX4_restAt 1 = .ok (.getfield 22, 3) := by decide +kernel
theorem dX4_restAt_4 : decode cX4_restAt 4 = .ok (.bipush 8, 2) := by decide +kernel
theorem dX4_restAt_6 : decode cX4_restAt 6 = .ok (.if_icmp .le 6, 3) := by decide +kernel
theorem dX4_restAt_9 : decode cX4_restAt 9 = .ok (.bipush (-2), 2) := by decide +kernel
theorem dX4_restAt_11 : decode cX4_restAt 11 = .ok (.ireturn, 1) := by decide +kernel
theorem dX4_restAt_12 : decode cX4_restAt 12 = .ok (.iconst 1, 1) := by decide +kernel
theorem dX4_restAt_13 : decode cX4_restAt 13 = .ok (.aload_n 2, 1) := by decide +kernel
theorem dX4_restAt_14 : decode cX4_restAt 14 = .ok (.getfield 22, 3) := by decide +kernel
theorem dX4_restAt_17 : decode cX4_restAt 17 = .ok (.ishl, 1) := by decide +kernel
theorem dX4_restAt_18 : decode cX4_restAt 18 = .ok (.istore 5, 2) := by decide +kernel
theorem dX4_restAt_20 : decode cX4_restAt 20 = .ok (.iconst 0, 1) := by decide +kernel
theorem dX4_restAt_21 : decode cX4_restAt 21 = .ok (.istore 6, 2) := by decide +kernel
theorem dX4_restAt_23 : decode cX4_restAt 23 = .ok (.iload 6, 2) := by decide +kernel
theorem dX4_restAt_25 : decode cX4_restAt 25 = .ok (.iload 5, 2) := by decide +kernel
theorem dX4_restAt_27 : decode cX4_restAt 27 = .ok (.if_icmp .ge 18, 3) := by decide +kernel
theorem dX4_restAt_30 : decode cX4_restAt 30 = .ok (.aload_n 0, 1) := by decide +kernel
theorem dX4_restAt_31 : decode cX4_restAt 31 = .ok (.aload_n 1, 1) := by decide +kernel
theorem dX4_restAt_32 : decode cX4_restAt 32 = .ok (.aload_n 2, 1) := by decide +kernel
theorem dX4_restAt_33 : decode cX4_restAt 33 = .ok (.iload_n 3, 1) := by decide +kernel
theorem dX4_restAt_34 : decode cX4_restAt 34 = .ok (.iload 6, 2) := by decide +kernel
theorem dX4_restAt_36 : decode cX4_restAt 36 = .ok (.invokevirtual 26, 3) := by decide +kernel
theorem dX4_restAt_39 : decode cX4_restAt 39 = .ok (.iinc 6 1, 3) := by decide +kernel
theorem dX4_restAt_42 : decode cX4_restAt 42 = .ok (.goto (-19), 3) := by decide +kernel
theorem dX4_restAt_45 : decode cX4_restAt 45 = .ok (.iconst 0, 1) := by decide +kernel
theorem dX4_restAt_46 : decode cX4_restAt 46 = .ok (.istore 6, 2) := by decide +kernel
theorem dX4_restAt_48 : decode cX4_restAt 48 = .ok (.iconst 0, 1) := by decide +kernel
theorem dX4_restAt_49 : decode cX4_restAt 49 = .ok (.istore 7, 2) := by decide +kernel
theorem dX4_restAt_51 : decode cX4_restAt 51 = .ok (.iload 7, 2) := by decide +kernel
theorem dX4_restAt_53 : decode cX4_restAt 53 = .ok (.iload 5, 2) := by decide +kernel
theorem dX4_restAt_55 : decode cX4_restAt 55 = .ok (.if_icmp .ge 38, 3) := by decide +kernel
theorem dX4_restAt_58 : decode cX4_restAt 58 = .ok (.aload_n 0, 1) := by decide +kernel
theorem dX4_restAt_59 : decode cX4_restAt 59 = .ok (.iload 7, 2) := by decide +kernel
theorem dX4_restAt_61 : decode cX4_restAt 61 = .ok (.aload_n 2, 1) := by decide +kernel
theorem dX4_restAt_62 : decode cX4_restAt 62 = .ok (.getfield 22, 3) := by decide +kernel
theorem dX4_restAt_65 : decode cX4_restAt 65 = .ok (.invokevirtual 30, 3) := by decide +kernel
theorem dX4_restAt_68 : decode cX4_restAt 68 = .ok (.ifCond .ne 6, 3) := by decide +kernel
theorem dX4_restAt_71 : decode cX4_restAt 71 = .ok (.goto 16, 3) := by decide +kernel
theorem dX4_restAt_74 : decode cX4_restAt 74 = .ok (.iload 6, 2) := by decide +kernel
theorem dX4_restAt_76 : decode cX4_restAt 76 = .ok (.iload 4, 2) := by decide +kernel
theorem dX4_restAt_78 : decode cX4_restAt 78 = .ok (.if_icmp .ne 6, 3) := by decide +kernel
theorem dX4_restAt_81 : decode cX4_restAt 81 = .ok (.iload 7, 2) := by decide +kernel
theorem dX4_restAt_83 : decode cX4_restAt 83 = .ok (.ireturn, 1) := by decide +kernel
theorem dX4_restAt_84 : decode cX4_restAt 84 = .ok (.iinc 6 1, 3) := by decide +kernel
theorem dX4_restAt_87 : decode cX4_restAt 87 = .ok (.iinc 7 1, 3) := by decide +kernel
theorem dX4_restAt_90 : decode cX4_restAt 90 = .ok (.goto (-39), 3) := by decide +kernel
theorem dX4_restAt_93 : decode cX4_restAt 93 = .ok (.iload 4, 2) := by decide +kernel
theorem dX4_restAt_95 : decode cX4_restAt 95 = .ok (.iconst (-1), 1) := by decide +kernel
theorem dX4_restAt_96 : decode cX4_restAt 96 = .ok (.if_icmp .ne 8, 3) := by decide +kernel
theorem dX4_restAt_99 : decode cX4_restAt 99 = .ok (.iload 6, 2) := by decide +kernel
theorem dX4_restAt_101 : decode cX4_restAt 101 = .ok (.goto 4, 3) := by decide +kernel
theorem dX4_restAt_104 : decode cX4_restAt 104 = .ok (.iconst (-1), 1) := by decide +kernel
theorem dX4_restAt_105 : decode cX4_restAt 105 = .ok (.ireturn, 1) := by decide +kernel
theorem dX4_follow_0 : decode cX4_follow 0 = .ok (.aload_n 0, 1) := by decide +kernel
theorem dX4_follow_1 : decode cX4_follow 1 = .ok (.getfield 12, 3) := by decide +kernel
theorem dX4_follow_4 : decode cX4_follow 4 = .ok (.aload_n 2, 1) := by decide +kernel
theorem dX4_follow_5 : decode cX4_follow 5 = .ok (.invokevirtual 34, 3) := by decide +kernel
theorem dX4_follow_8 : decode cX4_follow 8 = .ok (.iconst 0, 1) := by decide +kernel
theorem dX4_follow_9 : decode cX4_follow 9 = .ok (.istore 5, 2) := by decide +kernel
theorem dX4_follow_11 : decode cX4_follow 11 = .ok (.iload 5, 2) := by decide +kernel
theorem dX4_follow_13 : decode cX4_follow 13 = .ok (.bipush 10, 2) := by decide +kernel
theorem dX4_follow_15 : decode cX4_follow 15 = .ok (.if_icmp .ge 60, 3) := by decide +kernel
theorem dX4_follow_18 : decode cX4_follow 18 = .ok (.aload_n 0, 1) := by decide +kernel
theorem dX4_follow_19 : decode cX4_follow 19 = .ok (.getfield 12, 3) := by decide +kernel
theorem dX4_follow_22 : decode cX4_follow 22 = .ok (.iload 5, 2) := by decide +kernel
theorem dX4_follow_24 : decode cX4_follow 24 = .ok (.invokevirtual 38, 3) := by decide +kernel
theorem dX4_follow_27 : decode cX4_follow 27 = .ok (.ifCond .eq 48, 3) := by decide +kernel
theorem dX4_follow_30 : decode cX4_follow 30 = .ok (.aload_n 0, 1) := by decide +kernel
theorem dX4_follow_31 : decode cX4_follow 31 = .ok (.getfield 12, 3) := by decide +kernel
theorem dX4_follow_34 : decode cX4_follow 34 = .ok (.getfield 42, 3) := by decide +kernel
theorem dX4_follow_37 : decode cX4_follow 37 = .ok (.iload 5, 2) := by decide +kernel
theorem dX4_follow_39 : decode cX4_follow 39 = .ok (.iload 4, 2) := by decide +kernel
theorem dX4_follow_41 : decode cX4_follow 41 = .ok (.iload 5, 2) := by decide +kernel
theorem dX4_follow_43 : decode cX4_follow 43 = .ok (.ishr, 1) := by decide +kernel
theorem dX4_follow_44 : decode cX4_follow 44 = .ok (.iconst 1, 1) := by decide +kernel
theorem dX4_follow_45 : decode cX4_follow 45 = .ok (.iand, 1) := by decide +kernel
theorem dX4_follow_46 : decode cX4_follow 46 = .ok (.iconst 1, 1) := by decide +kernel
theorem dX4_follow_47 : decode cX4_follow 47 = .ok (.if_icmp .ne 20, 3) := by decide +kernel
theorem dX4_follow_50 : decode cX4_follow 50 = .ok (.iload_n 3, 1) := by decide +kernel
theorem dX4_follow_51 : decode cX4_follow 51 = .ok (.aload_n 0, 1) := by decide +kernel
theorem dX4_follow_52 : decode cX4_follow 52 = .ok (.getfield 12, 3) := by decide +kernel
theorem dX4_follow_55 : decode cX4_follow 55 = .ok (.getfield 45, 3) := by decide +kernel
theorem dX4_follow_58 : decode cX4_follow 58 = .ok (.iload 5, 2) := by decide +kernel
theorem dX4_follow_60 : decode cX4_follow 60 = .ok (.iaload, 1) := by decide +kernel
theorem dX4_follow_61 : decode cX4_follow 61 = .ok (.invokestatic 48, 3) := by decide +kernel
theorem dX4_follow_64 : decode cX4_follow 64 = .ok (.goto 4, 3) := by decide +kernel
theorem dX4_follow_67 : decode cX4_follow 67 = .ok (.iconst 0, 1) := by decide +kernel
theorem dX4_follow_68 : decode cX4_follow 68 = .ok (.iastore, 1) := by decide +kernel
theorem dX4_follow_69 : decode cX4_follow 69 = .ok (.iinc 5 1, 3) := by decide +kernel
theorem dX4_follow_72 : decode cX4_follow 72 = .ok (.goto (-61), 3) := by decide +kernel
theorem dX4_follow_75 : decode cX4_follow 75 = .ok (.aload_n 1, 1) := by decide +kernel
theorem dX4_follow_76 : decode cX4_follow 76 = .ok (.aload_n 0, 1) := by decide +kernel
theorem dX4_follow_77 : decode cX4_follow 77 = .ok (.getfield 12, 3) := by decide +kernel
theorem dX4_follow_80 : decode cX4_follow 80 = .ok (.aload_n 1, 1) := by decide +kernel
theorem dX4_follow_81 : decode cX4_follow 81 = .ok (.getfield 54, 3) := by decide +kernel
theorem dX4_follow_84 : decode cX4_follow 84 = .ok (.invokevirtual 59, 3) := by decide +kernel
theorem dX4_follow_87 : decode cX4_follow 87 = .ok (.iconst 0, 1) := by decide +kernel
theorem dX4_follow_88 : decode cX4_follow 88 = .ok (.istore 5, 2) := by decide +kernel
theorem dX4_follow_90 : decode cX4_follow 90 = .ok (.iload 5, 2) := by decide +kernel
theorem dX4_follow_92 : decode cX4_follow 92 = .ok (.bipush 8, 2) := by decide +kernel
theorem dX4_follow_94 : decode cX4_follow 94 = .ok (.if_icmp .ge 44, 3) := by decide +kernel
theorem dX4_follow_97 : decode cX4_follow 97 = .ok (.aload_n 0, 1) := by decide +kernel
theorem dX4_follow_98 : decode cX4_follow 98 = .ok (.getfield 12, 3) := by decide +kernel
theorem dX4_follow_101 : decode cX4_follow 101 = .ok (.iload 5, 2) := by decide +kernel
theorem dX4_follow_103 : decode cX4_follow 103 = .ok (.invokevirtual 38, 3) := by decide +kernel
theorem dX4_follow_106 : decode cX4_follow 106 = .ok (.ifCond .eq 32, 3) := by decide +kernel
theorem dX4_follow_109 : decode cX4_follow 109 = .ok (.aload_n 0, 1) := by decide +kernel
theorem dX4_follow_110 : decode cX4_follow 110 = .ok (.getfield 18, 3) := by decide +kernel
theorem dX4_follow_113 : decode cX4_follow 113 = .ok (.iload 4, 2) := by decide +kernel
theorem dX4_follow_115 : decode cX4_follow 115 = .ok (.bipush 8, 2) := by decide +kernel
theorem dX4_follow_117 : decode cX4_follow 117 = .ok (.imul, 1) := by decide +kernel
theorem dX4_follow_118 : decode cX4_follow 118 = .ok (.iload 5, 2) := by decide +kernel
theorem dX4_follow_120 : decode cX4_follow 120 = .ok (.iadd, 1) := by decide +kernel
theorem dX4_follow_121 : decode cX4_follow 121 = .ok (.aload_n 0, 1) := by decide +kernel
theorem dX4_follow_122 : decode cX4_follow 122 = .ok (.getfield 12, 3) := by decide +kernel
theorem dX4_follow_125 : decode cX4_follow 125 = .ok (.getfield 45, 3) := by decide +kernel
theorem dX4_follow_128 : decode cX4_follow 128 = .ok (.iload 5, 2) := by decide +kernel
theorem dX4_follow_130 : decode cX4_follow 130 = .ok (.iaload, 1) := by decide +kernel
theorem dX4_follow_131 : decode cX4_follow 131 = .ok (.iastore, 1) := by decide +kernel
theorem dX4_follow_132 : decode cX4_follow 132 = .ok (.iinc 5 1, 3) := by decide +kernel
theorem dX4_follow_135 : decode cX4_follow 135 = .ok (.goto (-45), 3) := by decide +kernel
theorem dX4_follow_138 : decode cX4_follow 138 = .ok (.return_, 1) := by decide +kernel
theorem dX4_isRest_0 : decode cX4_isRest 0 = .ok (.iconst 0, 1) := by decide +kernel
theorem dX4_isRest_1 : decode cX4_isRest 1 = .ok (.istore_n 3, 1) := by decide +kernel
theorem dX4_isRest_2 : decode cX4_isRest 2 = .ok (.iload_n 3, 1) := by decide +kernel
theorem dX4_isRest_3 : decode cX4_isRest 3 = .ok (.iload_n 2, 1) := by decide +kernel
theorem dX4_isRest_4 : decode cX4_isRest 4 = .ok (.if_icmp .ge 50, 3) := by decide +kernel
theorem dX4_isRest_7 : decode cX4_isRest 7 = .ok (.iload_n 3, 1) := by decide +kernel
theorem dX4_isRest_8 : decode cX4_isRest 8 = .ok (.bipush 8, 2) := by decide +kernel
theorem dX4_isRest_10 : decode cX4_isRest 10 = .ok (.if_icmp .ge 44, 3) := by decide +kernel
theorem dX4_isRest_13 : decode cX4_isRest 13 = .ok (.iload_n 1, 1) := by decide +kernel
theorem dX4_isRest_14 : decode cX4_isRest 14 = .ok (.iconst 1, 1) := by decide +kernel
theorem dX4_isRest_15 : decode cX4_isRest 15 = .ok (.iload_n 3, 1) := by decide +kernel
theorem dX4_isRest_16 : decode cX4_isRest 16 = .ok (.ishl, 1) := by decide +kernel
theorem dX4_isRest_17 : decode cX4_isRest 17 = .ok (.ixor, 1) := by decide +kernel
theorem dX4_isRest_18 : decode cX4_isRest 18 = .ok (.istore 4, 2) := by decide +kernel
theorem dX4_isRest_20 : decode cX4_isRest 20 = .ok (.aload_n 0, 1) := by decide +kernel
theorem dX4_isRest_21 : decode cX4_isRest 21 = .ok (.getfield 18, 3) := by decide +kernel
theorem dX4_isRest_24 : decode cX4_isRest 24 = .ok (.iload 4, 2) := by decide +kernel
theorem dX4_isRest_26 : decode cX4_isRest 26 = .ok (.bipush 8, 2) := by decide +kernel
theorem dX4_isRest_28 : decode cX4_isRest 28 = .ok (.imul, 1) := by decide +kernel
theorem dX4_isRest_29 : decode cX4_isRest 29 = .ok (.iload_n 3, 1) := by decide +kernel
theorem dX4_isRest_30 : decode cX4_isRest 30 = .ok (.iadd, 1) := by decide +kernel
theorem dX4_isRest_31 : decode cX4_isRest 31 = .ok (.iaload, 1) := by decide +kernel
theorem dX4_isRest_32 : decode cX4_isRest 32 = .ok (.aload_n 0, 1) := by decide +kernel
theorem dX4_isRest_33 : decode cX4_isRest 33 = .ok (.getfield 18, 3) := by decide +kernel
theorem dX4_isRest_36 : decode cX4_isRest 36 = .ok (.iload_n 1, 1) := by decide +kernel
theorem dX4_isRest_37 : decode cX4_isRest 37 = .ok (.bipush 8, 2) := by decide +kernel
theorem dX4_isRest_39 : decode cX4_isRest 39 = .ok (.imul, 1) := by decide +kernel
theorem dX4_isRest_40 : decode cX4_isRest 40 = .ok (.iload_n 3, 1) := by decide +kernel
theorem dX4_isRest_41 : decode cX4_isRest 41 = .ok (.iadd, 1) := by decide +kernel
theorem dX4_isRest_42 : decode cX4_isRest 42 = .ok (.iaload, 1) := by decide +kernel
theorem dX4_isRest_43 : decode cX4_isRest 43 = .ok (.if_icmp .le 5, 3) := by decide +kernel
theorem dX4_isRest_46 : decode cX4_isRest 46 = .ok (.iconst 0, 1) := by decide +kernel
theorem dX4_isRest_47 : decode cX4_isRest 47 = .ok (.ireturn, 1) := by decide +kernel
theorem dX4_isRest_48 : decode cX4_isRest 48 = .ok (.iinc 3 1, 3) := by decide +kernel
theorem dX4_isRest_51 : decode cX4_isRest 51 = .ok (.goto (-49), 3) := by decide +kernel
theorem dX4_isRest_54 : decode cX4_isRest 54 = .ok (.iconst 1, 1) := by decide +kernel
theorem dX4_isRest_55 : decode cX4_isRest 55 = .ok (.ireturn, 1) := by decide +kernel
theorem dX5_init_0 : decode cX5_init 0 = .ok (.aload_n 0, 1) := by decide +kernel
theorem dX5_init_1 : decode cX5_init 1 = .ok (.invokespecial 3, 3) := by decide +kernel
theorem dX5_init_4 : decode cX5_init 4 = .ok (.aload_n 0, 1) := by decide +kernel
theorem dX5_init_5 : decode cX5_init 5 = .ok (.new 9, 3) := by decide +kernel
theorem dX5_init_8 : decode cX5_init 8 = .ok (.dup, 1) := by decide +kernel
theorem dX5_init_9 : decode cX5_init 9 = .ok (.invokespecial 11, 3) := by decide +kernel
theorem dX5_init_12 : decode cX5_init 12 = .ok (.putfield 12, 3) := by decide +kernel
theorem dX5_init_15 : decode cX5_init 15 = .ok (.aload_n 0, 1) := by decide +kernel
theorem dX5_init_16 : decode cX5_init 16 = .ok (.bipush 10, 2) := by decide +kernel
theorem dX5_init_18 : decode cX5_init 18 = .ok (.newarray .long, 2) := by decide +kernel
theorem dX5_init_20 : decode cX5_init 20 = .ok (.putfield 18, 3) := by decide +kernel
theorem dX5_init_23 : decode cX5_init 23 = .ok (.aload_n 0, 1) := by decide +kernel
theorem dX5_init_24 : decode cX5_init 24 = .ok (.bipush 21, 2) := by decide +kernel
theorem dX5_init_26 : decode cX5_init 26 = .ok (.newarray .int, 2) := by decide +kernel
theorem dX5_init_28 : decode cX5_init 28 = .ok (.putfield 22, 3) := by decide +kernel
theorem dX5_init_31 : decode cX5_init 31 = .ok (.return_, 1) := by decide +kernel
theorem dX5_faultPlace_0 : decode cX5_faultPlace 0 = .ok (.aload_n 0, 1) := by decide +kernel
theorem dX5_faultPlace_1 : decode cX5_faultPlace 1 = .ok (.getfield 26, 3) := by decide +kernel
theorem dX5_faultPlace_4 : decode cX5_faultPlace 4 = .ok (.ireturn, 1) := by decide +kernel
theorem dX5_parse_0 : decode cX5_parse 0 = .ok (.aload_n 0, 1) := by decide +kernel
theorem dX5_parse_1 : decode cX5_parse 1 = .ok (.getfield 12, 3) := by decide +kernel
theorem dX5_parse_4 : decode cX5_parse 4 = .ok (.aload_n 1, 1) := by decide +kernel
theorem dX5_parse_5 : decode cX5_parse 5 = .ok (.invokevirtual 30, 3) := by decide +kernel
theorem dX5_parse_8 : decode cX5_parse 8 = .ok (.aload_n 2, 1) := by decide +kernel
theorem dX5_parse_9 : decode cX5_parse 9 = .ok (.invokevirtual 34, 3) := by decide +kernel
theorem dX5_parse_12 : decode cX5_parse 12 = .ok (.aload_n 0, 1) := by decide +kernel
theorem dX5_parse_13 : decode cX5_parse 13 = .ok (.iconst 0, 1) := by decide +kernel
theorem dX5_parse_14 : decode cX5_parse 14 = .ok (.putfield 39, 3) := by decide +kernel
theorem dX5_parse_17 : decode cX5_parse 17 = .ok (.aload_n 0, 1) := by decide +kernel
theorem dX5_parse_18 : decode cX5_parse 18 = .ok (.iconst 0, 1) := by decide +kernel
theorem dX5_parse_19 : decode cX5_parse 19 = .ok (.putfield 42, 3) := by decide +kernel
theorem dX5_parse_22 : decode cX5_parse 22 = .ok (.aload_n 0, 1) := by decide +kernel
theorem dX5_parse_23 : decode cX5_parse 23 = .ok (.iconst (-1), 1) := by decide +kernel
theorem dX5_parse_24 : decode cX5_parse 24 = .ok (.putfield 26, 3) := by decide +kernel
theorem dX5_parse_27 : decode cX5_parse 27 = .ok (.aload_n 0, 1) := by decide +kernel
theorem dX5_parse_28 : decode cX5_parse 28 = .ok (.iconst 0, 1) := by decide +kernel
theorem dX5_parse_29 : decode cX5_parse 29 = .ok (.putfield 45, 3) := by decide +kernel
theorem dX5_parse_32 : decode cX5_parse 32 = .ok (.aload_n 0, 1) := by decide +kernel
theorem dX5_parse_33 : decode cX5_parse 33 = .ok (.iconst (-1), 1) := by decide +kernel
theorem dX5_parse_34 : decode cX5_parse 34 = .ok (.putfield 48, 3) := by decide +kernel
theorem dX5_parse_37 : decode cX5_parse 37 = .ok (.iconst 0, 1) := by decide +kernel
theorem dX5_parse_38 : decode cX5_parse 38 = .ok (.istore_n 3, 1) := by decide +kernel
theorem dX5_parse_39 : decode cX5_parse 39 = .ok (.iload_n 3, 1) := by decide +kernel
theorem dX5_parse_40 : decode cX5_parse 40 = .ok (.sipush 400, 3) := by decide +kernel
theorem dX5_parse_43 : decode cX5_parse 43 = .ok (.if_icmp .gt 202, 3) := by decide +kernel
theorem dX5_parse_46 : decode cX5_parse 46 = .ok (.aload_n 0, 1) := by decide +kernel
theorem dX5_parse_47 : decode cX5_parse 47 = .ok (.getfield 42, 3) := by decide +kernel
theorem dX5_parse_50 : decode cX5_parse 50 = .ok (.ifCond .ne 195, 3) := by decide +kernel
theorem dX5_parse_53 : decode cX5_parse 53 = .ok (.aload_n 0, 1) := by decide +kernel
theorem dX5_parse_54 : decode cX5_parse 54 = .ok (.getfield 12, 3) := by decide +kernel
theorem dX5_parse_57 : decode cX5_parse 57 = .ok (.aload_n 0, 1) := by decide +kernel
theorem dX5_parse_58 : decode cX5_parse 58 = .ok (.getfield 39, 3) := by decide +kernel
theorem dX5_parse_61 : decode cX5_parse 61 = .ok (.invokevirtual 51, 3) := by decide +kernel
theorem dX5_parse_64 : decode cX5_parse 64 = .ok (.ifCond .eq 181, 3) := by decide +kernel
theorem dX5_parse_67 : decode cX5_parse 67 = .ok (.aload_n 0, 1) := by decide +kernel
theorem dX5_parse_68 : decode cX5_parse 68 = .ok (.getfield 12, 3) := by decide +kernel
theorem dX5_parse_71 : decode cX5_parse 71 = .ok (.aload_n 0, 1) := by decide +kernel
theorem dX5_parse_72 : decode cX5_parse 72 = .ok (.getfield 39, 3) := by decide +kernel
theorem dX5_parse_75 : decode cX5_parse 75 = .ok (.invokevirtual 51, 3) := by decide +kernel
theorem dX5_parse_78 : decode cX5_parse 78 = .ok (.tableswitch 152 100 106 #[42, 50, 80, 110, 123, 136, 144], 42) := by decide +kernel
theorem dX5_parse_120 : decode cX5_parse 120 = .ok (.aload_n 0, 1) := by decide +kernel
theorem dX5_parse_121 : decode cX5_parse 121 = .ok (.aload_n 2, 1) := by decide +kernel
theorem dX5_parse_122 : decode cX5_parse 122 = .ok (.invokevirtual 55, 3) := by decide +kernel
theorem dX5_parse_125 : decode cX5_parse 125 = .ok (.goto 114, 3) := by decide +kernel
theorem dX5_parse_128 : decode cX5_parse 128 = .ok (.aload_n 2, 1) := by decide +kernel
theorem dX5_parse_129 : decode cX5_parse 129 = .ok (.aload_n 0, 1) := by decide +kernel
theorem dX5_parse_130 : decode cX5_parse 130 = .ok (.bipush 101, 2) := by decide +kernel
theorem dX5_parse_132 : decode cX5_parse 132 = .ok (.invokevirtual 59, 3) := by decide +kernel
theorem dX5_parse_135 : decode cX5_parse 135 = .ok (.ifCond .eq 16, 3) := by decide +kernel
theorem dX5_parse_138 : decode cX5_parse 138 = .ok (.aload_n 0, 1) := by decide +kernel
theorem dX5_parse_139 : decode cX5_parse 139 = .ok (.bipush 59, 2) := by decide +kernel
theorem dX5_parse_141 : decode cX5_parse 141 = .ok (.invokevirtual 59, 3) := by decide +kernel
theorem dX5_parse_144 : decode cX5_parse 144 = .ok (.ifCond .eq 7, 3) := by decide +kernel
theorem dX5_parse_147 : decode cX5_parse 147 = .ok (.iconst 1, 1) := by decide +kernel
theorem dX5_parse_148 : decode cX5_parse 148 = .ok (.goto 4, 3) := by decide +kernel
theorem dX5_parse_151 : decode cX5_parse 151 = .ok (.iconst 0, 1) := by decide +kernel
theorem dX5_parse_152 : decode cX5_parse 152 = .ok (.putfield 63, 3) := by decide +kernel
theorem dX5_parse_155 : decode cX5_parse 155 = .ok (.goto 84, 3) := by decide +kernel
theorem dX5_parse_158 : decode cX5_parse 158 = .ok (.aload_n 2, 1) := by decide +kernel
theorem dX5_parse_159 : decode cX5_parse 159 = .ok (.aload_n 0, 1) := by decide +kernel
theorem dX5_parse_160 : decode cX5_parse 160 = .ok (.bipush 102, 2) := by decide +kernel
theorem dX5_parse_162 : decode cX5_parse 162 = .ok (.invokevirtual 59, 3) := by decide +kernel
theorem dX5_parse_165 : decode cX5_parse 165 = .ok (.ifCond .eq 16, 3) := by decide +kernel
theorem dX5_parse_168 : decode cX5_parse 168 = .ok (.aload_n 0, 1) := by decide +kernel
theorem dX5_parse_169 : decode cX5_parse 169 = .ok (.bipush 59, 2) := by decide +kernel
theorem dX5_parse_171 : decode cX5_parse 171 = .ok (.invokevirtual 59, 3) := by decide +kernel
theorem dX5_parse_174 : decode cX5_parse 174 = .ok (.ifCond .eq 7, 3) := by decide +kernel
theorem dX5_parse_177 : decode cX5_parse 177 = .ok (.iconst 1, 1) := by decide +kernel
theorem dX5_parse_178 : decode cX5_parse 178 = .ok (.goto 4, 3) := by decide +kernel
theorem dX5_parse_181 : decode cX5_parse 181 = .ok (.iconst 0, 1) := by decide +kernel
theorem dX5_parse_182 : decode cX5_parse 182 = .ok (.putfield 67, 3) := by decide +kernel
theorem dX5_parse_185 : decode cX5_parse 185 = .ok (.goto 54, 3) := by decide +kernel
theorem dX5_parse_188 : decode cX5_parse 188 = .ok (.aload_n 0, 1) := by decide +kernel
theorem dX5_parse_189 : decode cX5_parse 189 = .ok (.bipush 103, 2) := by decide +kernel
theorem dX5_parse_191 : decode cX5_parse 191 = .ok (.aload_n 2, 1) := by decide +kernel
theorem dX5_parse_192 : decode cX5_parse 192 = .ok (.getfield 70, 3) := by decide +kernel
theorem dX5_parse_195 : decode cX5_parse 195 = .ok (.invokevirtual 74, 3) := by decide +kernel
theorem dX5_parse_198 : decode cX5_parse 198 = .ok (.goto 41, 3) := by decide +kernel
theorem dX5_parse_201 : decode cX5_parse 201 = .ok (.aload_n 0, 1) := by decide +kernel
theorem dX5_parse_202 : decode cX5_parse 202 = .ok (.bipush 104, 2) := by decide +kernel
theorem dX5_parse_204 : decode cX5_parse 204 = .ok (.aload_n 2, 1) := by decide +kernel
theorem dX5_parse_205 : decode cX5_parse 205 = .ok (.getfield 78, 3) := by decide +kernel
theorem dX5_parse_208 : decode cX5_parse 208 = .ok (.invokevirtual 74, 3) := by decide +kernel
theorem dX5_parse_211 : decode cX5_parse 211 = .ok (.goto 28, 3) := by decide +kernel
theorem dX5_parse_214 : decode cX5_parse 214 = .ok (.aload_n 0, 1) := by decide +kernel
theorem dX5_parse_215 : decode cX5_parse 215 = .ok (.aload_n 2, 1) := by decide +kernel
theorem dX5_parse_216 : decode cX5_parse 216 = .ok (.invokevirtual 81, 3) := by decide +kernel
theorem dX5_parse_219 : decode cX5_parse 219 = .ok (.goto 20, 3) := by decide +kernel
theorem dX5_parse_222 : decode cX5_parse 222 = .ok (.aload_n 0, 1) := by decide +kernel
theorem dX5_parse_223 : decode cX5_parse 223 = .ok (.aload_n 2, 1) := by decide +kernel
theorem dX5_parse_224 : decode cX5_parse 224 = .ok (.invokevirtual 84, 3) := by decide +kernel
theorem dX5_parse_227 : decode cX5_parse 227 = .ok (.goto 12, 3) := by decide +kernel
theorem dX5_parse_230 : decode cX5_parse 230 = .ok (.aload_n 0, 1) := by decide +kernel
theorem dX5_parse_231 : decode cX5_parse 231 = .ok (.aload_n 0, 1) := by decide +kernel
theorem dX5_parse_232 : decode cX5_parse 232 = .ok (.getfield 39, 3) := by decide +kernel
theorem dX5_parse_235 : decode cX5_parse 235 = .ok (.iconst 1, 1) := by decide +kernel
theorem dX5_parse_236 : decode cX5_parse 236 = .ok (.invokevirtual 87, 3) := by decide +kernel
theorem dX5_parse_239 : decode cX5_parse 239 = .ok (.iinc 3 1, 3) := by decide +kernel
theorem dX5_parse_242 : decode cX5_parse 242 = .ok (.goto (-203), 3) := by decide +kernel
theorem dX5_parse_245 : decode cX5_parse 245 = .ok (.aload_n 0, 1) := by decide +kernel
theorem dX5_parse_246 : decode cX5_parse 246 = .ok (.getfield 42, 3) := by decide +kernel
theorem dX5_parse_249 : decode cX5_parse 249 = .ok (.ifCond .eq 8, 3) := by decide +kernel
theorem dX5_parse_252 : decode cX5_parse 252 = .ok (.aload_n 0, 1) := by decide +kernel
theorem dX5_parse_253 : decode cX5_parse 253 = .ok (.getfield 42, 3) := by decide +kernel
theorem dX5_parse_256 : decode cX5_parse 256 = .ok (.ireturn, 1) := by decide +kernel
theorem dX5_parse_257 : decode cX5_parse 257 = .ok (.aload_n 0, 1) := by decide +kernel
theorem dX5_parse_258 : decode cX5_parse 258 = .ok (.aload_n 0, 1) := by decide +kernel
theorem dX5_parse_259 : decode cX5_parse 259 = .ok (.getfield 48, 3) := by decide +kernel
theorem dX5_parse_262 : decode cX5_parse 262 = .ok (.putfield 26, 3) := by decide +kernel
theorem dX5_parse_265 : decode cX5_parse 265 = .ok (.aload_n 0, 1) := by decide +kernel
theorem dX5_parse_266 : decode cX5_parse 266 = .ok (.getfield 45, 3) := by decide +kernel
theorem dX5_parse_269 : decode cX5_parse 269 = .ok (.ireturn, 1) := by decide +kernel
theorem dX5_tellHouse_0 : decode cX5_tellHouse 0 = .ok (.aload_n 1, 1) := by decide +kernel
theorem dX5_tellHouse_1 : decode cX5_tellHouse 1 = .ok (.getfield 91, 3) := by decide +kernel
theorem dX5_tellHouse_4 : decode cX5_tellHouse 4 = .ok (.bipush 10, 2) := by decide +kernel
theorem dX5_tellHouse_6 : decode cX5_tellHouse 6 = .ok (.if_icmp .lt 13, 3) := by decide +kernel
theorem dX5_tellHouse_9 : decode cX5_tellHouse 9 = .ok (.aload_n 0, 1) := by decide +kernel
theorem dX5_tellHouse_10 : decode cX5_tellHouse 10 = .ok (.aload_n 0, 1) := by decide +kernel
theorem dX5_tellHouse_11 : decode cX5_tellHouse 11 = .ok (.getfield 39, 3) := by decide +kernel
theorem dX5_tellHouse_14 : decode cX5_tellHouse 14 = .ok (.iconst 2, 1) := by decide +kernel
theorem dX5_tellHouse_15 : decode cX5_tellHouse 15 = .ok (.invokevirtual 87, 3) := by decide +kernel
theorem dX5_tellHouse_18 : decode cX5_tellHouse 18 = .ok (.return_, 1) := by decide +kernel
theorem dX5_tellHouse_19 : decode cX5_tellHouse 19 = .ok (.aload_n 0, 1) := by decide +kernel
theorem dX5_tellHouse_20 : decode cX5_tellHouse 20 = .ok (.getfield 39, 3) := by decide +kernel
theorem dX5_tellHouse_23 : decode cX5_tellHouse 23 = .ok (.iconst 1, 1) := by decide +kernel
theorem dX5_tellHouse_24 : decode cX5_tellHouse 24 = .ok (.iadd, 1) := by decide +kernel
theorem dX5_tellHouse_25 : decode cX5_tellHouse 25 = .ok (.istore_n 2, 1) := by decide +kernel
theorem dX5_tellHouse_26 : decode cX5_tellHouse 26 = .ok (.aload_n 0, 1) := by decide +kernel
theorem dX5_tellHouse_27 : decode cX5_tellHouse 27 = .ok (.getfield 39, 3) := by decide +kernel
theorem dX5_tellHouse_30 : decode cX5_tellHouse 30 = .ok (.iconst 2, 1) := by decide +kernel
theorem dX5_tellHouse_31 : decode cX5_tellHouse 31 = .ok (.iadd, 1) := by decide +kernel
theorem dX5_tellHouse_32 : decode cX5_tellHouse 32 = .ok (.istore_n 3, 1) := by decide +kernel
theorem dX5_tellHouse_33 : decode cX5_tellHouse 33 = .ok (.aload_n 0, 1) := by decide +kernel
theorem dX5_tellHouse_34 : decode cX5_tellHouse 34 = .ok (.bipush 100, 2) := by decide +kernel
theorem dX5_tellHouse_36 : decode cX5_tellHouse 36 = .ok (.invokevirtual 59, 3) := by decide +kernel
theorem dX5_tellHouse_39 : decode cX5_tellHouse 39 = .ok (.ifCond .eq 28, 3) := by decide +kernel
theorem dX5_tellHouse_42 : decode cX5_tellHouse 42 = .ok (.aload_n 0, 1) := by decide +kernel
theorem dX5_tellHouse_43 : decode cX5_tellHouse 43 = .ok (.iconst 2, 1) := by decide +kernel
theorem dX5_tellHouse_44 : decode cX5_tellHouse 44 = .ok (.invokevirtual 59, 3) := by decide +kernel
theorem dX5_tellHouse_47 : decode cX5_tellHouse 47 = .ok (.ifCond .eq 20, 3) := by decide +kernel
theorem dX5_tellHouse_50 : decode cX5_tellHouse 50 = .ok (.aload_n 0, 1) := by decide +kernel
theorem dX5_tellHouse_51 : decode cX5_tellHouse 51 = .ok (.iconst 3, 1) := by decide +kernel
theorem dX5_tellHouse_52 : decode cX5_tellHouse 52 = .ok (.invokevirtual 59, 3) := by decide +kernel
theorem dX5_tellHouse_55 : decode cX5_tellHouse 55 = .ok (.ifCond .eq 12, 3) := by decide +kernel
theorem dX5_tellHouse_58 : decode cX5_tellHouse 58 = .ok (.aload_n 0, 1) := by decide +kernel
theorem dX5_tellHouse_59 : decode cX5_tellHouse 59 = .ok (.bipush 59, 2) := by decide +kernel
theorem dX5_tellHouse_61 : decode cX5_tellHouse 61 = .ok (.invokevirtual 59, 3) := by decide +kernel
theorem dX5_tellHouse_64 : decode cX5_tellHouse 64 = .ok (.ifCond .ne 4, 3) := by decide +kernel
theorem dX5_tellHouse_67 : decode cX5_tellHouse 67 = .ok (.return_, 1) := by decide +kernel
theorem dX5_tellHouse_68 : decode cX5_tellHouse 68 = .ok (.iconst 0, 1) := by decide +kernel
theorem dX5_tellHouse_69 : decode cX5_tellHouse 69 = .ok (.istore 4, 2) := by decide +kernel
theorem dX5_tellHouse_71 : decode cX5_tellHouse 71 = .ok (.iload 4, 2) := by decide +kernel
theorem dX5_tellHouse_73 : decode cX5_tellHouse 73 = .ok (.aload_n 1, 1) := by decide +kernel
theorem dX5_tellHouse_74 : decode cX5_tellHouse 74 = .ok (.getfield 91, 3) := by decide +kernel
theorem dX5_tellHouse_77 : decode cX5_tellHouse 77 = .ok (.if_icmp .ge 44, 3) := by decide +kernel
theorem dX5_tellHouse_80 : decode cX5_tellHouse 80 = .ok (.iload 4, 2) := by decide +kernel
theorem dX5_tellHouse_82 : decode cX5_tellHouse 82 = .ok (.aload_n 0, 1) := by decide +kernel
theorem dX5_tellHouse_83 : decode cX5_tellHouse 83 = .ok (.getfield 18, 3) := by decide +kernel
theorem dX5_tellHouse_86 : decode cX5_tellHouse 86 = .ok (.arraylength, 1) := by decide +kernel
theorem dX5_tellHouse_87 : decode cX5_tellHouse 87 = .ok (.if_icmp .ge 34, 3) := by decide +kernel
theorem dX5_tellHouse_90 : decode cX5_tellHouse 90 = .ok (.aload_n 0, 1) := by decide +kernel
theorem dX5_tellHouse_91 : decode cX5_tellHouse 91 = .ok (.getfield 18, 3) := by decide +kernel
theorem dX5_tellHouse_94 : decode cX5_tellHouse 94 = .ok (.iload 4, 2) := by decide +kernel
theorem dX5_tellHouse_96 : decode cX5_tellHouse 96 = .ok (.laload, 1) := by decide +kernel
theorem dX5_tellHouse_97 : decode cX5_tellHouse 97 = .ok (.aload_n 0, 1) := by decide +kernel
theorem dX5_tellHouse_98 : decode cX5_tellHouse 98 = .ok (.getfield 12, 3) := by decide +kernel
theorem dX5_tellHouse_101 : decode cX5_tellHouse 101 = .ok (.iload_n 2, 1) := by decide +kernel
theorem dX5_tellHouse_102 : decode cX5_tellHouse 102 = .ok (.invokevirtual 94, 3) := by decide +kernel
theorem dX5_tellHouse_105 : decode cX5_tellHouse 105 = .ok (.lcmp, 1) := by decide +kernel
theorem dX5_tellHouse_106 : decode cX5_tellHouse 106 = .ok (.ifCond .ne 9, 3) := by decide +kernel
theorem dX5_tellHouse_109 : decode cX5_tellHouse 109 = .ok (.aload_n 0, 1) := by decide +kernel
theorem dX5_tellHouse_110 : decode cX5_tellHouse 110 = .ok (.iload_n 2, 1) := by decide +kernel
theorem dX5_tellHouse_111 : decode cX5_tellHouse 111 = .ok (.iconst 3, 1) := by decide +kernel
theorem dX5_tellHouse_112 : decode cX5_tellHouse 112 = .ok (.invokevirtual 98, 3) := by decide +kernel
theorem dX5_tellHouse_115 : decode cX5_tellHouse 115 = .ok (.iinc 4 1, 3) := by decide +kernel
theorem dX5_tellHouse_118 : decode cX5_tellHouse 118 = .ok (.goto (-47), 3) := by decide +kernel
theorem dX5_tellHouse_121 : decode cX5_tellHouse 121 = .ok (.aload_n 1, 1) := by decide +kernel
theorem dX5_tellHouse_122 : decode cX5_tellHouse 122 = .ok (.getfield 91, 3) := by decide +kernel
theorem dX5_tellHouse_125 : decode cX5_tellHouse 125 = .ok (.ifCond .lt 32, 3) := by decide +kernel
theorem dX5_tellHouse_128 : decode cX5_tellHouse 128 = .ok (.aload_n 1, 1) := by decide +kernel
theorem dX5_tellHouse_129 : decode cX5_tellHouse 129 = .ok (.getfield 91, 3) := by decide +kernel
theorem dX5_tellHouse_132 : decode cX5_tellHouse 132 = .ok (.aload_n 0, 1) := by decide +kernel
theorem dX5_tellHouse_133 : decode cX5_tellHouse 133 = .ok (.getfield 18, 3) := by decide +kernel
theorem dX5_tellHouse_136 : decode cX5_tellHouse 136 = .ok (.arraylength, 1) := by decide +kernel
theorem dX5_tellHouse_137 : decode cX5_tellHouse 137 = .ok (.if_icmp .ge 20, 3) := by decide +kernel
theorem dX5_tellHouse_140 : decode cX5_tellHouse 140 = .ok (.aload_n 0, 1) := by decide +kernel
theorem dX5_tellHouse_141 : decode cX5_tellHouse 141 = .ok (.getfield 18, 3) := by decide +kernel
theorem dX5_tellHouse_144 : decode cX5_tellHouse 144 = .ok (.aload_n 1, 1) := by decide +kernel
theorem dX5_tellHouse_145 : decode cX5_tellHouse 145 = .ok (.getfield 91, 3) := by decide +kernel
theorem dX5_tellHouse_148 : decode cX5_tellHouse 148 = .ok (.aload_n 0, 1) := by decide +kernel
theorem dX5_tellHouse_149 : decode cX5_tellHouse 149 = .ok (.getfield 12, 3) := by decide +kernel
theorem dX5_tellHouse_152 : decode cX5_tellHouse 152 = .ok (.iload_n 2, 1) := by decide +kernel
theorem dX5_tellHouse_153 : decode cX5_tellHouse 153 = .ok (.invokevirtual 94, 3) := by decide +kernel
theorem dX5_tellHouse_156 : decode cX5_tellHouse 156 = .ok (.lastore, 1) := by decide +kernel
theorem dX5_tellHouse_157 : decode cX5_tellHouse 157 = .ok (.aload_n 1, 1) := by decide +kernel
theorem dX5_tellHouse_158 : decode cX5_tellHouse 158 = .ok (.aload_n 0, 1) := by decide +kernel
theorem dX5_tellHouse_159 : decode cX5_tellHouse 159 = .ok (.getfield 12, 3) := by decide +kernel
theorem dX5_tellHouse_162 : decode cX5_tellHouse 162 = .ok (.iload_n 3, 1) := by decide +kernel
theorem dX5_tellHouse_163 : decode cX5_tellHouse 163 = .ok (.invokevirtual 94, 3) := by decide +kernel
theorem dX5_tellHouse_166 : decode cX5_tellHouse 166 = .ok (.l2i, 1) := by decide +kernel
theorem dX5_tellHouse_167 : decode cX5_tellHouse 167 = .ok (.invokevirtual 101, 3) := by decide +kernel
theorem dX5_tellHouse_170 : decode cX5_tellHouse 170 = .ok (.return_, 1) := by decide +kernel
theorem dX5_tellShared_0 : decode cX5_tellShared 0 = .ok (.aload_n 0, 1) := by decide +kernel
theorem dX5_tellShared_1 : decode cX5_tellShared 1 = .ok (.getfield 12, 3) := by decide +kernel
theorem dX5_tellShared_4 : decode cX5_tellShared 4 = .ok (.aload_n 0, 1) := by decide +kernel
theorem dX5_tellShared_5 : decode cX5_tellShared 5 = .ok (.getfield 39, 3) := by decide +kernel
theorem dX5_tellShared_8 : decode cX5_tellShared 8 = .ok (.iconst 1, 1) := by decide +kernel
theorem dX5_tellShared_9 : decode cX5_tellShared 9 = .ok (.iadd, 1) := by decide +kernel
theorem dX5_tellShared_10 : decode cX5_tellShared 10 = .ok (.invokevirtual 51, 3) := by decide +kernel
theorem dX5_tellShared_13 : decode cX5_tellShared 13 = .ok (.istore_n 2, 1) := by decide +kernel
theorem dX5_tellShared_14 : decode cX5_tellShared 14 = .ok (.aload_n 0, 1) := by decide +kernel
theorem dX5_tellShared_15 : decode cX5_tellShared 15 = .ok (.getfield 39, 3) := by decide +kernel
theorem dX5_tellShared_18 : decode cX5_tellShared 18 = .ok (.iconst 2, 1) := by decide +kernel
theorem dX5_tellShared_19 : decode cX5_tellShared 19 = .ok (.iadd, 1) := by decide +kernel
theorem dX5_tellShared_20 : decode cX5_tellShared 20 = .ok (.istore_n 3, 1) := by decide +kernel
theorem dX5_tellShared_21 : decode cX5_tellShared 21 = .ok (.aload_n 0, 1) := by decide +kernel
theorem dX5_tellShared_22 : decode cX5_tellShared 22 = .ok (.bipush 105, 2) := by decide +kernel
theorem dX5_tellShared_24 : decode cX5_tellShared 24 = .ok (.invokevirtual 59, 3) := by decide +kernel
theorem dX5_tellShared_27 : decode cX5_tellShared 27 = .ok (.ifCond .ne 4, 3) := by decide +kernel
theorem dX5_tellShared_30 : decode cX5_tellShared 30 = .ok (.return_, 1) := by decide +kernel
theorem dX5_tellShared_31 : decode cX5_tellShared 31 = .ok (.iload_n 2, 1) := by decide +kernel
theorem dX5_tellShared_32 : decode cX5_tellShared 32 = .ok (.bipush 110, 2) := by decide +kernel
theorem dX5_tellShared_34 : decode cX5_tellShared 34 = .ok (.if_icmp .eq 24, 3) := by decide +kernel
theorem dX5_tellShared_37 : decode cX5_tellShared 37 = .ok (.iload_n 2, 1) := by decide +kernel
theorem dX5_tellShared_38 : decode cX5_tellShared 38 = .ok (.bipush 111, 2) := by decide +kernel
theorem dX5_tellShared_40 : decode cX5_tellShared 40 = .ok (.if_icmp .eq 18, 3) := by decide +kernel
theorem dX5_tellShared_43 : decode cX5_tellShared 43 = .ok (.iload_n 2, 1) := by decide +kernel
theorem dX5_tellShared_44 : decode cX5_tellShared 44 = .ok (.bipush 112, 2) := by decide +kernel
theorem dX5_tellShared_46 : decode cX5_tellShared 46 = .ok (.if_icmp .eq 12, 3) := by decide +kernel
theorem dX5_tellShared_49 : decode cX5_tellShared 49 = .ok (.aload_n 0, 1) := by decide +kernel
theorem dX5_tellShared_50 : decode cX5_tellShared 50 = .ok (.aload_n 0, 1) := by decide +kernel
theorem dX5_tellShared_51 : decode cX5_tellShared 51 = .ok (.getfield 39, 3) := by decide +kernel
theorem dX5_tellShared_54 : decode cX5_tellShared 54 = .ok (.iconst 1, 1) := by decide +kernel
theorem dX5_tellShared_55 : decode cX5_tellShared 55 = .ok (.invokevirtual 87, 3) := by decide +kernel
theorem dX5_tellShared_58 : decode cX5_tellShared 58 = .ok (.aload_n 0, 1) := by decide +kernel
theorem dX5_tellShared_59 : decode cX5_tellShared 59 = .ok (.iload_n 2, 1) := by decide +kernel
theorem dX5_tellShared_60 : decode cX5_tellShared 60 = .ok (.invokevirtual 59, 3) := by decide +kernel
theorem dX5_tellShared_63 : decode cX5_tellShared 63 = .ok (.ifCond .eq 20, 3) := by decide +kernel
theorem dX5_tellShared_66 : decode cX5_tellShared 66 = .ok (.aload_n 0, 1) := by decide +kernel
theorem dX5_tellShared_67 : decode cX5_tellShared 67 = .ok (.iconst 3, 1) := by decide +kernel
theorem dX5_tellShared_68 : decode cX5_tellShared 68 = .ok (.invokevirtual 59, 3) := by decide +kernel
theorem dX5_tellShared_71 : decode cX5_tellShared 71 = .ok (.ifCond .eq 12, 3) := by decide +kernel
theorem dX5_tellShared_74 : decode cX5_tellShared 74 = .ok (.aload_n 0, 1) := by decide +kernel
theorem dX5_tellShared_75 : decode cX5_tellShared 75 = .ok (.bipush 59, 2) := by decide +kernel
theorem dX5_tellShared_77 : decode cX5_tellShared 77 = .ok (.invokevirtual 59, 3) := by decide +kernel
theorem dX5_tellShared_80 : decode cX5_tellShared 80 = .ok (.ifCond .ne 4, 3) := by decide +kernel
theorem dX5_tellShared_83 : decode cX5_tellShared 83 = .ok (.return_, 1) := by decide +kernel
theorem dX5_tellShared_84 : decode cX5_tellShared 84 = .ok (.aload_n 0, 1) := by decide +kernel
theorem dX5_tellShared_85 : decode cX5_tellShared 85 = .ok (.getfield 12, 3) := by decide +kernel
theorem dX5_tellShared_88 : decode cX5_tellShared 88 = .ok (.iload_n 3, 1) := by decide +kernel
theorem dX5_tellShared_89 : decode cX5_tellShared 89 = .ok (.invokevirtual 94, 3) := by decide +kernel
theorem dX5_tellShared_92 : decode cX5_tellShared 92 = .ok (.l2i, 1) := by decide +kernel
theorem dX5_tellShared_93 : decode cX5_tellShared 93 = .ok (.istore 4, 2) := by decide +kernel
theorem dX5_tellShared_95 : decode cX5_tellShared 95 = .ok (.iload 4, 2) := by decide +kernel
theorem dX5_tellShared_97 : decode cX5_tellShared 97 = .ok (.iconst 1, 1) := by decide +kernel
theorem dX5_tellShared_98 : decode cX5_tellShared 98 = .ok (.if_icmp .lt 10, 3) := by decide +kernel
theorem dX5_tellShared_101 : decode cX5_tellShared 101 = .ok (.iload 4, 2) := by decide +kernel
theorem dX5_tellShared_103 : decode cX5_tellShared 103 = .ok (.bipush 30, 2) := by decide +kernel
theorem dX5_tellShared_105 : decode cX5_tellShared 105 = .ok (.if_icmp .le 12, 3) := by decide +kernel
theorem dX5_tellShared_108 : decode cX5_tellShared 108 = .ok (.aload_n 0, 1) := by decide +kernel
theorem dX5_tellShared_109 : decode cX5_tellShared 109 = .ok (.iload_n 3, 1) := by decide +kernel
theorem dX5_tellShared_110 : decode cX5_tellShared 110 = .ok (.iconst 5, 1) := by decide +kernel
theorem dX5_tellShared_111 : decode cX5_tellShared 111 = .ok (.invokevirtual 98, 3) := by decide +kernel
theorem dX5_tellShared_114 : decode cX5_tellShared 114 = .ok (.goto 13, 3) := by decide +kernel
theorem dX5_tellShared_117 : decode cX5_tellShared 117 = .ok (.aload_n 1, 1) := by decide +kernel
theorem dX5_tellShared_118 : decode cX5_tellShared 118 = .ok (.iload_n 2, 1) := by decide +kernel
theorem dX5_tellShared_119 : decode cX5_tellShared 119 = .ok (.bipush 110, 2) := by decide +kernel
theorem dX5_tellShared_121 : decode cX5_tellShared 121 = .ok (.isub, 1) := by decide +kernel
theorem dX5_tellShared_122 : decode cX5_tellShared 122 = .ok (.iload 4, 2) := by decide +kernel
theorem dX5_tellShared_124 : decode cX5_tellShared 124 = .ok (.invokevirtual 105, 3) := by decide +kernel
theorem dX5_tellShared_127 : decode cX5_tellShared 127 = .ok (.return_, 1) := by decide +kernel
theorem dX5_tellSeed_0 : decode cX5_tellSeed 0 = .ok (.aload_n 0, 1) := by decide +kernel
theorem dX5_tellSeed_1 : decode cX5_tellSeed 1 = .ok (.getfield 39, 3) := by decide +kernel
theorem dX5_tellSeed_4 : decode cX5_tellSeed 4 = .ok (.iconst 1, 1) := by decide +kernel
theorem dX5_tellSeed_5 : decode cX5_tellSeed 5 = .ok (.iadd, 1) := by decide +kernel
theorem dX5_tellSeed_6 : decode cX5_tellSeed 6 = .ok (.istore_n 2, 1) := by decide +kernel
theorem dX5_tellSeed_7 : decode cX5_tellSeed 7 = .ok (.aload_n 0, 1) := by decide +kernel
theorem dX5_tellSeed_8 : decode cX5_tellSeed 8 = .ok (.bipush 106, 2) := by decide +kernel
theorem dX5_tellSeed_10 : decode cX5_tellSeed 10 = .ok (.invokevirtual 59, 3) := by decide +kernel
theorem dX5_tellSeed_13 : decode cX5_tellSeed 13 = .ok (.ifCond .eq 33, 3) := by decide +kernel
theorem dX5_tellSeed_16 : decode cX5_tellSeed 16 = .ok (.aload_n 0, 1) := by decide +kernel
theorem dX5_tellSeed_17 : decode cX5_tellSeed 17 = .ok (.iconst 3, 1) := by decide +kernel
theorem dX5_tellSeed_18 : decode cX5_tellSeed 18 = .ok (.invokevirtual 59, 3) := by decide +kernel
theorem dX5_tellSeed_21 : decode cX5_tellSeed 21 = .ok (.ifCond .eq 25, 3) := by decide +kernel
theorem dX5_tellSeed_24 : decode cX5_tellSeed 24 = .ok (.aload_n 0, 1) := by decide +kernel
theorem dX5_tellSeed_25 : decode cX5_tellSeed 25 = .ok (.bipush 59, 2) := by decide +kernel
theorem dX5_tellSeed_27 : decode cX5_tellSeed 27 = .ok (.invokevirtual 59, 3) := by decide +kernel
theorem dX5_tellSeed_30 : decode cX5_tellSeed 30 = .ok (.ifCond .eq 16, 3) := by decide +kernel
theorem dX5_tellSeed_33 : decode cX5_tellSeed 33 = .ok (.aload_n 1, 1) := by decide +kernel
theorem dX5_tellSeed_34 : decode cX5_tellSeed 34 = .ok (.aload_n 0, 1) := by decide +kernel
theorem dX5_tellSeed_35 : decode cX5_tellSeed 35 = .ok (.getfield 12, 3) := by decide +kernel
theorem dX5_tellSeed_38 : decode cX5_tellSeed 38 = .ok (.iload_n 2, 1) := by decide +kernel
theorem dX5_tellSeed_39 : decode cX5_tellSeed 39 = .ok (.invokevirtual 94, 3) := by decide +kernel
theorem dX5_tellSeed_42 : decode cX5_tellSeed 42 = .ok (.l2i, 1) := by decide +kernel
theorem dX5_tellSeed_43 : decode cX5_tellSeed 43 = .ok (.putfield 108, 3) := by decide +kernel
theorem dX5_tellSeed_46 : decode cX5_tellSeed 46 = .ok (.return_, 1) := by decide +kernel
theorem dX5_tellLaw_0 : decode cX5_tellLaw 0 = .ok (.aload_n 2, 1) := by decide +kernel
theorem dX5_tellLaw_1 : decode cX5_tellLaw 1 = .ok (.invokevirtual 111, 3) := by decide +kernel
theorem dX5_tellLaw_4 : decode cX5_tellLaw 4 = .ok (.aload_n 0, 1) := by decide +kernel
theorem dX5_tellLaw_5 : decode cX5_tellLaw 5 = .ok (.iload_n 1, 1) := by decide +kernel
theorem dX5_tellLaw_6 : decode cX5_tellLaw 6 = .ok (.invokevirtual 59, 3) := by decide +kernel
theorem dX5_tellLaw_9 : decode cX5_tellLaw 9 = .ok (.ifCond .eq 12, 3) := by decide +kernel
theorem dX5_tellLaw_12 : decode cX5_tellLaw 12 = .ok (.aload_n 0, 1) := by decide +kernel
theorem dX5_tellLaw_13 : decode cX5_tellLaw 13 = .ok (.bipush 61, 2) := by decide +kernel
theorem dX5_tellLaw_15 : decode cX5_tellLaw 15 = .ok (.invokevirtual 59, 3) := by decide +kernel
theorem dX5_tellLaw_18 : decode cX5_tellLaw 18 = .ok (.ifCond .ne 4, 3) := by decide +kernel
theorem dX5_tellLaw_21 : decode cX5_tellLaw 21 = .ok (.return_, 1) := by decide +kernel
theorem dX5_tellLaw_22 : decode cX5_tellLaw 22 = .ok (.iconst 0, 1) := by decide +kernel
theorem dX5_tellLaw_23 : decode cX5_tellLaw 23 = .ok (.istore_n 3, 1) := by decide +kernel
theorem dX5_tellLaw_24 : decode cX5_tellLaw 24 = .ok (.iload_n 3, 1) := by decide +kernel
theorem dX5_tellLaw_25 : decode cX5_tellLaw 25 = .ok (.iconst 4, 1) := by decide +kernel
theorem dX5_tellLaw_26 : decode cX5_tellLaw 26 = .ok (.if_icmp .gt 54, 3) := by decide +kernel
theorem dX5_tellLaw_29 : decode cX5_tellLaw 29 = .ok (.aload_n 0, 1) := by decide +kernel
theorem dX5_tellLaw_30 : decode cX5_tellLaw 30 = .ok (.getfield 42, 3) := by decide +kernel
theorem dX5_tellLaw_33 : decode cX5_tellLaw 33 = .ok (.ifCond .ne 47, 3) := by decide +kernel
theorem dX5_tellLaw_36 : decode cX5_tellLaw 36 = .ok (.aload_n 0, 1) := by decide +kernel
theorem dX5_tellLaw_37 : decode cX5_tellLaw 37 = .ok (.getfield 12, 3) := by decide +kernel
theorem dX5_tellLaw_40 : decode cX5_tellLaw 40 = .ok (.aload_n 0, 1) := by decide +kernel
theorem dX5_tellLaw_41 : decode cX5_tellLaw 41 = .ok (.getfield 39, 3) := by decide +kernel
theorem dX5_tellLaw_44 : decode cX5_tellLaw 44 = .ok (.invokevirtual 51, 3) := by decide +kernel
theorem dX5_tellLaw_47 : decode cX5_tellLaw 47 = .ok (.bipush 107, 2) := by decide +kernel
theorem dX5_tellLaw_49 : decode cX5_tellLaw 49 = .ok (.if_icmp .ne 31, 3) := by decide +kernel
theorem dX5_tellLaw_52 : decode cX5_tellLaw 52 = .ok (.iload_n 3, 1) := by decide +kernel
theorem dX5_tellLaw_53 : decode cX5_tellLaw 53 = .ok (.iconst 4, 1) := by decide +kernel
theorem dX5_tellLaw_54 : decode cX5_tellLaw 54 = .ok (.if_icmp .ne 15, 3) := by decide +kernel
theorem dX5_tellLaw_57 : decode cX5_tellLaw 57 = .ok (.aload_n 0, 1) := by decide +kernel
theorem dX5_tellLaw_58 : decode cX5_tellLaw 58 = .ok (.aload_n 0, 1) := by decide +kernel
theorem dX5_tellLaw_59 : decode cX5_tellLaw 59 = .ok (.getfield 39, 3) := by decide +kernel
theorem dX5_tellLaw_62 : decode cX5_tellLaw 62 = .ok (.iconst 2, 1) := by decide +kernel
theorem dX5_tellLaw_63 : decode cX5_tellLaw 63 = .ok (.invokevirtual 87, 3) := by decide +kernel
theorem dX5_tellLaw_66 : decode cX5_tellLaw 66 = .ok (.goto 8, 3) := by decide +kernel
theorem dX5_tellLaw_69 : decode cX5_tellLaw 69 = .ok (.aload_n 0, 1) := by decide +kernel
theorem dX5_tellLaw_70 : decode cX5_tellLaw 70 = .ok (.aload_n 2, 1) := by decide +kernel
theorem dX5_tellLaw_71 : decode cX5_tellLaw 71 = .ok (.invokevirtual 114, 3) := by decide +kernel
theorem dX5_tellLaw_74 : decode cX5_tellLaw 74 = .ok (.iinc 3 1, 3) := by decide +kernel
theorem dX5_tellLaw_77 : decode cX5_tellLaw 77 = .ok (.goto (-53), 3) := by decide +kernel
theorem dX5_tellLaw_80 : decode cX5_tellLaw 80 = .ok (.aload_n 0, 1) := by decide +kernel
theorem dX5_tellLaw_81 : decode cX5_tellLaw 81 = .ok (.aload_n 2, 1) := by decide +kernel
theorem dX5_tellLaw_82 : decode cX5_tellLaw 82 = .ok (.invokevirtual 118, 3) := by decide +kernel
theorem dX5_tellLaw_85 : decode cX5_tellLaw 85 = .ok (.aload_n 2, 1) := by decide +kernel
theorem dX5_tellLaw_86 : decode cX5_tellLaw 86 = .ok (.iconst 4, 1) := by decide +kernel
theorem dX5_tellLaw_87 : decode cX5_tellLaw 87 = .ok (.iconst 0, 1) := by decide +kernel
theorem dX5_tellLaw_88 : decode cX5_tellLaw 88 = .ok (.invokevirtual 121, 3) := by decide +kernel
theorem dX5_tellLaw_91 : decode cX5_tellLaw 91 = .ok (.aload_n 0, 1) := by decide +kernel
theorem dX5_tellLaw_92 : decode cX5_tellLaw 92 = .ok (.bipush 59, 2) := by decide +kernel
theorem dX5_tellLaw_94 : decode cX5_tellLaw 94 = .ok (.invokevirtual 59, 3) := by decide +kernel
theorem dX5_tellLaw_97 : decode cX5_tellLaw 97 = .ok (.pop, 1) := by decide +kernel
theorem dX5_tellLaw_98 : decode cX5_tellLaw 98 = .ok (.return_, 1) := by decide +kernel
theorem dX5_readBranch_0 : decode cX5_readBranch 0 = .ok (.aload_n 0, 1) := by decide +kernel
theorem dX5_readBranch_1 : decode cX5_readBranch 1 = .ok (.bipush 107, 2) := by decide +kernel
theorem dX5_readBranch_3 : decode cX5_readBranch 3 = .ok (.invokevirtual 59, 3) := by decide +kernel
theorem dX5_readBranch_6 : decode cX5_readBranch 6 = .ok (.pop, 1) := by decide +kernel
theorem dX5_readBranch_7 : decode cX5_readBranch 7 = .ok (.aload_n 0, 1) := by decide +kernel
theorem dX5_readBranch_8 : decode cX5_readBranch 8 = .ok (.aload_n 1, 1) := by decide +kernel
theorem dX5_readBranch_9 : decode cX5_readBranch 9 = .ok (.invokevirtual 118, 3) := by decide +kernel
theorem dX5_readBranch_12 : decode cX5_readBranch 12 = .ok (.aload_n 0, 1) := by decide +kernel
theorem dX5_readBranch_13 : decode cX5_readBranch 13 = .ok (.bipush 60, 2) := by decide +kernel
theorem dX5_readBranch_15 : decode cX5_readBranch 15 = .ok (.invokevirtual 59, 3) := by decide +kernel
theorem dX5_readBranch_18 : decode cX5_readBranch 18 = .ok (.pop, 1) := by decide +kernel
theorem dX5_readBranch_19 : decode cX5_readBranch 19 = .ok (.aload_n 0, 1) := by decide +kernel
theorem dX5_readBranch_20 : decode cX5_readBranch 20 = .ok (.aload_n 1, 1) := by decide +kernel
theorem dX5_readBranch_21 : decode cX5_readBranch 21 = .ok (.invokevirtual 118, 3) := by decide +kernel
theorem dX5_readBranch_24 : decode cX5_readBranch 24 = .ok (.aload_n 1, 1) := by decide +kernel
theorem dX5_readBranch_25 : decode cX5_readBranch 25 = .ok (.getfield 124, 3) := by decide +kernel
theorem dX5_readBranch_28 : decode cX5_readBranch 28 = .ok (.istore_n 2, 1) := by decide +kernel
theorem dX5_readBranch_29 : decode cX5_readBranch 29 = .ok (.aload_n 1, 1) := by decide +kernel
theorem dX5_readBranch_30 : decode cX5_readBranch 30 = .ok (.iconst 3, 1) := by decide +kernel
theorem dX5_readBranch_31 : decode cX5_readBranch 31 = .ok (.iconst 0, 1) := by decide +kernel
theorem dX5_readBranch_32 : decode cX5_readBranch 32 = .ok (.invokevirtual 121, 3) := by decide +kernel
theorem dX5_readBranch_35 : decode cX5_readBranch 35 = .ok (.aload_n 0, 1) := by decide +kernel
theorem dX5_readBranch_36 : decode cX5_readBranch 36 = .ok (.bipush 108, 2) := by decide +kernel
theorem dX5_readBranch_38 : decode cX5_readBranch 38 = .ok (.invokevirtual 59, 3) := by decide +kernel
theorem dX5_readBranch_41 : decode cX5_readBranch 41 = .ok (.pop, 1) := by decide +kernel
theorem dX5_readBranch_42 : decode cX5_readBranch 42 = .ok (.aload_n 0, 1) := by decide +kernel
theorem dX5_readBranch_43 : decode cX5_readBranch 43 = .ok (.aload_n 1, 1) := by decide +kernel
theorem dX5_readBranch_44 : decode cX5_readBranch 44 = .ok (.invokevirtual 118, 3) := by decide +kernel
theorem dX5_readBranch_47 : decode cX5_readBranch 47 = .ok (.aload_n 1, 1) := by decide +kernel
theorem dX5_readBranch_48 : decode cX5_readBranch 48 = .ok (.iconst 4, 1) := by decide +kernel
theorem dX5_readBranch_49 : decode cX5_readBranch 49 = .ok (.iconst 0, 1) := by decide +kernel
theorem dX5_readBranch_50 : decode cX5_readBranch 50 = .ok (.invokevirtual 121, 3) := by decide +kernel
theorem dX5_readBranch_53 : decode cX5_readBranch 53 = .ok (.aload_n 0, 1) := by decide +kernel
theorem dX5_readBranch_54 : decode cX5_readBranch 54 = .ok (.bipush 109, 2) := by decide +kernel
theorem dX5_readBranch_56 : decode cX5_readBranch 56 = .ok (.invokevirtual 59, 3) := by decide +kernel
theorem dX5_readBranch_59 : decode cX5_readBranch 59 = .ok (.pop, 1) := by decide +kernel
theorem dX5_readBranch_60 : decode cX5_readBranch 60 = .ok (.aload_n 1, 1) := by decide +kernel
theorem dX5_readBranch_61 : decode cX5_readBranch 61 = .ok (.iload_n 2, 1) := by decide +kernel
theorem dX5_readBranch_62 : decode cX5_readBranch 62 = .ok (.invokevirtual 127, 3) := by decide +kernel
theorem dX5_readBranch_65 : decode cX5_readBranch 65 = .ok (.return_, 1) := by decide +kernel
theorem dX5_readSum_0 : decode cX5_readSum 0 = .ok (.aload_n 0, 1) := by decide +kernel
theorem dX5_readSum_1 : decode cX5_readSum 1 = .ok (.iconst 0, 1) := by decide +kernel
theorem dX5_readSum_2 : decode cX5_readSum 2 = .ok (.putfield 130, 3) := by decide +kernel
theorem dX5_readSum_5 : decode cX5_readSum 5 = .ok (.aload_n 0, 1) := by decide +kernel
theorem dX5_readSum_6 : decode cX5_readSum 6 = .ok (.iconst 0, 1) := by decide +kernel
theorem dX5_readSum_7 : decode cX5_readSum 7 = .ok (.putfield 133, 3) := by decide +kernel
theorem dX5_readSum_10 : decode cX5_readSum 10 = .ok (.iconst 1, 1) := by decide +kernel
theorem dX5_readSum_11 : decode cX5_readSum 11 = .ok (.istore_n 2, 1) := by decide +kernel
theorem dX5_readSum_12 : decode cX5_readSum 12 = .ok (.iconst 0, 1) := by decide +kernel
theorem dX5_readSum_13 : decode cX5_readSum 13 = .ok (.istore_n 3, 1) := by decide +kernel
theorem dX5_readSum_14 : decode cX5_readSum 14 = .ok (.iload_n 3, 1) := by decide +kernel
theorem dX5_readSum_15 : decode cX5_readSum 15 = .ok (.sipush 400, 3) := by decide +kernel
theorem dX5_readSum_18 : decode cX5_readSum 18 = .ok (.if_icmp .gt 95, 3) := by decide +kernel
theorem dX5_readSum_21 : decode cX5_readSum 21 = .ok (.aload_n 0, 1) := by decide +kernel
theorem dX5_readSum_22 : decode cX5_readSum 22 = .ok (.getfield 42, 3) := by decide +kernel
theorem dX5_readSum_25 : decode cX5_readSum 25 = .ok (.ifCond .ne 88, 3) := by decide +kernel
theorem dX5_readSum_28 : decode cX5_readSum 28 = .ok (.aload_n 0, 1) := by decide +kernel
theorem dX5_readSum_29 : decode cX5_readSum 29 = .ok (.getfield 12, 3) := by decide +kernel
theorem dX5_readSum_32 : decode cX5_readSum 32 = .ok (.aload_n 0, 1) := by decide +kernel
theorem dX5_readSum_33 : decode cX5_readSum 33 = .ok (.getfield 39, 3) := by decide +kernel
theorem dX5_readSum_36 : decode cX5_readSum 36 = .ok (.invokevirtual 51, 3) := by decide +kernel
theorem dX5_readSum_39 : decode cX5_readSum 39 = .ok (.istore 4, 2) := by decide +kernel
theorem dX5_readSum_41 : decode cX5_readSum 41 = .ok (.iload_n 2, 1) := by decide +kernel
theorem dX5_readSum_42 : decode cX5_readSum 42 = .ok (.ifCond .eq 26, 3) := by decide +kernel
theorem dX5_readSum_45 : decode cX5_readSum 45 = .ok (.iload 4, 2) := by decide +kernel
theorem dX5_readSum_47 : decode cX5_readSum 47 = .ok (.bipush 40, 2) := by decide +kernel
theorem dX5_readSum_49 : decode cX5_readSum 49 = .ok (.if_icmp .ne 7, 3) := by decide +kernel
theorem dX5_readSum_52 : decode cX5_readSum 52 = .ok (.iconst 1, 1) := by decide +kernel
theorem dX5_readSum_53 : decode cX5_readSum 53 = .ok (.goto 4, 3) := by decide +kernel
theorem dX5_readSum_56 : decode cX5_readSum 56 = .ok (.iconst 0, 1) := by decide +kernel
theorem dX5_readSum_57 : decode cX5_readSum 57 = .ok (.istore_n 2, 1) := by decide +kernel
theorem dX5_readSum_58 : decode cX5_readSum 58 = .ok (.aload_n 0, 1) := by decide +kernel
theorem dX5_readSum_59 : decode cX5_readSum 59 = .ok (.aload_n 1, 1) := by decide +kernel
theorem dX5_readSum_60 : decode cX5_readSum 60 = .ok (.iload 4, 2) := by decide +kernel
theorem dX5_readSum_62 : decode cX5_readSum 62 = .ok (.invokevirtual 136, 3) := by decide +kernel
theorem dX5_readSum_65 : decode cX5_readSum 65 = .ok (.goto 42, 3) := by decide +kernel
theorem dX5_readSum_68 : decode cX5_readSum 68 = .ok (.iload 4, 2) := by decide +kernel
theorem dX5_readSum_70 : decode cX5_readSum 70 = .ok (.bipush 41, 2) := by decide +kernel
theorem dX5_readSum_72 : decode cX5_readSum 72 = .ok (.if_icmp .ne 18, 3) := by decide +kernel
theorem dX5_readSum_75 : decode cX5_readSum 75 = .ok (.aload_n 0, 1) := by decide +kernel
theorem dX5_readSum_76 : decode cX5_readSum 76 = .ok (.getfield 133, 3) := by decide +kernel
theorem dX5_readSum_79 : decode cX5_readSum 79 = .ok (.ifCond .le 11, 3) := by decide +kernel
theorem dX5_readSum_82 : decode cX5_readSum 82 = .ok (.aload_n 0, 1) := by decide +kernel
theorem dX5_readSum_83 : decode cX5_readSum 83 = .ok (.aload_n 1, 1) := by decide +kernel
theorem dX5_readSum_84 : decode cX5_readSum 84 = .ok (.invokevirtual 140, 3) := by decide +kernel
theorem dX5_readSum_87 : decode cX5_readSum 87 = .ok (.goto 20, 3) := by decide +kernel
theorem dX5_readSum_90 : decode cX5_readSum 90 = .ok (.iload 4, 2) := by decide +kernel
theorem dX5_readSum_92 : decode cX5_readSum 92 = .ok (.invokestatic 143, 3) := by decide +kernel
theorem dX5_readSum_95 : decode cX5_readSum 95 = .ok (.ifCond .le 18, 3) := by decide +kernel
theorem dX5_readSum_98 : decode cX5_readSum 98 = .ok (.aload_n 0, 1) := by decide +kernel
theorem dX5_readSum_99 : decode cX5_readSum 99 = .ok (.aload_n 1, 1) := by decide +kernel
theorem dX5_readSum_100 : decode cX5_readSum 100 = .ok (.iload 4, 2) := by decide +kernel
theorem dX5_readSum_102 : decode cX5_readSum 102 = .ok (.invokevirtual 146, 3) := by decide +kernel
theorem dX5_readSum_105 : decode cX5_readSum 105 = .ok (.iconst 1, 1) := by decide +kernel
theorem dX5_readSum_106 : decode cX5_readSum 106 = .ok (.istore_n 2, 1) := by decide +kernel
theorem dX5_readSum_107 : decode cX5_readSum 107 = .ok (.iinc 3 1, 3) := by decide +kernel
theorem dX5_readSum_110 : decode cX5_readSum 110 = .ok (.goto (-96), 3) := by decide +kernel
theorem dX5_readSum_113 : decode cX5_readSum 113 = .ok (.aload_n 0, 1) := by decide +kernel
theorem dX5_readSum_114 : decode cX5_readSum 114 = .ok (.getfield 133, 3) := by decide +kernel
theorem dX5_readSum_117 : decode cX5_readSum 117 = .ok (.ifCond .le 12, 3) := by decide +kernel
theorem dX5_readSum_120 : decode cX5_readSum 120 = .ok (.aload_n 0, 1) := by decide +kernel
theorem dX5_readSum_121 : decode cX5_readSum 121 = .ok (.aload_n 0, 1) := by decide +kernel
theorem dX5_readSum_122 : decode cX5_readSum 122 = .ok (.getfield 39, 3) := by decide +kernel
theorem dX5_readSum_125 : decode cX5_readSum 125 = .ok (.iconst 1, 1) := by decide +kernel
theorem dX5_readSum_126 : decode cX5_readSum 126 = .ok (.invokevirtual 87, 3) := by decide +kernel
theorem dX5_readSum_129 : decode cX5_readSum 129 = .ok (.aload_n 0, 1) := by decide +kernel
theorem dX5_readSum_130 : decode cX5_readSum 130 = .ok (.aload_n 1, 1) := by decide +kernel
theorem dX5_readSum_131 : decode cX5_readSum 131 = .ok (.iconst 1, 1) := by decide +kernel
theorem dX5_readSum_132 : decode cX5_readSum 132 = .ok (.invokevirtual 149, 3) := by decide +kernel
theorem dX5_readSum_135 : decode cX5_readSum 135 = .ok (.return_, 1) := by decide +kernel
theorem dX5_readUnit_0 : decode cX5_readUnit 0 = .ok (.iload_n 2, 1) := by decide +kernel
theorem dX5_readUnit_1 : decode cX5_readUnit 1 = .ok (.bipush 40, 2) := by decide +kernel
theorem dX5_readUnit_3 : decode cX5_readUnit 3 = .ok (.if_icmp .ne 47, 3) := by decide +kernel
theorem dX5_readUnit_6 : decode cX5_readUnit 6 = .ok (.aload_n 0, 1) := by decide +kernel
theorem dX5_readUnit_7 : decode cX5_readUnit 7 = .ok (.getfield 133, 3) := by decide +kernel
theorem dX5_readUnit_10 : decode cX5_readUnit 10 = .ok (.bipush 6, 2) := by decide +kernel
theorem dX5_readUnit_12 : decode cX5_readUnit 12 = .ok (.if_icmp .lt 12, 3) := by decide +kernel
theorem dX5_readUnit_15 : decode cX5_readUnit 15 = .ok (.aload_n 0, 1) := by decide +kernel
theorem dX5_readUnit_16 : decode cX5_readUnit 16 = .ok (.aload_n 0, 1) := by decide +kernel
theorem dX5_readUnit_17 : decode cX5_readUnit 17 = .ok (.getfield 39, 3) := by decide +kernel
theorem dX5_readUnit_20 : decode cX5_readUnit 20 = .ok (.iconst 2, 1) := by decide +kernel
theorem dX5_readUnit_21 : decode cX5_readUnit 21 = .ok (.invokevirtual 87, 3) := by decide +kernel
theorem dX5_readUnit_24 : decode cX5_readUnit 24 = .ok (.aload_n 0, 1) := by decide +kernel
theorem dX5_readUnit_25 : decode cX5_readUnit 25 = .ok (.dup, 1) := by decide +kernel
theorem dX5_readUnit_26 : decode cX5_readUnit 26 = .ok (.getfield 133, 3) := by decide +kernel
theorem dX5_readUnit_29 : decode cX5_readUnit 29 = .ok (.iconst 1, 1) := by decide +kernel
theorem dX5_readUnit_30 : decode cX5_readUnit 30 = .ok (.iadd, 1) := by decide +kernel
theorem dX5_readUnit_31 : decode cX5_readUnit 31 = .ok (.putfield 133, 3) := by decide +kernel
theorem dX5_readUnit_34 : decode cX5_readUnit 34 = .ok (.aload_n 0, 1) := by decide +kernel
theorem dX5_readUnit_35 : decode cX5_readUnit 35 = .ok (.bipush 40, 2) := by decide +kernel
theorem dX5_readUnit_37 : decode cX5_readUnit 37 = .ok (.invokevirtual 152, 3) := by decide +kernel
theorem dX5_readUnit_40 : decode cX5_readUnit 40 = .ok (.aload_n 0, 1) := by decide +kernel
theorem dX5_readUnit_41 : decode cX5_readUnit 41 = .ok (.bipush 40, 2) := by decide +kernel
theorem dX5_readUnit_43 : decode cX5_readUnit 43 = .ok (.invokevirtual 59, 3) := by decide +kernel
theorem dX5_readUnit_46 : decode cX5_readUnit 46 = .ok (.pop, 1) := by decide +kernel
theorem dX5_readUnit_47 : decode cX5_readUnit 47 = .ok (.goto 56, 3) := by decide +kernel
theorem dX5_readUnit_50 : decode cX5_readUnit 50 = .ok (.iload_n 2, 1) := by decide +kernel
theorem dX5_readUnit_51 : decode cX5_readUnit 51 = .ok (.bipush 113, 2) := by decide +kernel
theorem dX5_readUnit_53 : decode cX5_readUnit 53 = .ok (.if_icmp .lt 27, 3) := by decide +kernel
theorem dX5_readUnit_56 : decode cX5_readUnit 56 = .ok (.iload_n 2, 1) := by decide +kernel
theorem dX5_readUnit_57 : decode cX5_readUnit 57 = .ok (.bipush 119, 2) := by decide +kernel
theorem dX5_readUnit_59 : decode cX5_readUnit 59 = .ok (.if_icmp .gt 21, 3) := by decide +kernel
theorem dX5_readUnit_62 : decode cX5_readUnit 62 = .ok (.aload_n 1, 1) := by decide +kernel
theorem dX5_readUnit_63 : decode cX5_readUnit 63 = .ok (.iconst 2, 1) := by decide +kernel
theorem dX5_readUnit_64 : decode cX5_readUnit 64 = .ok (.iload_n 2, 1) := by decide +kernel
theorem dX5_readUnit_65 : decode cX5_readUnit 65 = .ok (.bipush 113, 2) := by decide +kernel
theorem dX5_readUnit_67 : decode cX5_readUnit 67 = .ok (.isub, 1) := by decide +kernel
theorem dX5_readUnit_68 : decode cX5_readUnit 68 = .ok (.invokevirtual 121, 3) := by decide +kernel
theorem dX5_readUnit_71 : decode cX5_readUnit 71 = .ok (.aload_n 0, 1) := by decide +kernel
theorem dX5_readUnit_72 : decode cX5_readUnit 72 = .ok (.iload_n 2, 1) := by decide +kernel
theorem dX5_readUnit_73 : decode cX5_readUnit 73 = .ok (.invokevirtual 59, 3) := by decide +kernel
theorem dX5_readUnit_76 : decode cX5_readUnit 76 = .ok (.pop, 1) := by decide +kernel
theorem dX5_readUnit_77 : decode cX5_readUnit 77 = .ok (.goto 26, 3) := by decide +kernel
theorem dX5_readUnit_80 : decode cX5_readUnit 80 = .ok (.aload_n 1, 1) := by decide +kernel
theorem dX5_readUnit_81 : decode cX5_readUnit 81 = .ok (.iconst 1, 1) := by decide +kernel
theorem dX5_readUnit_82 : decode cX5_readUnit 82 = .ok (.aload_n 0, 1) := by decide +kernel
theorem dX5_readUnit_83 : decode cX5_readUnit 83 = .ok (.getfield 12, 3) := by decide +kernel
theorem dX5_readUnit_86 : decode cX5_readUnit 86 = .ok (.aload_n 0, 1) := by decide +kernel
theorem dX5_readUnit_87 : decode cX5_readUnit 87 = .ok (.getfield 39, 3) := by decide +kernel
theorem dX5_readUnit_90 : decode cX5_readUnit 90 = .ok (.invokevirtual 94, 3) := by decide +kernel
theorem dX5_readUnit_93 : decode cX5_readUnit 93 = .ok (.l2i, 1) := by decide +kernel
theorem dX5_readUnit_94 : decode cX5_readUnit 94 = .ok (.invokevirtual 121, 3) := by decide +kernel
theorem dX5_readUnit_97 : decode cX5_readUnit 97 = .ok (.aload_n 0, 1) := by decide +kernel
theorem dX5_readUnit_98 : decode cX5_readUnit 98 = .ok (.iconst 3, 1) := by decide +kernel
theorem dX5_readUnit_99 : decode cX5_readUnit 99 = .ok (.invokevirtual 59, 3) := by decide +kernel
theorem dX5_readUnit_102 : decode cX5_readUnit 102 = .ok (.pop, 1) := by decide +kernel
theorem dX5_readUnit_103 : decode cX5_readUnit 103 = .ok (.return_, 1) := by decide +kernel
theorem dX5_readClose_0 : decode cX5_readClose 0 = .ok (.aload_n 0, 1) := by decide +kernel
theorem dX5_readClose_1 : decode cX5_readClose 1 = .ok (.aload_n 1, 1) := by decide +kernel
theorem dX5_readClose_2 : decode cX5_readClose 2 = .ok (.iconst 1, 1) := by decide +kernel
theorem dX5_readClose_3 : decode cX5_readClose 3 = .ok (.invokevirtual 149, 3) := by decide +kernel
theorem dX5_readClose_6 : decode cX5_readClose 6 = .ok (.aload_n 0, 1) := by decide +kernel
theorem dX5_readClose_7 : decode cX5_readClose 7 = .ok (.getfield 130, 3) := by decide +kernel
theorem dX5_readClose_10 : decode cX5_readClose 10 = .ok (.ifCond .le 13, 3) := by decide +kernel
theorem dX5_readClose_13 : decode cX5_readClose 13 = .ok (.aload_n 0, 1) := by decide +kernel
theorem dX5_readClose_14 : decode cX5_readClose 14 = .ok (.dup, 1) := by decide +kernel
theorem dX5_readClose_15 : decode cX5_readClose 15 = .ok (.getfield 130, 3) := by decide +kernel
theorem dX5_readClose_18 : decode cX5_readClose 18 = .ok (.iconst 1, 1) := by decide +kernel
theorem dX5_readClose_19 : decode cX5_readClose 19 = .ok (.isub, 1) := by decide +kernel
theorem dX5_readClose_20 : decode cX5_readClose 20 = .ok (.putfield 130, 3) := by decide +kernel
theorem dX5_readClose_23 : decode cX5_readClose 23 = .ok (.aload_n 0, 1) := by decide +kernel
theorem dX5_readClose_24 : decode cX5_readClose 24 = .ok (.dup, 1) := by decide +kernel
theorem dX5_readClose_25 : decode cX5_readClose 25 = .ok (.getfield 133, 3) := by decide +kernel
theorem dX5_readClose_28 : decode cX5_readClose 28 = .ok (.iconst 1, 1) := by decide +kernel
theorem dX5_readClose_29 : decode cX5_readClose 29 = .ok (.isub, 1) := by decide +kernel
theorem dX5_readClose_30 : decode cX5_readClose 30 = .ok (.putfield 133, 3) := by decide +kernel
theorem dX5_readClose_33 : decode cX5_readClose 33 = .ok (.aload_n 0, 1) := by decide +kernel
theorem dX5_readClose_34 : decode cX5_readClose 34 = .ok (.bipush 41, 2) := by decide +kernel
theorem dX5_readClose_36 : decode cX5_readClose 36 = .ok (.invokevirtual 59, 3) := by decide +kernel
theorem dX5_readClose_39 : decode cX5_readClose 39 = .ok (.pop, 1) := by decide +kernel
theorem dX5_readClose_40 : decode cX5_readClose 40 = .ok (.return_, 1) := by decide +kernel
theorem dX5_readSign_0 : decode cX5_readSign 0 = .ok (.aload_n 0, 1) := by decide +kernel
theorem dX5_readSign_1 : decode cX5_readSign 1 = .ok (.aload_n 1, 1) := by decide +kernel
theorem dX5_readSign_2 : decode cX5_readSign 2 = .ok (.iload_n 2, 1) := by decide +kernel
theorem dX5_readSign_3 : decode cX5_readSign 3 = .ok (.invokestatic 143, 3) := by decide +kernel
theorem dX5_readSign_6 : decode cX5_readSign 6 = .ok (.invokevirtual 149, 3) := by decide +kernel
theorem dX5_readSign_9 : decode cX5_readSign 9 = .ok (.aload_n 0, 1) := by decide +kernel
theorem dX5_readSign_10 : decode cX5_readSign 10 = .ok (.iload_n 2, 1) := by decide +kernel
theorem dX5_readSign_11 : decode cX5_readSign 11 = .ok (.invokevirtual 152, 3) := by decide +kernel
theorem dX5_readSign_14 : decode cX5_readSign 14 = .ok (.aload_n 0, 1) := by decide +kernel
theorem dX5_readSign_15 : decode cX5_readSign 15 = .ok (.iload_n 2, 1) := by decide +kernel
theorem dX5_readSign_16 : decode cX5_readSign 16 = .ok (.invokevirtual 59, 3) := by decide +kernel
theorem dX5_readSign_19 : decode cX5_readSign 19 = .ok (.pop, 1) := by decide +kernel
theorem dX5_readSign_20 : decode cX5_readSign 20 = .ok (.return_, 1) := by decide +kernel
theorem dX5_await_0 : decode cX5_await 0 = .ok (.aload_n 0, 1) := by decide +kernel
theorem dX5_await_1 : decode cX5_await 1 = .ok (.getfield 130, 3) := by decide +kernel
theorem dX5_await_4 : decode cX5_await 4 = .ok (.ifCond .lt 32, 3) := by decide +kernel
theorem dX5_await_7 : decode cX5_await 7 = .ok (.aload_n 0, 1) := by decide +kernel
theorem dX5_await_8 : decode cX5_await 8 = .ok (.getfield 130, 3) := by decide +kernel
theorem dX5_await_11 : decode cX5_await 11 = .ok (.aload_n 0, 1) := by decide +kernel
theorem dX5_await_12 : decode cX5_await 12 = .ok (.getfield 22, 3) := by decide +kernel
theorem dX5_await_15 : decode cX5_await 15 = .ok (.arraylength, 1) := by decide +kernel
theorem dX5_await_16 : decode cX5_await 16 = .ok (.if_icmp .ge 20, 3) := by decide +kernel
theorem dX5_await_19 : decode cX5_await 19 = .ok (.aload_n 0, 1) := by decide +kernel
theorem dX5_await_20 : decode cX5_await 20 = .ok (.getfield 22, 3) := by decide +kernel
theorem dX5_await_23 : decode cX5_await 23 = .ok (.aload_n 0, 1) := by decide +kernel
theorem dX5_await_24 : decode cX5_await 24 = .ok (.dup, 1) := by decide +kernel
theorem dX5_await_25 : decode cX5_await 25 = .ok (.getfield 130, 3) := by decide +kernel
theorem dX5_await_28 : decode cX5_await 28 = .ok (.dup_x1, 1) := by decide +kernel
theorem dX5_await_29 : decode cX5_await 29 = .ok (.iconst 1, 1) := by decide +kernel
theorem dX5_await_30 : decode cX5_await 30 = .ok (.iadd, 1) := by decide +kernel
theorem dX5_await_31 : decode cX5_await 31 = .ok (.putfield 130, 3) := by decide +kernel
theorem dX5_await_34 : decode cX5_await 34 = .ok (.iload_n 1, 1) := by decide +kernel
theorem dX5_await_35 : decode cX5_await 35 = .ok (.iastore, 1) := by decide +kernel
theorem dX5_await_36 : decode cX5_await 36 = .ok (.return_, 1) := by decide +kernel
theorem dX5_putSigns_0 : decode cX5_putSigns 0 = .ok (.aload_n 0, 1) := by decide +kernel
theorem dX5_putSigns_1 : decode cX5_putSigns 1 = .ok (.getfield 130, 3) := by decide +kernel
theorem dX5_putSigns_4 : decode cX5_putSigns 4 = .ok (.aload_n 0, 1) := by decide +kernel
theorem dX5_putSigns_5 : decode cX5_putSigns 5 = .ok (.getfield 22, 3) := by decide +kernel
theorem dX5_putSigns_8 : decode cX5_putSigns 8 = .ok (.arraylength, 1) := by decide +kernel
theorem dX5_putSigns_9 : decode cX5_putSigns 9 = .ok (.invokestatic 155, 3) := by decide +kernel
theorem dX5_putSigns_12 : decode cX5_putSigns 12 = .ok (.iconst 1, 1) := by decide +kernel
theorem dX5_putSigns_13 : decode cX5_putSigns 13 = .ok (.isub, 1) := by decide +kernel
theorem dX5_putSigns_14 : decode cX5_putSigns 14 = .ok (.istore_n 3, 1) := by decide +kernel
theorem dX5_putSigns_15 : decode cX5_putSigns 15 = .ok (.iload_n 3, 1) := by decide +kernel
theorem dX5_putSigns_16 : decode cX5_putSigns 16 = .ok (.ifCond .lt 38, 3) := by decide +kernel
theorem dX5_putSigns_19 : decode cX5_putSigns 19 = .ok (.aload_n 0, 1) := by decide +kernel
theorem dX5_putSigns_20 : decode cX5_putSigns 20 = .ok (.getfield 22, 3) := by decide +kernel
theorem dX5_putSigns_23 : decode cX5_putSigns 23 = .ok (.iload_n 3, 1) := by decide +kernel
theorem dX5_putSigns_24 : decode cX5_putSigns 24 = .ok (.iaload, 1) := by decide +kernel
theorem dX5_putSigns_25 : decode cX5_putSigns 25 = .ok (.invokestatic 143, 3) := by decide +kernel
theorem dX5_putSigns_28 : decode cX5_putSigns 28 = .ok (.iload_n 2, 1) := by decide +kernel
theorem dX5_putSigns_29 : decode cX5_putSigns 29 = .ok (.if_icmp .lt 25, 3) := by decide +kernel
theorem dX5_putSigns_32 : decode cX5_putSigns 32 = .ok (.aload_n 1, 1) := by decide +kernel
theorem dX5_putSigns_33 : decode cX5_putSigns 33 = .ok (.aload_n 0, 1) := by decide +kernel
theorem dX5_putSigns_34 : decode cX5_putSigns 34 = .ok (.getfield 22, 3) := by decide +kernel
theorem dX5_putSigns_37 : decode cX5_putSigns 37 = .ok (.iload_n 3, 1) := by decide +kernel
theorem dX5_putSigns_38 : decode cX5_putSigns 38 = .ok (.iaload, 1) := by decide +kernel
theorem dX5_putSigns_39 : decode cX5_putSigns 39 = .ok (.iconst 0, 1) := by decide +kernel
theorem dX5_putSigns_40 : decode cX5_putSigns 40 = .ok (.invokevirtual 121, 3) := by decide +kernel
theorem dX5_putSigns_43 : decode cX5_putSigns 43 = .ok (.aload_n 0, 1) := by decide +kernel
theorem dX5_putSigns_44 : decode cX5_putSigns 44 = .ok (.iload_n 3, 1) := by decide +kernel
theorem dX5_putSigns_45 : decode cX5_putSigns 45 = .ok (.putfield 130, 3) := by decide +kernel
theorem dX5_putSigns_48 : decode cX5_putSigns 48 = .ok (.iinc 3 (-1), 3) := by decide +kernel
theorem dX5_putSigns_51 : decode cX5_putSigns 51 = .ok (.goto (-36), 3) := by decide +kernel
theorem dX5_putSigns_54 : decode cX5_putSigns 54 = .ok (.return_, 1) := by decide +kernel
theorem dX5_bond_0 : decode cX5_bond 0 = .ok (.iload_n 0, 1) := by decide +kernel
theorem dX5_bond_1 : decode cX5_bond 1 = .ok (.bipush 42, 2) := by decide +kernel
theorem dX5_bond_3 : decode cX5_bond 3 = .ok (.if_icmp .eq 9, 3) := by decide +kernel
theorem dX5_bond_6 : decode cX5_bond 6 = .ok (.iload_n 0, 1) := by decide +kernel
theorem dX5_bond_7 : decode cX5_bond 7 = .ok (.bipush 47, 2) := by decide +kernel
theorem dX5_bond_9 : decode cX5_bond 9 = .ok (.if_icmp .ne 5, 3) := by decide +kernel
theorem dX5_bond_12 : decode cX5_bond 12 = .ok (.iconst 2, 1) := by decide +kernel
theorem dX5_bond_13 : decode cX5_bond 13 = .ok (.ireturn, 1) := by decide +kernel
theorem dX5_bond_14 : decode cX5_bond 14 = .ok (.iload_n 0, 1) := by decide +kernel
theorem dX5_bond_15 : decode cX5_bond 15 = .ok (.bipush 43, 2) := by decide +kernel
theorem dX5_bond_17 : decode cX5_bond 17 = .ok (.if_icmp .eq 9, 3) := by decide +kernel
theorem dX5_bond_20 : decode cX5_bond 20 = .ok (.iload_n 0, 1) := by decide +kernel
theorem dX5_bond_21 : decode cX5_bond 21 = .ok (.bipush 45, 2) := by decide +kernel
theorem dX5_bond_23 : decode cX5_bond 23 = .ok (.if_icmp .ne 7, 3) := by decide +kernel
theorem dX5_bond_26 : decode cX5_bond 26 = .ok (.iconst 1, 1) := by decide +kernel
theorem dX5_bond_27 : decode cX5_bond 27 = .ok (.goto 4, 3) := by decide +kernel
theorem dX5_bond_30 : decode cX5_bond 30 = .ok (.iconst 0, 1) := by decide +kernel
theorem dX5_bond_31 : decode cX5_bond 31 = .ok (.ireturn, 1) := by decide +kernel
theorem dX5_take_0 : decode cX5_take 0 = .ok (.aload_n 0, 1) := by decide +kernel
theorem dX5_take_1 : decode cX5_take 1 = .ok (.getfield 42, 3) := by decide +kernel
theorem dX5_take_4 : decode cX5_take 4 = .ok (.ifCond .eq 5, 3) := by decide +kernel
theorem dX5_take_7 : decode cX5_take 7 = .ok (.iconst 0, 1) := by decide +kernel
theorem dX5_take_8 : decode cX5_take 8 = .ok (.ireturn, 1) := by decide +kernel
theorem dX5_take_9 : decode cX5_take 9 = .ok (.aload_n 0, 1) := by decide +kernel
theorem dX5_take_10 : decode cX5_take 10 = .ok (.getfield 12, 3) := by decide +kernel
theorem dX5_take_13 : decode cX5_take 13 = .ok (.aload_n 0, 1) := by decide +kernel
theorem dX5_take_14 : decode cX5_take 14 = .ok (.getfield 39, 3) := by decide +kernel
theorem dX5_take_17 : decode cX5_take 17 = .ok (.invokevirtual 51, 3) := by decide +kernel
theorem dX5_take_20 : decode cX5_take 20 = .ok (.iload_n 1, 1) := by decide +kernel
theorem dX5_take_21 : decode cX5_take 21 = .ok (.if_icmp .ne 7, 3) := by decide +kernel
theorem dX5_take_24 : decode cX5_take 24 = .ok (.iconst 1, 1) := by decide +kernel
theorem dX5_take_25 : decode cX5_take 25 = .ok (.goto 4, 3) := by decide +kernel
theorem dX5_take_28 : decode cX5_take 28 = .ok (.iconst 0, 1) := by decide +kernel
theorem dX5_take_29 : decode cX5_take 29 = .ok (.istore_n 2, 1) := by decide +kernel
theorem dX5_take_30 : decode cX5_take 30 = .ok (.iload_n 2, 1) := by decide +kernel
theorem dX5_take_31 : decode cX5_take 31 = .ok (.ifCond .eq 25, 3) := by decide +kernel
theorem dX5_take_34 : decode cX5_take 34 = .ok (.aload_n 0, 1) := by decide +kernel
theorem dX5_take_35 : decode cX5_take 35 = .ok (.getfield 39, 3) := by decide +kernel
theorem dX5_take_38 : decode cX5_take 38 = .ok (.sipush 400, 3) := by decide +kernel
theorem dX5_take_41 : decode cX5_take 41 = .ok (.if_icmp .ge 15, 3) := by decide +kernel
theorem dX5_take_44 : decode cX5_take 44 = .ok (.aload_n 0, 1) := by decide +kernel
theorem dX5_take_45 : decode cX5_take 45 = .ok (.dup, 1) := by decide +kernel
theorem dX5_take_46 : decode cX5_take 46 = .ok (.getfield 39, 3) := by decide +kernel
theorem dX5_take_49 : decode cX5_take 49 = .ok (.iconst 1, 1) := by decide +kernel
theorem dX5_take_50 : decode cX5_take 50 = .ok (.iadd, 1) := by decide +kernel
theorem dX5_take_51 : decode cX5_take 51 = .ok (.putfield 39, 3) := by decide +kernel
theorem dX5_take_54 : decode cX5_take 54 = .ok (.iconst 1, 1) := by decide +kernel
theorem dX5_take_55 : decode cX5_take 55 = .ok (.ireturn, 1) := by decide +kernel
theorem dX5_take_56 : decode cX5_take 56 = .ok (.aload_n 0, 1) := by decide +kernel
theorem dX5_take_57 : decode cX5_take 57 = .ok (.iload_n 2, 1) := by decide +kernel
theorem dX5_take_58 : decode cX5_take 58 = .ok (.ifCond .eq 7, 3) := by decide +kernel
theorem dX5_take_61 : decode cX5_take 61 = .ok (.iconst 2, 1) := by decide +kernel
theorem dX5_take_62 : decode cX5_take 62 = .ok (.goto 4, 3) := by decide +kernel
theorem dX5_take_65 : decode cX5_take 65 = .ok (.iconst 1, 1) := by decide +kernel
theorem dX5_take_66 : decode cX5_take 66 = .ok (.putfield 42, 3) := by decide +kernel
theorem dX5_take_69 : decode cX5_take 69 = .ok (.aload_n 0, 1) := by decide +kernel
theorem dX5_take_70 : decode cX5_take 70 = .ok (.aload_n 0, 1) := by decide +kernel
theorem dX5_take_71 : decode cX5_take 71 = .ok (.getfield 12, 3) := by decide +kernel
theorem dX5_take_74 : decode cX5_take 74 = .ok (.aload_n 0, 1) := by decide +kernel
theorem dX5_take_75 : decode cX5_take 75 = .ok (.getfield 39, 3) := by decide +kernel
theorem dX5_take_78 : decode cX5_take 78 = .ok (.invokevirtual 161, 3) := by decide +kernel
theorem dX5_take_81 : decode cX5_take 81 = .ok (.putfield 26, 3) := by decide +kernel
theorem dX5_take_84 : decode cX5_take 84 = .ok (.iconst 0, 1) := by decide +kernel
theorem dX5_take_85 : decode cX5_take 85 = .ok (.ireturn, 1) := by decide +kernel
theorem dX5_failAt_0 : decode cX5_failAt 0 = .ok (.aload_n 0, 1) := by decide +kernel
theorem dX5_failAt_1 : decode cX5_failAt 1 = .ok (.getfield 42, 3) := by decide +kernel
theorem dX5_failAt_4 : decode cX5_failAt 4 = .ok (.ifCond .eq 4, 3) := by decide +kernel
theorem dX5_failAt_7 : decode cX5_failAt 7 = .ok (.return_, 1) := by decide +kernel
theorem dX5_failAt_8 : decode cX5_failAt 8 = .ok (.aload_n 0, 1) := by decide +kernel
theorem dX5_failAt_9 : decode cX5_failAt 9 = .ok (.iload_n 2, 1) := by decide +kernel
theorem dX5_failAt_10 : decode cX5_failAt 10 = .ok (.putfield 42, 3) := by decide +kernel
theorem dX5_failAt_13 : decode cX5_failAt 13 = .ok (.aload_n 0, 1) := by decide +kernel
theorem dX5_failAt_14 : decode cX5_failAt 14 = .ok (.aload_n 0, 1) := by decide +kernel
theorem dX5_failAt_15 : decode cX5_failAt 15 = .ok (.getfield 12, 3) := by decide +kernel
theorem dX5_failAt_18 : decode cX5_failAt 18 = .ok (.iload_n 1, 1) := by decide +kernel
theorem dX5_failAt_19 : decode cX5_failAt 19 = .ok (.invokevirtual 161, 3) := by decide +kernel
theorem dX5_failAt_22 : decode cX5_failAt 22 = .ok (.putfield 26, 3) := by decide +kernel
theorem dX5_failAt_25 : decode cX5_failAt 25 = .ok (.return_, 1) := by decide +kernel
theorem dX5_failLater_0 : decode cX5_failLater 0 = .ok (.aload_n 0, 1) := by decide +kernel
theorem dX5_failLater_1 : decode cX5_failLater 1 = .ok (.getfield 45, 3) := by decide +kernel
theorem dX5_failLater_4 : decode cX5_failLater 4 = .ok (.ifCond .eq 4, 3) := by decide +kernel
theorem dX5_failLater_7 : decode cX5_failLater 7 = .ok (.return_, 1) := by decide +kernel
theorem dX5_failLater_8 : decode cX5_failLater 8 = .ok (.aload_n 0, 1) := by decide +kernel
theorem dX5_failLater_9 : decode cX5_failLater 9 = .ok (.iload_n 2, 1) := by decide +kernel
theorem dX5_failLater_10 : decode cX5_failLater 10 = .ok (.putfield 45, 3) := by decide +kernel
theorem dX5_failLater_13 : decode cX5_failLater 13 = .ok (.aload_n 0, 1) := by decide +kernel
theorem dX5_failLater_14 : decode cX5_failLater 14 = .ok (.aload_n 0, 1) := by decide +kernel
theorem dX5_failLater_15 : decode cX5_failLater 15 = .ok (.getfield 12, 3) := by decide +kernel
theorem dX5_failLater_18 : decode cX5_failLater 18 = .ok (.iload_n 1, 1) := by decide +kernel
theorem dX5_failLater_19 : decode cX5_failLater 19 = .ok (.invokevirtual 161, 3) := by decide +kernel
theorem dX5_failLater_22 : decode cX5_failLater 22 = .ok (.putfield 48, 3) := by decide +kernel
theorem dX5_failLater_25 : decode cX5_failLater 25 = .ok (.return_, 1) := by decide +kernel
theorem dX6_init_0 : decode cX6_init 0 = .ok (.aload_n 0, 1) := by decide +kernel
theorem dX6_init_1 : decode cX6_init 1 = .ok (.invokespecial 3, 3) := by decide +kernel
theorem dX6_init_4 : decode cX6_init 4 = .ok (.aload_n 0, 1) := by decide +kernel
theorem dX6_init_5 : decode cX6_init 5 = .ok (.bipush 10, 2) := by decide +kernel
theorem dX6_init_7 : decode cX6_init 7 = .ok (.newarray .int, 2) := by decide +kernel
theorem dX6_init_9 : decode cX6_init 9 = .ok (.putfield 9, 3) := by decide +kernel
theorem dX6_init_12 : decode cX6_init 12 = .ok (.aload_n 0, 1) := by decide +kernel
theorem dX6_init_13 : decode cX6_init 13 = .ok (.bipush 10, 2) := by decide +kernel
theorem dX6_init_15 : decode cX6_init 15 = .ok (.newarray .int, 2) := by decide +kernel
theorem dX6_init_17 : decode cX6_init 17 = .ok (.putfield 15, 3) := by decide +kernel
theorem dX6_init_20 : decode cX6_init 20 = .ok (.aload_n 0, 1) := by decide +kernel
theorem dX6_init_21 : decode cX6_init 21 = .ok (.bipush 10, 2) := by decide +kernel
theorem dX6_init_23 : decode cX6_init 23 = .ok (.newarray .int, 2) := by decide +kernel
theorem dX6_init_25 : decode cX6_init 25 = .ok (.putfield 18, 3) := by decide +kernel
theorem dX6_init_28 : decode cX6_init 28 = .ok (.aload_n 0, 1) := by decide +kernel
theorem dX6_init_29 : decode cX6_init 29 = .ok (.bipush 10, 2) := by decide +kernel
theorem dX6_init_31 : decode cX6_init 31 = .ok (.newarray .int, 2) := by decide +kernel
theorem dX6_init_33 : decode cX6_init 33 = .ok (.putfield 21, 3) := by decide +kernel
theorem dX6_init_36 : decode cX6_init 36 = .ok (.return_, 1) := by decide +kernel
theorem dX6_begin_0 : decode cX6_begin 0 = .ok (.aload_n 0, 1) := by decide +kernel
theorem dX6_begin_1 : decode cX6_begin 1 = .ok (.iconst 0, 1) := by decide +kernel
theorem dX6_begin_2 : decode cX6_begin 2 = .ok (.putfield 24, 3) := by decide +kernel
theorem dX6_begin_5 : decode cX6_begin 5 = .ok (.aload_n 0, 1) := by decide +kernel
theorem dX6_begin_6 : decode cX6_begin 6 = .ok (.iconst 0, 1) := by decide +kernel
theorem dX6_begin_7 : decode cX6_begin 7 = .ok (.putfield 28, 3) := by decide +kernel
theorem dX6_begin_10 : decode cX6_begin 10 = .ok (.aload_n 0, 1) := by decide +kernel
theorem dX6_begin_11 : decode cX6_begin 11 = .ok (.iconst 0, 1) := by decide +kernel
theorem dX6_begin_12 : decode cX6_begin 12 = .ok (.putfield 31, 3) := by decide +kernel
theorem dX6_begin_15 : decode cX6_begin 15 = .ok (.aload_n 0, 1) := by decide +kernel
theorem dX6_begin_16 : decode cX6_begin 16 = .ok (.iconst 0, 1) := by decide +kernel
theorem dX6_begin_17 : decode cX6_begin 17 = .ok (.putfield 34, 3) := by decide +kernel
theorem dX6_begin_20 : decode cX6_begin 20 = .ok (.iconst 0, 1) := by decide +kernel
theorem dX6_begin_21 : decode cX6_begin 21 = .ok (.istore_n 2, 1) := by decide +kernel
theorem dX6_begin_22 : decode cX6_begin 22 = .ok (.iload_n 2, 1) := by decide +kernel
theorem dX6_begin_23 : decode cX6_begin 23 = .ok (.aload_n 1, 1) := by decide +kernel
theorem dX6_begin_24 : decode cX6_begin 24 = .ok (.getfield 37, 3) := by decide +kernel
theorem dX6_begin_27 : decode cX6_begin 27 = .ok (.if_icmp .ge 26, 3) := by decide +kernel
theorem dX6_begin_30 : decode cX6_begin 30 = .ok (.iload_n 2, 1) := by decide +kernel
theorem dX6_begin_31 : decode cX6_begin 31 = .ok (.bipush 10, 2) := by decide +kernel
theorem dX6_begin_33 : decode cX6_begin 33 = .ok (.if_icmp .ge 20, 3) := by decide +kernel
theorem dX6_begin_36 : decode cX6_begin 36 = .ok (.aload_n 0, 1) := by decide +kernel
theorem dX6_begin_37 : decode cX6_begin 37 = .ok (.iload_n 2, 1) := by decide +kernel
theorem dX6_begin_38 : decode cX6_begin 38 = .ok (.aload_n 1, 1) := by decide +kernel
theorem dX6_begin_39 : decode cX6_begin 39 = .ok (.getfield 40, 3) := by decide +kernel
theorem dX6_begin_42 : decode cX6_begin 42 = .ok (.iload_n 2, 1) := by decide +kernel
theorem dX6_begin_43 : decode cX6_begin 43 = .ok (.iaload, 1) := by decide +kernel
theorem dX6_begin_44 : decode cX6_begin 44 = .ok (.invokevirtual 43, 3) := by decide +kernel
theorem dX6_begin_47 : decode cX6_begin 47 = .ok (.iinc 2 1, 3) := by decide +kernel
theorem dX6_begin_50 : decode cX6_begin 50 = .ok (.goto (-28), 3) := by decide +kernel
theorem dX6_begin_53 : decode cX6_begin 53 = .ok (.return_, 1) := by decide +kernel
theorem dX6_copy_0 : decode cX6_copy 0 = .ok (.aload_n 0, 1) := by decide +kernel
theorem dX6_copy_1 : decode cX6_copy 1 = .ok (.aload_n 1, 1) := by decide +kernel
theorem dX6_copy_2 : decode cX6_copy 2 = .ok (.getfield 24, 3) := by decide +kernel
theorem dX6_copy_5 : decode cX6_copy 5 = .ok (.putfield 24, 3) := by decide +kernel
theorem dX6_copy_8 : decode cX6_copy 8 = .ok (.aload_n 0, 1) := by decide +kernel
theorem dX6_copy_9 : decode cX6_copy 9 = .ok (.aload_n 1, 1) := by decide +kernel
theorem dX6_copy_10 : decode cX6_copy 10 = .ok (.getfield 28, 3) := by decide +kernel
theorem dX6_copy_13 : decode cX6_copy 13 = .ok (.putfield 28, 3) := by decide +kernel
theorem dX6_copy_16 : decode cX6_copy 16 = .ok (.aload_n 0, 1) := by decide +kernel
theorem dX6_copy_17 : decode cX6_copy 17 = .ok (.aload_n 1, 1) := by decide +kernel
theorem dX6_copy_18 : decode cX6_copy 18 = .ok (.getfield 31, 3) := by decide +kernel
theorem dX6_copy_21 : decode cX6_copy 21 = .ok (.putfield 31, 3) := by decide +kernel
theorem dX6_copy_24 : decode cX6_copy 24 = .ok (.aload_n 0, 1) := by decide +kernel
theorem dX6_copy_25 : decode cX6_copy 25 = .ok (.aload_n 1, 1) := by decide +kernel
theorem dX6_copy_26 : decode cX6_copy 26 = .ok (.getfield 34, 3) := by decide +kernel
theorem dX6_copy_29 : decode cX6_copy 29 = .ok (.putfield 34, 3) := by decide +kernel
theorem dX6_copy_32 : decode cX6_copy 32 = .ok (.iconst 0, 1) := by decide +kernel
theorem dX6_copy_33 : decode cX6_copy 33 = .ok (.istore_n 2, 1) := by decide +kernel
theorem dX6_copy_34 : decode cX6_copy 34 = .ok (.iload_n 2, 1) := by decide +kernel
theorem dX6_copy_35 : decode cX6_copy 35 = .ok (.aload_n 0, 1) := by decide +kernel
theorem dX6_copy_36 : decode cX6_copy 36 = .ok (.getfield 24, 3) := by decide +kernel
theorem dX6_copy_39 : decode cX6_copy 39 = .ok (.if_icmp .ge 63, 3) := by decide +kernel
theorem dX6_copy_42 : decode cX6_copy 42 = .ok (.iload_n 2, 1) := by decide +kernel
theorem dX6_copy_43 : decode cX6_copy 43 = .ok (.bipush 10, 2) := by decide +kernel
theorem dX6_copy_45 : decode cX6_copy 45 = .ok (.if_icmp .ge 57, 3) := by decide +kernel
theorem dX6_copy_48 : decode cX6_copy 48 = .ok (.aload_n 0, 1) := by decide +kernel
theorem dX6_copy_49 : decode cX6_copy 49 = .ok (.getfield 9, 3) := by decide +kernel
theorem dX6_copy_52 : decode cX6_copy 52 = .ok (.iload_n 2, 1) := by decide +kernel
theorem dX6_copy_53 : decode cX6_copy 53 = .ok (.aload_n 1, 1) := by decide +kernel
theorem dX6_copy_54 : decode cX6_copy 54 = .ok (.getfield 9, 3) := by decide +kernel
theorem dX6_copy_57 : decode cX6_copy 57 = .ok (.iload_n 2, 1) := by decide +kernel
theorem dX6_copy_58 : decode cX6_copy 58 = .ok (.iaload, 1) := by decide +kernel
theorem dX6_copy_59 : decode cX6_copy 59 = .ok (.iastore, 1) := by decide +kernel
theorem dX6_copy_60 : decode cX6_copy 60 = .ok (.aload_n 0, 1) := by decide +kernel
theorem dX6_copy_61 : decode cX6_copy 61 = .ok (.getfield 15, 3) := by decide +kernel
theorem dX6_copy_64 : decode cX6_copy 64 = .ok (.iload_n 2, 1) := by decide +kernel
theorem dX6_copy_65 : decode cX6_copy 65 = .ok (.aload_n 1, 1) := by decide +kernel
theorem dX6_copy_66 : decode cX6_copy 66 = .ok (.getfield 15, 3) := by decide +kernel
theorem dX6_copy_69 : decode cX6_copy 69 = .ok (.iload_n 2, 1) := by decide +kernel
theorem dX6_copy_70 : decode cX6_copy 70 = .ok (.iaload, 1) := by decide +kernel
theorem dX6_copy_71 : decode cX6_copy 71 = .ok (.iastore, 1) := by decide +kernel
theorem dX6_copy_72 : decode cX6_copy 72 = .ok (.aload_n 0, 1) := by decide +kernel
theorem dX6_copy_73 : decode cX6_copy 73 = .ok (.getfield 18, 3) := by decide +kernel
theorem dX6_copy_76 : decode cX6_copy 76 = .ok (.iload_n 2, 1) := by decide +kernel
theorem dX6_copy_77 : decode cX6_copy 77 = .ok (.aload_n 1, 1) := by decide +kernel
theorem dX6_copy_78 : decode cX6_copy 78 = .ok (.getfield 18, 3) := by decide +kernel
theorem dX6_copy_81 : decode cX6_copy 81 = .ok (.iload_n 2, 1) := by decide +kernel
theorem dX6_copy_82 : decode cX6_copy 82 = .ok (.iaload, 1) := by decide +kernel
theorem dX6_copy_83 : decode cX6_copy 83 = .ok (.iastore, 1) := by decide +kernel
theorem dX6_copy_84 : decode cX6_copy 84 = .ok (.aload_n 0, 1) := by decide +kernel
theorem dX6_copy_85 : decode cX6_copy 85 = .ok (.getfield 21, 3) := by decide +kernel
theorem dX6_copy_88 : decode cX6_copy 88 = .ok (.iload_n 2, 1) := by decide +kernel
theorem dX6_copy_89 : decode cX6_copy 89 = .ok (.aload_n 1, 1) := by decide +kernel
theorem dX6_copy_90 : decode cX6_copy 90 = .ok (.getfield 21, 3) := by decide +kernel
theorem dX6_copy_93 : decode cX6_copy 93 = .ok (.iload_n 2, 1) := by decide +kernel
theorem dX6_copy_94 : decode cX6_copy 94 = .ok (.iaload, 1) := by decide +kernel
theorem dX6_copy_95 : decode cX6_copy 95 = .ok (.iastore, 1) := by decide +kernel
theorem dX6_copy_96 : decode cX6_copy 96 = .ok (.iinc 2 1, 3) := by decide +kernel
theorem dX6_copy_99 : decode cX6_copy 99 = .ok (.goto (-65), 3) := by decide +kernel
theorem dX6_copy_102 : decode cX6_copy 102 = .ok (.return_, 1) := by decide +kernel
theorem dX6_has_0 : decode cX6_has 0 = .ok (.iload_n 1, 1) := by decide +kernel
theorem dX6_has_1 : decode cX6_has 1 = .ok (.ifCond .lt 21, 3) := by decide +kernel
theorem dX6_has_4 : decode cX6_has 4 = .ok (.iload_n 1, 1) := by decide +kernel
theorem dX6_has_5 : decode cX6_has 5 = .ok (.aload_n 0, 1) := by decide +kernel
theorem dX6_has_6 : decode cX6_has 6 = .ok (.getfield 24, 3) := by decide +kernel
theorem dX6_has_9 : decode cX6_has 9 = .ok (.if_icmp .ge 13, 3) := by decide +kernel
theorem dX6_has_12 : decode cX6_has 12 = .ok (.iload_n 1, 1) := by decide +kernel
theorem dX6_has_13 : decode cX6_has 13 = .ok (.bipush 10, 2) := by decide +kernel
theorem dX6_has_15 : decode cX6_has 15 = .ok (.if_icmp .ge 7, 3) := by decide +kernel
theorem dX6_has_18 : decode cX6_has 18 = .ok (.iconst 1, 1) := by decide +kernel
theorem dX6_has_19 : decode cX6_has 19 = .ok (.goto 4, 3) := by decide +kernel
theorem dX6_has_22 : decode cX6_has 22 = .ok (.iconst 0, 1) := by decide +kernel
theorem dX6_has_23 : decode cX6_has 23 = .ok (.ireturn, 1) := by decide +kernel
theorem dX6_isFull_0 : decode cX6_isFull 0 = .ok (.aload_n 0, 1) := by decide +kernel
theorem dX6_isFull_1 : decode cX6_isFull 1 = .ok (.getfield 24, 3) := by decide +kernel
theorem dX6_isFull_4 : decode cX6_isFull 4 = .ok (.bipush 10, 2) := by decide +kernel
theorem dX6_isFull_6 : decode cX6_isFull 6 = .ok (.if_icmp .lt 7, 3) := by decide +kernel
theorem dX6_isFull_9 : decode cX6_isFull 9 = .ok (.iconst 1, 1) := by decide +kernel
theorem dX6_isFull_10 : decode cX6_isFull 10 = .ok (.goto 4, 3) := by decide +kernel
theorem dX6_isFull_13 : decode cX6_isFull 13 = .ok (.iconst 0, 1) := by decide +kernel
theorem dX6_isFull_14 : decode cX6_isFull 14 = .ok (.ireturn, 1) := by decide +kernel
theorem dX6_purseOf_0 : decode cX6_purseOf 0 = .ok (.aload_n 0, 1) := by decide +kernel
theorem dX6_purseOf_1 : decode cX6_purseOf 1 = .ok (.iload_n 1, 1) := by decide +kernel
theorem dX6_purseOf_2 : decode cX6_purseOf 2 = .ok (.invokevirtual 47, 3) := by decide +kernel
theorem dX6_purseOf_5 : decode cX6_purseOf 5 = .ok (.ifCond .eq 12, 3) := by decide +kernel
theorem dX6_purseOf_8 : decode cX6_purseOf 8 = .ok (.aload_n 0, 1) := by decide +kernel
theorem dX6_purseOf_9 : decode cX6_purseOf 9 = .ok (.getfield 9, 3) := by decide +kernel
theorem dX6_purseOf_12 : decode cX6_purseOf 12 = .ok (.iload_n 1, 1) := by decide +kernel
theorem dX6_purseOf_13 : decode cX6_purseOf 13 = .ok (.iaload, 1) := by decide +kernel
theorem dX6_purseOf_14 : decode cX6_purseOf 14 = .ok (.goto 4, 3) := by decide +kernel
theorem dX6_purseOf_17 : decode cX6_purseOf 17 = .ok (.iconst 0, 1) := by decide +kernel
theorem dX6_purseOf_18 : decode cX6_purseOf 18 = .ok (.ireturn, 1) := by decide +kernel
theorem dX6_paidBy_0 : decode cX6_paidBy 0 = .ok (.aload_n 0, 1) := by decide +kernel
theorem dX6_paidBy_1 : decode cX6_paidBy 1 = .ok (.iload_n 1, 1) := by decide +kernel
theorem dX6_paidBy_2 : decode cX6_paidBy 2 = .ok (.invokevirtual 47, 3) := by decide +kernel
theorem dX6_paidBy_5 : decode cX6_paidBy 5 = .ok (.ifCond .eq 12, 3) := by decide +kernel
theorem dX6_paidBy_8 : decode cX6_paidBy 8 = .ok (.aload_n 0, 1) := by decide +kernel
theorem dX6_paidBy_9 : decode cX6_paidBy 9 = .ok (.getfield 18, 3) := by decide +kernel
theorem dX6_paidBy_12 : decode cX6_paidBy 12 = .ok (.iload_n 1, 1) := by decide +kernel
theorem dX6_paidBy_13 : decode cX6_paidBy 13 = .ok (.iaload, 1) := by decide +kernel
theorem dX6_paidBy_14 : decode cX6_paidBy 14 = .ok (.goto 4, 3) := by decide +kernel
theorem dX6_paidBy_17 : decode cX6_paidBy 17 = .ok (.iconst 0, 1) := by decide +kernel
theorem dX6_paidBy_18 : decode cX6_paidBy 18 = .ok (.ireturn, 1) := by decide +kernel
theorem dX6_shown_0 : decode cX6_shown 0 = .ok (.iload_n 1, 1) := by decide +kernel
theorem dX6_shown_1 : decode cX6_shown 1 = .ok (.ifCond .lt 17, 3) := by decide +kernel
theorem dX6_shown_4 : decode cX6_shown 4 = .ok (.iload_n 1, 1) := by decide +kernel
theorem dX6_shown_5 : decode cX6_shown 5 = .ok (.aload_n 0, 1) := by decide +kernel
theorem dX6_shown_6 : decode cX6_shown 6 = .ok (.getfield 24, 3) := by decide +kernel
theorem dX6_shown_9 : decode cX6_shown 9 = .ok (.if_icmp .ge 9, 3) := by decide +kernel
theorem dX6_shown_12 : decode cX6_shown 12 = .ok (.iload_n 1, 1) := by decide +kernel
theorem dX6_shown_13 : decode cX6_shown 13 = .ok (.bipush 10, 2) := by decide +kernel
theorem dX6_shown_15 : decode cX6_shown 15 = .ok (.if_icmp .lt 5, 3) := by decide +kernel
theorem dX6_shown_18 : decode cX6_shown 18 = .ok (.iconst 0, 1) := by decide +kernel
theorem dX6_shown_19 : decode cX6_shown 19 = .ok (.ireturn, 1) := by decide +kernel
theorem dX6_shown_20 : decode cX6_shown 20 = .ok (.aload_n 0, 1) := by decide +kernel
theorem dX6_shown_21 : decode cX6_shown 21 = .ok (.getfield 9, 3) := by decide +kernel
theorem dX6_shown_24 : decode cX6_shown 24 = .ok (.iload_n 1, 1) := by decide +kernel
theorem dX6_shown_25 : decode cX6_shown 25 = .ok (.iaload, 1) := by decide +kernel
theorem dX6_shown_26 : decode cX6_shown 26 = .ok (.aload_n 0, 1) := by decide +kernel
theorem dX6_shown_27 : decode cX6_shown 27 = .ok (.getfield 15, 3) := by decide +kernel
theorem dX6_shown_30 : decode cX6_shown 30 = .ok (.iload_n 1, 1) := by decide +kernel
theorem dX6_shown_31 : decode cX6_shown 31 = .ok (.iaload, 1) := by decide +kernel
theorem dX6_shown_32 : decode cX6_shown 32 = .ok (.isub, 1) := by decide +kernel
theorem dX6_shown_33 : decode cX6_shown 33 = .ok (.ireturn, 1) := by decide +kernel
theorem dX6_total_0 : decode cX6_total 0 = .ok (.iconst 0, 1) := by decide +kernel
theorem dX6_total_1 : decode cX6_total 1 = .ok (.istore_n 1, 1) := by decide +kernel
theorem dX6_total_2 : decode cX6_total 2 = .ok (.iconst 0, 1) := by decide +kernel
theorem dX6_total_3 : decode cX6_total 3 = .ok (.istore_n 2, 1) := by decide +kernel
theorem dX6_total_4 : decode cX6_total 4 = .ok (.iload_n 2, 1) := by decide +kernel
theorem dX6_total_5 : decode cX6_total 5 = .ok (.bipush 10, 2) := by decide +kernel
theorem dX6_total_7 : decode cX6_total 7 = .ok (.if_icmp .ge 26, 3) := by decide +kernel
theorem dX6_total_10 : decode cX6_total 10 = .ok (.aload_n 0, 1) := by decide +kernel
theorem dX6_total_11 : decode cX6_total 11 = .ok (.iload_n 2, 1) := by decide +kernel
theorem dX6_total_12 : decode cX6_total 12 = .ok (.invokevirtual 47, 3) := by decide +kernel
theorem dX6_total_15 : decode cX6_total 15 = .ok (.ifCond .eq 18, 3) := by decide +kernel
theorem dX6_total_18 : decode cX6_total 18 = .ok (.iload_n 1, 1) := by decide +kernel
theorem dX6_total_19 : decode cX6_total 19 = .ok (.aload_n 0, 1) := by decide +kernel
theorem dX6_total_20 : decode cX6_total 20 = .ok (.getfield 9, 3) := by decide +kernel
theorem dX6_total_23 : decode cX6_total 23 = .ok (.iload_n 2, 1) := by decide +kernel
theorem dX6_total_24 : decode cX6_total 24 = .ok (.iaload, 1) := by decide +kernel
theorem dX6_total_25 : decode cX6_total 25 = .ok (.iadd, 1) := by decide +kernel
theorem dX6_total_26 : decode cX6_total 26 = .ok (.istore_n 1, 1) := by decide +kernel
theorem dX6_total_27 : decode cX6_total 27 = .ok (.iinc 2 1, 3) := by decide +kernel
theorem dX6_total_30 : decode cX6_total 30 = .ok (.goto (-26), 3) := by decide +kernel
theorem dX6_total_33 : decode cX6_total 33 = .ok (.iload_n 1, 1) := by decide +kernel
theorem dX6_total_34 : decode cX6_total 34 = .ok (.ireturn, 1) := by decide +kernel
theorem dX6_spread_0 : decode cX6_spread 0 = .ok (.aload_n 0, 1) := by decide +kernel
theorem dX6_spread_1 : decode cX6_spread 1 = .ok (.iconst 0, 1) := by decide +kernel
theorem dX6_spread_2 : decode cX6_spread 2 = .ok (.invokevirtual 47, 3) := by decide +kernel
theorem dX6_spread_5 : decode cX6_spread 5 = .ok (.ifCond .ne 5, 3) := by decide +kernel
theorem dX6_spread_8 : decode cX6_spread 8 = .ok (.iconst 0, 1) := by decide +kernel
theorem dX6_spread_9 : decode cX6_spread 9 = .ok (.ireturn, 1) := by decide +kernel
theorem dX6_spread_10 : decode cX6_spread 10 = .ok (.aload_n 0, 1) := by decide +kernel
theorem dX6_spread_11 : decode cX6_spread 11 = .ok (.getfield 9, 3) := by decide +kernel
theorem dX6_spread_14 : decode cX6_spread 14 = .ok (.iconst 0, 1) := by decide +kernel
theorem dX6_spread_15 : decode cX6_spread 15 = .ok (.iaload, 1) := by decide +kernel
theorem dX6_spread_16 : decode cX6_spread 16 = .ok (.istore_n 1, 1) := by decide +kernel
theorem dX6_spread_17 : decode cX6_spread 17 = .ok (.aload_n 0, 1) := by decide +kernel
theorem dX6_spread_18 : decode cX6_spread 18 = .ok (.getfield 9, 3) := by decide +kernel
theorem dX6_spread_21 : decode cX6_spread 21 = .ok (.iconst 0, 1) := by decide +kernel
theorem dX6_spread_22 : decode cX6_spread 22 = .ok (.iaload, 1) := by decide +kernel
theorem dX6_spread_23 : decode cX6_spread 23 = .ok (.istore_n 2, 1) := by decide +kernel
theorem dX6_spread_24 : decode cX6_spread 24 = .ok (.iconst 1, 1) := by decide +kernel
theorem dX6_spread_25 : decode cX6_spread 25 = .ok (.istore_n 3, 1) := by decide +kernel
theorem dX6_spread_26 : decode cX6_spread 26 = .ok (.iload_n 3, 1) := by decide +kernel
theorem dX6_spread_27 : decode cX6_spread 27 = .ok (.bipush 10, 2) := by decide +kernel
theorem dX6_spread_29 : decode cX6_spread 29 = .ok (.if_icmp .ge 39, 3) := by decide +kernel
theorem dX6_spread_32 : decode cX6_spread 32 = .ok (.aload_n 0, 1) := by decide +kernel
theorem dX6_spread_33 : decode cX6_spread 33 = .ok (.iload_n 3, 1) := by decide +kernel
theorem dX6_spread_34 : decode cX6_spread 34 = .ok (.invokevirtual 47, 3) := by decide +kernel
theorem dX6_spread_37 : decode cX6_spread 37 = .ok (.ifCond .eq 31, 3) := by decide +kernel
theorem dX6_spread_40 : decode cX6_spread 40 = .ok (.iload_n 1, 1) := by decide +kernel
theorem dX6_spread_41 : decode cX6_spread 41 = .ok (.aload_n 0, 1) := by decide +kernel
theorem dX6_spread_42 : decode cX6_spread 42 = .ok (.getfield 9, 3) := by decide +kernel
theorem dX6_spread_45 : decode cX6_spread 45 = .ok (.iload_n 3, 1) := by decide +kernel
theorem dX6_spread_46 : decode cX6_spread 46 = .ok (.iaload, 1) := by decide +kernel
theorem dX6_spread_47 : decode cX6_spread 47 = .ok (.invokestatic 51, 3) := by decide +kernel
theorem dX6_spread_50 : decode cX6_spread 50 = .ok (.istore_n 1, 1) := by decide +kernel
theorem dX6_spread_51 : decode cX6_spread 51 = .ok (.iload_n 2, 1) := by decide +kernel
theorem dX6_spread_52 : decode cX6_spread 52 = .ok (.aload_n 0, 1) := by decide +kernel
theorem dX6_spread_53 : decode cX6_spread 53 = .ok (.getfield 9, 3) := by decide +kernel
theorem dX6_spread_56 : decode cX6_spread 56 = .ok (.iload_n 3, 1) := by decide +kernel
theorem dX6_spread_57 : decode cX6_spread 57 = .ok (.iaload, 1) := by decide +kernel
theorem dX6_spread_58 : decode cX6_spread 58 = .ok (.invokestatic 57, 3) := by decide +kernel
theorem dX6_spread_61 : decode cX6_spread 61 = .ok (.istore_n 2, 1) := by decide +kernel
theorem dX6_spread_62 : decode cX6_spread 62 = .ok (.iinc 3 1, 3) := by decide +kernel
theorem dX6_spread_65 : decode cX6_spread 65 = .ok (.goto (-39), 3) := by decide +kernel
theorem dX6_spread_68 : decode cX6_spread 68 = .ok (.iload_n 2, 1) := by decide +kernel
theorem dX6_spread_69 : decode cX6_spread 69 = .ok (.iload_n 1, 1) := by decide +kernel
theorem dX6_spread_70 : decode cX6_spread 70 = .ok (.isub, 1) := by decide +kernel
theorem dX6_spread_71 : decode cX6_spread 71 = .ok (.ireturn, 1) := by decide +kernel
theorem dX6_move_0 : decode cX6_move 0 = .ok (.aload_n 0, 1) := by decide +kernel
theorem dX6_move_1 : decode cX6_move 1 = .ok (.iload_n 1, 1) := by decide +kernel
theorem dX6_move_2 : decode cX6_move 2 = .ok (.invokevirtual 47, 3) := by decide +kernel
theorem dX6_move_5 : decode cX6_move 5 = .ok (.ifCond .eq 11, 3) := by decide +kernel
theorem dX6_move_8 : decode cX6_move 8 = .ok (.aload_n 0, 1) := by decide +kernel
theorem dX6_move_9 : decode cX6_move 9 = .ok (.iload_n 2, 1) := by decide +kernel
theorem dX6_move_10 : decode cX6_move 10 = .ok (.invokevirtual 47, 3) := by decide +kernel
theorem dX6_move_13 : decode cX6_move 13 = .ok (.ifCond .ne 4, 3) := by decide +kernel
theorem dX6_move_16 : decode cX6_move 16 = .ok (.return_, 1) := by decide +kernel
theorem dX6_move_17 : decode cX6_move 17 = .ok (.aload_n 0, 1) := by decide +kernel
theorem dX6_move_18 : decode cX6_move 18 = .ok (.getfield 9, 3) := by decide +kernel
theorem dX6_move_21 : decode cX6_move 21 = .ok (.iload_n 1, 1) := by decide +kernel
theorem dX6_move_22 : decode cX6_move 22 = .ok (.dup2, 1) := by decide +kernel
theorem dX6_move_23 : decode cX6_move 23 = .ok (.iaload, 1) := by decide +kernel
theorem dX6_move_24 : decode cX6_move 24 = .ok (.iload_n 3, 1) := by decide +kernel
theorem dX6_move_25 : decode cX6_move 25 = .ok (.isub, 1) := by decide +kernel
theorem dX6_move_26 : decode cX6_move 26 = .ok (.iastore, 1) := by decide +kernel
theorem dX6_move_27 : decode cX6_move 27 = .ok (.aload_n 0, 1) := by decide +kernel
theorem dX6_move_28 : decode cX6_move 28 = .ok (.getfield 9, 3) := by decide +kernel
theorem dX6_move_31 : decode cX6_move 31 = .ok (.iload_n 2, 1) := by decide +kernel
theorem dX6_move_32 : decode cX6_move 32 = .ok (.dup2, 1) := by decide +kernel
theorem dX6_move_33 : decode cX6_move 33 = .ok (.iaload, 1) := by decide +kernel
theorem dX6_move_34 : decode cX6_move 34 = .ok (.iload_n 3, 1) := by decide +kernel
theorem dX6_move_35 : decode cX6_move 35 = .ok (.iadd, 1) := by decide +kernel
theorem dX6_move_36 : decode cX6_move 36 = .ok (.iastore, 1) := by decide +kernel
theorem dX6_move_37 : decode cX6_move 37 = .ok (.return_, 1) := by decide +kernel
theorem dX6_earn_0 : decode cX6_earn 0 = .ok (.aload_n 0, 1) := by decide +kernel
theorem dX6_earn_1 : decode cX6_earn 1 = .ok (.iload_n 1, 1) := by decide +kernel
theorem dX6_earn_2 : decode cX6_earn 2 = .ok (.invokevirtual 47, 3) := by decide +kernel
theorem dX6_earn_5 : decode cX6_earn 5 = .ok (.ifCond .eq 13, 3) := by decide +kernel
theorem dX6_earn_8 : decode cX6_earn 8 = .ok (.aload_n 0, 1) := by decide +kernel
theorem dX6_earn_9 : decode cX6_earn 9 = .ok (.getfield 9, 3) := by decide +kernel
theorem dX6_earn_12 : decode cX6_earn 12 = .ok (.iload_n 1, 1) := by decide +kernel
theorem dX6_earn_13 : decode cX6_earn 13 = .ok (.dup2, 1) := by decide +kernel
theorem dX6_earn_14 : decode cX6_earn 14 = .ok (.iaload, 1) := by decide +kernel
theorem dX6_earn_15 : decode cX6_earn 15 = .ok (.iload_n 2, 1) := by decide +kernel
theorem dX6_earn_16 : decode cX6_earn 16 = .ok (.iadd, 1) := by decide +kernel
theorem dX6_earn_17 : decode cX6_earn 17 = .ok (.iastore, 1) := by decide +kernel
theorem dX6_earn_18 : decode cX6_earn 18 = .ok (.return_, 1) := by decide +kernel
theorem dX6_pay_0 : decode cX6_pay 0 = .ok (.aload_n 0, 1) := by decide +kernel
theorem dX6_pay_1 : decode cX6_pay 1 = .ok (.iload_n 1, 1) := by decide +kernel
theorem dX6_pay_2 : decode cX6_pay 2 = .ok (.invokevirtual 47, 3) := by decide +kernel
theorem dX6_pay_5 : decode cX6_pay 5 = .ok (.ifCond .ne 4, 3) := by decide +kernel
theorem dX6_pay_8 : decode cX6_pay 8 = .ok (.return_, 1) := by decide +kernel
theorem dX6_pay_9 : decode cX6_pay 9 = .ok (.aload_n 0, 1) := by decide +kernel
theorem dX6_pay_10 : decode cX6_pay 10 = .ok (.getfield 9, 3) := by decide +kernel
theorem dX6_pay_13 : decode cX6_pay 13 = .ok (.iload_n 1, 1) := by decide +kernel
theorem dX6_pay_14 : decode cX6_pay 14 = .ok (.dup2, 1) := by decide +kernel
theorem dX6_pay_15 : decode cX6_pay 15 = .ok (.iaload, 1) := by decide +kernel
theorem dX6_pay_16 : decode cX6_pay 16 = .ok (.iload_n 2, 1) := by decide +kernel
theorem dX6_pay_17 : decode cX6_pay 17 = .ok (.isub, 1) := by decide +kernel
theorem dX6_pay_18 : decode cX6_pay 18 = .ok (.iastore, 1) := by decide +kernel
theorem dX6_pay_19 : decode cX6_pay 19 = .ok (.aload_n 0, 1) := by decide +kernel
theorem dX6_pay_20 : decode cX6_pay 20 = .ok (.dup, 1) := by decide +kernel
theorem dX6_pay_21 : decode cX6_pay 21 = .ok (.getfield 28, 3) := by decide +kernel
theorem dX6_pay_24 : decode cX6_pay 24 = .ok (.iload_n 2, 1) := by decide +kernel
theorem dX6_pay_25 : decode cX6_pay 25 = .ok (.iadd, 1) := by decide +kernel
theorem dX6_pay_26 : decode cX6_pay 26 = .ok (.putfield 28, 3) := by decide +kernel
theorem dX6_pay_29 : decode cX6_pay 29 = .ok (.aload_n 0, 1) := by decide +kernel
theorem dX6_pay_30 : decode cX6_pay 30 = .ok (.getfield 18, 3) := by decide +kernel
theorem dX6_pay_33 : decode cX6_pay 33 = .ok (.iload_n 1, 1) := by decide +kernel
theorem dX6_pay_34 : decode cX6_pay 34 = .ok (.iload_n 2, 1) := by decide +kernel
theorem dX6_pay_35 : decode cX6_pay 35 = .ok (.iastore, 1) := by decide +kernel
theorem dX6_pay_36 : decode cX6_pay 36 = .ok (.aload_n 0, 1) := by decide +kernel
theorem dX6_pay_37 : decode cX6_pay 37 = .ok (.getfield 21, 3) := by decide +kernel
theorem dX6_pay_40 : decode cX6_pay 40 = .ok (.iload_n 1, 1) := by decide +kernel
theorem dX6_pay_41 : decode cX6_pay 41 = .ok (.dup2, 1) := by decide +kernel
theorem dX6_pay_42 : decode cX6_pay 42 = .ok (.iaload, 1) := by decide +kernel
theorem dX6_pay_43 : decode cX6_pay 43 = .ok (.iload_n 2, 1) := by decide +kernel
theorem dX6_pay_44 : decode cX6_pay 44 = .ok (.iadd, 1) := by decide +kernel
theorem dX6_pay_45 : decode cX6_pay 45 = .ok (.iastore, 1) := by decide +kernel
theorem dX6_pay_46 : decode cX6_pay 46 = .ok (.return_, 1) := by decide +kernel
theorem dX6_sharePot_0 : decode cX6_sharePot 0 = .ok (.aload_n 0, 1) := by decide +kernel
theorem dX6_sharePot_1 : decode cX6_sharePot 1 = .ok (.getfield 24, 3) := by decide +kernel
theorem dX6_sharePot_4 : decode cX6_sharePot 4 = .ok (.ifCond .gt 4, 3) := by decide +kernel
theorem dX6_sharePot_7 : decode cX6_sharePot 7 = .ok (.return_, 1) := by decide +kernel
theorem dX6_sharePot_8 : decode cX6_sharePot 8 = .ok (.iload_n 1, 1) := by decide +kernel
theorem dX6_sharePot_9 : decode cX6_sharePot 9 = .ok (.ifCond .ne 63, 3) := by decide +kernel
theorem dX6_sharePot_12 : decode cX6_sharePot 12 = .ok (.aload_n 0, 1) := by decide +kernel
theorem dX6_sharePot_13 : decode cX6_sharePot 13 = .ok (.getfield 28, 3) := by decide +kernel
theorem dX6_sharePot_16 : decode cX6_sharePot 16 = .ok (.aload_n 0, 1) := by decide +kernel
theorem dX6_sharePot_17 : decode cX6_sharePot 17 = .ok (.getfield 24, 3) := by decide +kernel
theorem dX6_sharePot_20 : decode cX6_sharePot 20 = .ok (.idiv, 1) := by decide +kernel
theorem dX6_sharePot_21 : decode cX6_sharePot 21 = .ok (.istore_n 2, 1) := by decide +kernel
theorem dX6_sharePot_22 : decode cX6_sharePot 22 = .ok (.iconst 0, 1) := by decide +kernel
theorem dX6_sharePot_23 : decode cX6_sharePot 23 = .ok (.istore_n 3, 1) := by decide +kernel
theorem dX6_sharePot_24 : decode cX6_sharePot 24 = .ok (.iload_n 3, 1) := by decide +kernel
theorem dX6_sharePot_25 : decode cX6_sharePot 25 = .ok (.bipush 10, 2) := by decide +kernel
theorem dX6_sharePot_27 : decode cX6_sharePot 27 = .ok (.if_icmp .ge 27, 3) := by decide +kernel
theorem dX6_sharePot_30 : decode cX6_sharePot 30 = .ok (.aload_n 0, 1) := by decide +kernel
theorem dX6_sharePot_31 : decode cX6_sharePot 31 = .ok (.iload_n 3, 1) := by decide +kernel
theorem dX6_sharePot_32 : decode cX6_sharePot 32 = .ok (.invokevirtual 47, 3) := by decide +kernel
theorem dX6_sharePot_35 : decode cX6_sharePot 35 = .ok (.ifCond .eq 19, 3) := by decide +kernel
theorem dX6_sharePot_38 : decode cX6_sharePot 38 = .ok (.aload_n 0, 1) := by decide +kernel
theorem dX6_sharePot_39 : decode cX6_sharePot 39 = .ok (.getfield 9, 3) := by decide +kernel
theorem dX6_sharePot_42 : decode cX6_sharePot 42 = .ok (.iload_n 3, 1) := by decide +kernel
theorem dX6_sharePot_43 : decode cX6_sharePot 43 = .ok (.dup2, 1) := by decide +kernel
theorem dX6_sharePot_44 : decode cX6_sharePot 44 = .ok (.iaload, 1) := by decide +kernel
theorem dX6_sharePot_45 : decode cX6_sharePot 45 = .ok (.iload_n 2, 1) := by decide +kernel
theorem dX6_sharePot_46 : decode cX6_sharePot 46 = .ok (.iadd, 1) := by decide +kernel
theorem dX6_sharePot_47 : decode cX6_sharePot 47 = .ok (.iastore, 1) := by decide +kernel
theorem dX6_sharePot_48 : decode cX6_sharePot 48 = .ok (.iinc 3 1, 3) := by decide +kernel
theorem dX6_sharePot_51 : decode cX6_sharePot 51 = .ok (.goto (-27), 3) := by decide +kernel
theorem dX6_sharePot_54 : decode cX6_sharePot 54 = .ok (.aload_n 0, 1) := by decide +kernel
theorem dX6_sharePot_55 : decode cX6_sharePot 55 = .ok (.dup, 1) := by decide +kernel
theorem dX6_sharePot_56 : decode cX6_sharePot 56 = .ok (.getfield 28, 3) := by decide +kernel
theorem dX6_sharePot_59 : decode cX6_sharePot 59 = .ok (.iload_n 2, 1) := by decide +kernel
theorem dX6_sharePot_60 : decode cX6_sharePot 60 = .ok (.aload_n 0, 1) := by decide +kernel
theorem dX6_sharePot_61 : decode cX6_sharePot 61 = .ok (.getfield 24, 3) := by decide +kernel
theorem dX6_sharePot_64 : decode cX6_sharePot 64 = .ok (.imul, 1) := by decide +kernel
theorem dX6_sharePot_65 : decode cX6_sharePot 65 = .ok (.isub, 1) := by decide +kernel
theorem dX6_sharePot_66 : decode cX6_sharePot 66 = .ok (.putfield 28, 3) := by decide +kernel
theorem dX6_sharePot_69 : decode cX6_sharePot 69 = .ok (.goto 37, 3) := by decide +kernel
theorem dX6_sharePot_72 : decode cX6_sharePot 72 = .ok (.aload_n 0, 1) := by decide +kernel
theorem dX6_sharePot_73 : decode cX6_sharePot 73 = .ok (.iload_n 1, 1) := by decide +kernel
theorem dX6_sharePot_74 : decode cX6_sharePot 74 = .ok (.iconst 1, 1) := by decide +kernel
theorem dX6_sharePot_75 : decode cX6_sharePot 75 = .ok (.if_icmp .ne 10, 3) := by decide +kernel
theorem dX6_sharePot_78 : decode cX6_sharePot 78 = .ok (.aload_n 0, 1) := by decide +kernel
theorem dX6_sharePot_79 : decode cX6_sharePot 79 = .ok (.invokevirtual 60, 3) := by decide +kernel
theorem dX6_sharePot_82 : decode cX6_sharePot 82 = .ok (.goto 12, 3) := by decide +kernel
theorem dX6_sharePot_85 : decode cX6_sharePot 85 = .ok (.aload_n 0, 1) := by decide +kernel
theorem dX6_sharePot_86 : decode cX6_sharePot 86 = .ok (.getfield 34, 3) := by decide +kernel
theorem dX6_sharePot_89 : decode cX6_sharePot 89 = .ok (.aload_n 0, 1) := by decide +kernel
theorem dX6_sharePot_90 : decode cX6_sharePot 90 = .ok (.getfield 24, 3) := by decide +kernel
theorem dX6_sharePot_93 : decode cX6_sharePot 93 = .ok (.irem, 1) := by decide +kernel
theorem dX6_sharePot_94 : decode cX6_sharePot 94 = .ok (.aload_n 0, 1) := by decide +kernel
theorem dX6_sharePot_95 : decode cX6_sharePot 95 = .ok (.getfield 28, 3) := by decide +kernel
theorem dX6_sharePot_98 : decode cX6_sharePot 98 = .ok (.invokevirtual 64, 3) := by decide +kernel
theorem dX6_sharePot_101 : decode cX6_sharePot 101 = .ok (.aload_n 0, 1) := by decide +kernel
theorem dX6_sharePot_102 : decode cX6_sharePot 102 = .ok (.iconst 0, 1) := by decide +kernel
theorem dX6_sharePot_103 : decode cX6_sharePot 103 = .ok (.putfield 28, 3) := by decide +kernel
theorem dX6_sharePot_106 : decode cX6_sharePot 106 = .ok (.iconst 0, 1) := by decide +kernel
theorem dX6_sharePot_107 : decode cX6_sharePot 107 = .ok (.istore_n 2, 1) := by decide +kernel
theorem dX6_sharePot_108 : decode cX6_sharePot 108 = .ok (.iload_n 2, 1) := by decide +kernel
theorem dX6_sharePot_109 : decode cX6_sharePot 109 = .ok (.bipush 10, 2) := by decide +kernel
theorem dX6_sharePot_111 : decode cX6_sharePot 111 = .ok (.if_icmp .ge 24, 3) := by decide +kernel
theorem dX6_sharePot_114 : decode cX6_sharePot 114 = .ok (.aload_n 0, 1) := by decide +kernel
theorem dX6_sharePot_115 : decode cX6_sharePot 115 = .ok (.iload_n 2, 1) := by decide +kernel
theorem dX6_sharePot_116 : decode cX6_sharePot 116 = .ok (.invokevirtual 47, 3) := by decide +kernel
theorem dX6_sharePot_119 : decode cX6_sharePot 119 = .ok (.ifCond .eq 16, 3) := by decide +kernel
theorem dX6_sharePot_122 : decode cX6_sharePot 122 = .ok (.aload_n 0, 1) := by decide +kernel
theorem dX6_sharePot_123 : decode cX6_sharePot 123 = .ok (.getfield 21, 3) := by decide +kernel
theorem dX6_sharePot_126 : decode cX6_sharePot 126 = .ok (.iload_n 2, 1) := by decide +kernel
theorem dX6_sharePot_127 : decode cX6_sharePot 127 = .ok (.iconst 0, 1) := by decide +kernel
theorem dX6_sharePot_128 : decode cX6_sharePot 128 = .ok (.iastore, 1) := by decide +kernel
theorem dX6_sharePot_129 : decode cX6_sharePot 129 = .ok (.iinc 2 1, 3) := by decide +kernel
theorem dX6_sharePot_132 : decode cX6_sharePot 132 = .ok (.goto (-24), 3) := by decide +kernel
theorem dX6_sharePot_135 : decode cX6_sharePot 135 = .ok (.aload_n 0, 1) := by decide +kernel
theorem dX6_sharePot_136 : decode cX6_sharePot 136 = .ok (.dup, 1) := by decide +kernel
theorem dX6_sharePot_137 : decode cX6_sharePot 137 = .ok (.getfield 34, 3) := by decide +kernel
theorem dX6_sharePot_140 : decode cX6_sharePot 140 = .ok (.iconst 1, 1) := by decide +kernel
theorem dX6_sharePot_141 : decode cX6_sharePot 141 = .ok (.iadd, 1) := by decide +kernel
theorem dX6_sharePot_142 : decode cX6_sharePot 142 = .ok (.putfield 34, 3) := by decide +kernel
theorem dX6_sharePot_145 : decode cX6_sharePot 145 = .ok (.return_, 1) := by decide +kernel
theorem dX6_mostPaying_0 : decode cX6_mostPaying 0 = .ok (.iconst 0, 1) := by decide +kernel
theorem dX6_mostPaying_1 : decode cX6_mostPaying 1 = .ok (.istore_n 1, 1) := by decide +kernel
theorem dX6_mostPaying_2 : decode cX6_mostPaying 2 = .ok (.iconst 1, 1) := by decide +kernel
theorem dX6_mostPaying_3 : decode cX6_mostPaying 3 = .ok (.istore_n 2, 1) := by decide +kernel
theorem dX6_mostPaying_4 : decode cX6_mostPaying 4 = .ok (.iload_n 2, 1) := by decide +kernel
theorem dX6_mostPaying_5 : decode cX6_mostPaying 5 = .ok (.bipush 10, 2) := by decide +kernel
theorem dX6_mostPaying_7 : decode cX6_mostPaying 7 = .ok (.if_icmp .ge 34, 3) := by decide +kernel
theorem dX6_mostPaying_10 : decode cX6_mostPaying 10 = .ok (.aload_n 0, 1) := by decide +kernel
theorem dX6_mostPaying_11 : decode cX6_mostPaying 11 = .ok (.iload_n 2, 1) := by decide +kernel
theorem dX6_mostPaying_12 : decode cX6_mostPaying 12 = .ok (.invokevirtual 47, 3) := by decide +kernel
theorem dX6_mostPaying_15 : decode cX6_mostPaying 15 = .ok (.ifCond .eq 26, 3) := by decide +kernel
theorem dX6_mostPaying_18 : decode cX6_mostPaying 18 = .ok (.aload_n 0, 1) := by decide +kernel
theorem dX6_mostPaying_19 : decode cX6_mostPaying 19 = .ok (.getfield 21, 3) := by decide +kernel
theorem dX6_mostPaying_22 : decode cX6_mostPaying 22 = .ok (.iload_n 2, 1) := by decide +kernel
theorem dX6_mostPaying_23 : decode cX6_mostPaying 23 = .ok (.iaload, 1) := by decide +kernel
theorem dX6_mostPaying_24 : decode cX6_mostPaying 24 = .ok (.aload_n 0, 1) := by decide +kernel
theorem dX6_mostPaying_25 : decode cX6_mostPaying 25 = .ok (.getfield 21, 3) := by decide +kernel
theorem dX6_mostPaying_28 : decode cX6_mostPaying 28 = .ok (.iload_n 1, 1) := by decide +kernel
theorem dX6_mostPaying_29 : decode cX6_mostPaying 29 = .ok (.iaload, 1) := by decide +kernel
theorem dX6_mostPaying_30 : decode cX6_mostPaying 30 = .ok (.if_icmp .le 5, 3) := by decide +kernel
theorem dX6_mostPaying_33 : decode cX6_mostPaying 33 = .ok (.iload_n 2, 1) := by decide +kernel
theorem dX6_mostPaying_34 : decode cX6_mostPaying 34 = .ok (.istore_n 1, 1) := by decide +kernel
theorem dX6_mostPaying_35 : decode cX6_mostPaying 35 = .ok (.iinc 2 1, 3) := by decide +kernel
theorem dX6_mostPaying_38 : decode cX6_mostPaying 38 = .ok (.goto (-34), 3) := by decide +kernel
theorem dX6_mostPaying_41 : decode cX6_mostPaying 41 = .ok (.iload_n 1, 1) := by decide +kernel
theorem dX6_mostPaying_42 : decode cX6_mostPaying 42 = .ok (.ireturn, 1) := by decide +kernel
theorem dX6_insert_0 : decode cX6_insert 0 = .ok (.iload_n 1, 1) := by decide +kernel
theorem dX6_insert_1 : decode cX6_insert 1 = .ok (.ifCond .lt 18, 3) := by decide +kernel
theorem dX6_insert_4 : decode cX6_insert 4 = .ok (.iload_n 1, 1) := by decide +kernel
theorem dX6_insert_5 : decode cX6_insert 5 = .ok (.aload_n 0, 1) := by decide +kernel
theorem dX6_insert_6 : decode cX6_insert 6 = .ok (.getfield 24, 3) := by decide +kernel
theorem dX6_insert_9 : decode cX6_insert 9 = .ok (.if_icmp .gt 10, 3) := by decide +kernel
theorem dX6_insert_12 : decode cX6_insert 12 = .ok (.aload_n 0, 1) := by decide +kernel
theorem dX6_insert_13 : decode cX6_insert 13 = .ok (.invokevirtual 67, 3) := by decide +kernel
theorem dX6_insert_16 : decode cX6_insert 16 = .ok (.ifCond .eq 4, 3) := by decide +kernel
theorem dX6_insert_19 : decode cX6_insert 19 = .ok (.return_, 1) := by decide +kernel
theorem dX6_insert_20 : decode cX6_insert 20 = .ok (.aload_n 0, 1) := by decide +kernel
theorem dX6_insert_21 : decode cX6_insert 21 = .ok (.getfield 24, 3) := by decide +kernel
theorem dX6_insert_24 : decode cX6_insert 24 = .ok (.istore_n 3, 1) := by decide +kernel
theorem dX6_insert_25 : decode cX6_insert 25 = .ok (.iload_n 3, 1) := by decide +kernel
theorem dX6_insert_26 : decode cX6_insert 26 = .ok (.iload_n 1, 1) := by decide +kernel
theorem dX6_insert_27 : decode cX6_insert 27 = .ok (.if_icmp .le 17, 3) := by decide +kernel
theorem dX6_insert_30 : decode cX6_insert 30 = .ok (.aload_n 0, 1) := by decide +kernel
theorem dX6_insert_31 : decode cX6_insert 31 = .ok (.iload_n 3, 1) := by decide +kernel
theorem dX6_insert_32 : decode cX6_insert 32 = .ok (.iconst 1, 1) := by decide +kernel
theorem dX6_insert_33 : decode cX6_insert 33 = .ok (.isub, 1) := by decide +kernel
theorem dX6_insert_34 : decode cX6_insert 34 = .ok (.iload_n 3, 1) := by decide +kernel
theorem dX6_insert_35 : decode cX6_insert 35 = .ok (.invokevirtual 71, 3) := by decide +kernel
theorem dX6_insert_38 : decode cX6_insert 38 = .ok (.iinc 3 (-1), 3) := by decide +kernel
theorem dX6_insert_41 : decode cX6_insert 41 = .ok (.goto (-16), 3) := by decide +kernel
theorem dX6_insert_44 : decode cX6_insert 44 = .ok (.aload_n 0, 1) := by decide +kernel
theorem dX6_insert_45 : decode cX6_insert 45 = .ok (.dup, 1) := by decide +kernel
theorem dX6_insert_46 : decode cX6_insert 46 = .ok (.getfield 24, 3) := by decide +kernel
theorem dX6_insert_49 : decode cX6_insert 49 = .ok (.iconst 1, 1) := by decide +kernel
theorem dX6_insert_50 : decode cX6_insert 50 = .ok (.iadd, 1) := by decide +kernel
theorem dX6_insert_51 : decode cX6_insert 51 = .ok (.putfield 24, 3) := by decide +kernel
theorem dX6_insert_54 : decode cX6_insert 54 = .ok (.aload_n 0, 1) := by decide +kernel
theorem dX6_insert_55 : decode cX6_insert 55 = .ok (.getfield 9, 3) := by decide +kernel
theorem dX6_insert_58 : decode cX6_insert 58 = .ok (.iload_n 1, 1) := by decide +kernel
theorem dX6_insert_59 : decode cX6_insert 59 = .ok (.iload_n 2, 1) := by decide +kernel
theorem dX6_insert_60 : decode cX6_insert 60 = .ok (.iastore, 1) := by decide +kernel
theorem dX6_insert_61 : decode cX6_insert 61 = .ok (.aload_n 0, 1) := by decide +kernel
theorem dX6_insert_62 : decode cX6_insert 62 = .ok (.getfield 15, 3) := by decide +kernel
theorem dX6_insert_65 : decode cX6_insert 65 = .ok (.iload_n 1, 1) := by decide +kernel
theorem dX6_insert_66 : decode cX6_insert 66 = .ok (.iconst 0, 1) := by decide +kernel
theorem dX6_insert_67 : decode cX6_insert 67 = .ok (.iastore, 1) := by decide +kernel
theorem dX6_insert_68 : decode cX6_insert 68 = .ok (.aload_n 0, 1) := by decide +kernel
theorem dX6_insert_69 : decode cX6_insert 69 = .ok (.getfield 18, 3) := by decide +kernel
theorem dX6_insert_72 : decode cX6_insert 72 = .ok (.iload_n 1, 1) := by decide +kernel
theorem dX6_insert_73 : decode cX6_insert 73 = .ok (.iconst 0, 1) := by decide +kernel
theorem dX6_insert_74 : decode cX6_insert 74 = .ok (.iastore, 1) := by decide +kernel
theorem dX6_insert_75 : decode cX6_insert 75 = .ok (.aload_n 0, 1) := by decide +kernel
theorem dX6_insert_76 : decode cX6_insert 76 = .ok (.getfield 21, 3) := by decide +kernel
theorem dX6_insert_79 : decode cX6_insert 79 = .ok (.iload_n 1, 1) := by decide +kernel
theorem dX6_insert_80 : decode cX6_insert 80 = .ok (.iconst 0, 1) := by decide +kernel
theorem dX6_insert_81 : decode cX6_insert 81 = .ok (.iastore, 1) := by decide +kernel
theorem dX6_insert_82 : decode cX6_insert 82 = .ok (.return_, 1) := by decide +kernel
theorem dX6_remove_0 : decode cX6_remove 0 = .ok (.aload_n 0, 1) := by decide +kernel
theorem dX6_remove_1 : decode cX6_remove 1 = .ok (.iload_n 1, 1) := by decide +kernel
theorem dX6_remove_2 : decode cX6_remove 2 = .ok (.invokevirtual 47, 3) := by decide +kernel
theorem dX6_remove_5 : decode cX6_remove 5 = .ok (.ifCond .ne 4, 3) := by decide +kernel
theorem dX6_remove_8 : decode cX6_remove 8 = .ok (.return_, 1) := by decide +kernel
theorem dX6_remove_9 : decode cX6_remove 9 = .ok (.iload_n 1, 1) := by decide +kernel
theorem dX6_remove_10 : decode cX6_remove 10 = .ok (.iconst 1, 1) := by decide +kernel
theorem dX6_remove_11 : decode cX6_remove 11 = .ok (.iadd, 1) := by decide +kernel
theorem dX6_remove_12 : decode cX6_remove 12 = .ok (.istore_n 2, 1) := by decide +kernel
theorem dX6_remove_13 : decode cX6_remove 13 = .ok (.iload_n 2, 1) := by decide +kernel
theorem dX6_remove_14 : decode cX6_remove 14 = .ok (.bipush 10, 2) := by decide +kernel
theorem dX6_remove_16 : decode cX6_remove 16 = .ok (.if_icmp .ge 25, 3) := by decide +kernel
theorem dX6_remove_19 : decode cX6_remove 19 = .ok (.aload_n 0, 1) := by decide +kernel
theorem dX6_remove_20 : decode cX6_remove 20 = .ok (.iload_n 2, 1) := by decide +kernel
theorem dX6_remove_21 : decode cX6_remove 21 = .ok (.invokevirtual 47, 3) := by decide +kernel
theorem dX6_remove_24 : decode cX6_remove 24 = .ok (.ifCond .eq 17, 3) := by decide +kernel
theorem dX6_remove_27 : decode cX6_remove 27 = .ok (.aload_n 0, 1) := by decide +kernel
theorem dX6_remove_28 : decode cX6_remove 28 = .ok (.iload_n 2, 1) := by decide +kernel
theorem dX6_remove_29 : decode cX6_remove 29 = .ok (.iload_n 2, 1) := by decide +kernel
theorem dX6_remove_30 : decode cX6_remove 30 = .ok (.iconst 1, 1) := by decide +kernel
theorem dX6_remove_31 : decode cX6_remove 31 = .ok (.isub, 1) := by decide +kernel
theorem dX6_remove_32 : decode cX6_remove 32 = .ok (.invokevirtual 71, 3) := by decide +kernel
theorem dX6_remove_35 : decode cX6_remove 35 = .ok (.iinc 2 1, 3) := by decide +kernel
theorem dX6_remove_38 : decode cX6_remove 38 = .ok (.goto (-25), 3) := by decide +kernel
theorem dX6_remove_41 : decode cX6_remove 41 = .ok (.aload_n 0, 1) := by decide +kernel
theorem dX6_remove_42 : decode cX6_remove 42 = .ok (.dup, 1) := by decide +kernel
theorem dX6_remove_43 : decode cX6_remove 43 = .ok (.getfield 24, 3) := by decide +kernel
theorem dX6_remove_46 : decode cX6_remove 46 = .ok (.iconst 1, 1) := by decide +kernel
theorem dX6_remove_47 : decode cX6_remove 47 = .ok (.isub, 1) := by decide +kernel
theorem dX6_remove_48 : decode cX6_remove 48 = .ok (.putfield 24, 3) := by decide +kernel
theorem dX6_remove_51 : decode cX6_remove 51 = .ok (.return_, 1) := by decide +kernel
theorem dX6_merge_0 : decode cX6_merge 0 = .ok (.aload_n 0, 1) := by decide +kernel
theorem dX6_merge_1 : decode cX6_merge 1 = .ok (.iload_n 1, 1) := by decide +kernel
theorem dX6_merge_2 : decode cX6_merge 2 = .ok (.invokevirtual 47, 3) := by decide +kernel
theorem dX6_merge_5 : decode cX6_merge 5 = .ok (.ifCond .eq 11, 3) := by decide +kernel
theorem dX6_merge_8 : decode cX6_merge 8 = .ok (.aload_n 0, 1) := by decide +kernel
theorem dX6_merge_9 : decode cX6_merge 9 = .ok (.iload_n 2, 1) := by decide +kernel
theorem dX6_merge_10 : decode cX6_merge 10 = .ok (.invokevirtual 47, 3) := by decide +kernel
theorem dX6_merge_13 : decode cX6_merge 13 = .ok (.ifCond .ne 4, 3) := by decide +kernel
theorem dX6_merge_16 : decode cX6_merge 16 = .ok (.return_, 1) := by decide +kernel
theorem dX6_merge_17 : decode cX6_merge 17 = .ok (.aload_n 0, 1) := by decide +kernel
theorem dX6_merge_18 : decode cX6_merge 18 = .ok (.getfield 9, 3) := by decide +kernel
theorem dX6_merge_21 : decode cX6_merge 21 = .ok (.iload_n 1, 1) := by decide +kernel
theorem dX6_merge_22 : decode cX6_merge 22 = .ok (.dup2, 1) := by decide +kernel
theorem dX6_merge_23 : decode cX6_merge 23 = .ok (.iaload, 1) := by decide +kernel
theorem dX6_merge_24 : decode cX6_merge 24 = .ok (.aload_n 0, 1) := by decide +kernel
theorem dX6_merge_25 : decode cX6_merge 25 = .ok (.getfield 9, 3) := by decide +kernel
theorem dX6_merge_28 : decode cX6_merge 28 = .ok (.iload_n 2, 1) := by decide +kernel
theorem dX6_merge_29 : decode cX6_merge 29 = .ok (.iaload, 1) := by decide +kernel
theorem dX6_merge_30 : decode cX6_merge 30 = .ok (.iadd, 1) := by decide +kernel
theorem dX6_merge_31 : decode cX6_merge 31 = .ok (.iastore, 1) := by decide +kernel
theorem dX6_merge_32 : decode cX6_merge 32 = .ok (.aload_n 0, 1) := by decide +kernel
theorem dX6_merge_33 : decode cX6_merge 33 = .ok (.getfield 15, 3) := by decide +kernel
theorem dX6_merge_36 : decode cX6_merge 36 = .ok (.iload_n 1, 1) := by decide +kernel
theorem dX6_merge_37 : decode cX6_merge 37 = .ok (.dup2, 1) := by decide +kernel
theorem dX6_merge_38 : decode cX6_merge 38 = .ok (.iaload, 1) := by decide +kernel
theorem dX6_merge_39 : decode cX6_merge 39 = .ok (.aload_n 0, 1) := by decide +kernel
theorem dX6_merge_40 : decode cX6_merge 40 = .ok (.getfield 15, 3) := by decide +kernel
theorem dX6_merge_43 : decode cX6_merge 43 = .ok (.iload_n 2, 1) := by decide +kernel
theorem dX6_merge_44 : decode cX6_merge 44 = .ok (.iaload, 1) := by decide +kernel
theorem dX6_merge_45 : decode cX6_merge 45 = .ok (.iadd, 1) := by decide +kernel
theorem dX6_merge_46 : decode cX6_merge 46 = .ok (.iastore, 1) := by decide +kernel
theorem dX6_merge_47 : decode cX6_merge 47 = .ok (.aload_n 0, 1) := by decide +kernel
theorem dX6_merge_48 : decode cX6_merge 48 = .ok (.getfield 18, 3) := by decide +kernel
theorem dX6_merge_51 : decode cX6_merge 51 = .ok (.iload_n 1, 1) := by decide +kernel
theorem dX6_merge_52 : decode cX6_merge 52 = .ok (.dup2, 1) := by decide +kernel
theorem dX6_merge_53 : decode cX6_merge 53 = .ok (.iaload, 1) := by decide +kernel
theorem dX6_merge_54 : decode cX6_merge 54 = .ok (.aload_n 0, 1) := by decide +kernel
theorem dX6_merge_55 : decode cX6_merge 55 = .ok (.getfield 18, 3) := by decide +kernel
theorem dX6_merge_58 : decode cX6_merge 58 = .ok (.iload_n 2, 1) := by decide +kernel
theorem dX6_merge_59 : decode cX6_merge 59 = .ok (.iaload, 1) := by decide +kernel
theorem dX6_merge_60 : decode cX6_merge 60 = .ok (.iadd, 1) := by decide +kernel
theorem dX6_merge_61 : decode cX6_merge 61 = .ok (.iastore, 1) := by decide +kernel
theorem dX6_merge_62 : decode cX6_merge 62 = .ok (.aload_n 0, 1) := by decide +kernel
theorem dX6_merge_63 : decode cX6_merge 63 = .ok (.getfield 21, 3) := by decide +kernel
theorem dX6_merge_66 : decode cX6_merge 66 = .ok (.iload_n 1, 1) := by decide +kernel
theorem dX6_merge_67 : decode cX6_merge 67 = .ok (.dup2, 1) := by decide +kernel
theorem dX6_merge_68 : decode cX6_merge 68 = .ok (.iaload, 1) := by decide +kernel
theorem dX6_merge_69 : decode cX6_merge 69 = .ok (.aload_n 0, 1) := by decide +kernel
theorem dX6_merge_70 : decode cX6_merge 70 = .ok (.getfield 21, 3) := by decide +kernel
theorem dX6_merge_73 : decode cX6_merge 73 = .ok (.iload_n 2, 1) := by decide +kernel
theorem dX6_merge_74 : decode cX6_merge 74 = .ok (.iaload, 1) := by decide +kernel
theorem dX6_merge_75 : decode cX6_merge 75 = .ok (.iadd, 1) := by decide +kernel
theorem dX6_merge_76 : decode cX6_merge 76 = .ok (.iastore, 1) := by decide +kernel
theorem dX6_merge_77 : decode cX6_merge 77 = .ok (.aload_n 0, 1) := by decide +kernel
theorem dX6_merge_78 : decode cX6_merge 78 = .ok (.iload_n 2, 1) := by decide +kernel
theorem dX6_merge_79 : decode cX6_merge 79 = .ok (.invokevirtual 74, 3) := by decide +kernel
theorem dX6_merge_82 : decode cX6_merge 82 = .ok (.return_, 1) := by decide +kernel
theorem dX6_copyHouse_0 : decode cX6_copyHouse 0 = .ok (.iload_n 1, 1) := by decide +kernel
theorem dX6_copyHouse_1 : decode cX6_copyHouse 1 = .ok (.ifCond .lt 19, 3) := by decide +kernel
theorem dX6_copyHouse_4 : decode cX6_copyHouse 4 = .ok (.iload_n 1, 1) := by decide +kernel
theorem dX6_copyHouse_5 : decode cX6_copyHouse 5 = .ok (.bipush 10, 2) := by decide +kernel
theorem dX6_copyHouse_7 : decode cX6_copyHouse 7 = .ok (.if_icmp .ge 13, 3) := by decide +kernel
theorem dX6_copyHouse_10 : decode cX6_copyHouse 10 = .ok (.iload_n 2, 1) := by decide +kernel
theorem dX6_copyHouse_11 : decode cX6_copyHouse 11 = .ok (.ifCond .lt 9, 3) := by decide +kernel
theorem dX6_copyHouse_14 : decode cX6_copyHouse 14 = .ok (.iload_n 2, 1) := by decide +kernel
theorem dX6_copyHouse_15 : decode cX6_copyHouse 15 = .ok (.bipush 10, 2) := by decide +kernel
theorem dX6_copyHouse_17 : decode cX6_copyHouse 17 = .ok (.if_icmp .lt 4, 3) := by decide +kernel
theorem dX6_copyHouse_20 : decode cX6_copyHouse 20 = .ok (.return_, 1) := by decide +kernel
theorem dX6_copyHouse_21 : decode cX6_copyHouse 21 = .ok (.aload_n 0, 1) := by decide +kernel
theorem dX6_copyHouse_22 : decode cX6_copyHouse 22 = .ok (.getfield 9, 3) := by decide +kernel
theorem dX6_copyHouse_25 : decode cX6_copyHouse 25 = .ok (.iload_n 2, 1) := by decide +kernel
theorem dX6_copyHouse_26 : decode cX6_copyHouse 26 = .ok (.aload_n 0, 1) := by decide +kernel
theorem dX6_copyHouse_27 : decode cX6_copyHouse 27 = .ok (.getfield 9, 3) := by decide +kernel
theorem dX6_copyHouse_30 : decode cX6_copyHouse 30 = .ok (.iload_n 1, 1) := by decide +kernel
theorem dX6_copyHouse_31 : decode cX6_copyHouse 31 = .ok (.iaload, 1) := by decide +kernel
theorem dX6_copyHouse_32 : decode cX6_copyHouse 32 = .ok (.iastore, 1) := by decide +kernel
theorem dX6_copyHouse_33 : decode cX6_copyHouse 33 = .ok (.aload_n 0, 1) := by decide +kernel
theorem dX6_copyHouse_34 : decode cX6_copyHouse 34 = .ok (.getfield 15, 3) := by decide +kernel
theorem dX6_copyHouse_37 : decode cX6_copyHouse 37 = .ok (.iload_n 2, 1) := by decide +kernel
theorem dX6_copyHouse_38 : decode cX6_copyHouse 38 = .ok (.aload_n 0, 1) := by decide +kernel
theorem dX6_copyHouse_39 : decode cX6_copyHouse 39 = .ok (.getfield 15, 3) := by decide +kernel
theorem dX6_copyHouse_42 : decode cX6_copyHouse 42 = .ok (.iload_n 1, 1) := by decide +kernel
theorem dX6_copyHouse_43 : decode cX6_copyHouse 43 = .ok (.iaload, 1) := by decide +kernel
theorem dX6_copyHouse_44 : decode cX6_copyHouse 44 = .ok (.iastore, 1) := by decide +kernel
theorem dX6_copyHouse_45 : decode cX6_copyHouse 45 = .ok (.aload_n 0, 1) := by decide +kernel
theorem dX6_copyHouse_46 : decode cX6_copyHouse 46 = .ok (.getfield 18, 3) := by decide +kernel
theorem dX6_copyHouse_49 : decode cX6_copyHouse 49 = .ok (.iload_n 2, 1) := by decide +kernel
theorem dX6_copyHouse_50 : decode cX6_copyHouse 50 = .ok (.aload_n 0, 1) := by decide +kernel
theorem dX6_copyHouse_51 : decode cX6_copyHouse 51 = .ok (.getfield 18, 3) := by decide +kernel
theorem dX6_copyHouse_54 : decode cX6_copyHouse 54 = .ok (.iload_n 1, 1) := by decide +kernel
theorem dX6_copyHouse_55 : decode cX6_copyHouse 55 = .ok (.iaload, 1) := by decide +kernel
theorem dX6_copyHouse_56 : decode cX6_copyHouse 56 = .ok (.iastore, 1) := by decide +kernel
theorem dX6_copyHouse_57 : decode cX6_copyHouse 57 = .ok (.aload_n 0, 1) := by decide +kernel
theorem dX6_copyHouse_58 : decode cX6_copyHouse 58 = .ok (.getfield 21, 3) := by decide +kernel
theorem dX6_copyHouse_61 : decode cX6_copyHouse 61 = .ok (.iload_n 2, 1) := by decide +kernel
theorem dX6_copyHouse_62 : decode cX6_copyHouse 62 = .ok (.aload_n 0, 1) := by decide +kernel
theorem dX6_copyHouse_63 : decode cX6_copyHouse 63 = .ok (.getfield 21, 3) := by decide +kernel
theorem dX6_copyHouse_66 : decode cX6_copyHouse 66 = .ok (.iload_n 1, 1) := by decide +kernel
theorem dX6_copyHouse_67 : decode cX6_copyHouse 67 = .ok (.iaload, 1) := by decide +kernel
theorem dX6_copyHouse_68 : decode cX6_copyHouse 68 = .ok (.iastore, 1) := by decide +kernel
theorem dX6_copyHouse_69 : decode cX6_copyHouse 69 = .ok (.return_, 1) := by decide +kernel
theorem dX7_init_0 : decode cX7_init 0 = .ok (.aload_n 0, 1) := by decide +kernel
theorem dX7_init_1 : decode cX7_init 1 = .ok (.invokespecial 3, 3) := by decide +kernel
theorem dX7_init_4 : decode cX7_init 4 = .ok (.aload_n 0, 1) := by decide +kernel
theorem dX7_init_5 : decode cX7_init 5 = .ok (.new 9, 3) := by decide +kernel
theorem dX7_init_8 : decode cX7_init 8 = .ok (.dup, 1) := by decide +kernel
theorem dX7_init_9 : decode cX7_init 9 = .ok (.invokespecial 11, 3) := by decide +kernel
theorem dX7_init_12 : decode cX7_init 12 = .ok (.putfield 12, 3) := by decide +kernel
theorem dX7_init_15 : decode cX7_init 15 = .ok (.aload_n 0, 1) := by decide +kernel
theorem dX7_init_16 : decode cX7_init 16 = .ok (.new 9, 3) := by decide +kernel
theorem dX7_init_19 : decode cX7_init 19 = .ok (.dup, 1) := by decide +kernel
theorem dX7_init_20 : decode cX7_init 20 = .ok (.invokespecial 11, 3) := by decide +kernel
theorem dX7_init_23 : decode cX7_init 23 = .ok (.putfield 18, 3) := by decide +kernel
theorem dX7_init_26 : decode cX7_init 26 = .ok (.aload_n 0, 1) := by decide +kernel
theorem dX7_init_27 : decode cX7_init 27 = .ok (.bipush 10, 2) := by decide +kernel
theorem dX7_init_29 : decode cX7_init 29 = .ok (.newarray .int, 2) := by decide +kernel
theorem dX7_init_31 : decode cX7_init 31 = .ok (.putfield 21, 3) := by decide +kernel
theorem dX7_init_34 : decode cX7_init 34 = .ok (.aload_n 0, 1) := by decide +kernel
theorem dX7_init_35 : decode cX7_init 35 = .ok (.bipush 7, 2) := by decide +kernel
theorem dX7_init_37 : decode cX7_init 37 = .ok (.newarray .int, 2) := by decide +kernel
theorem dX7_init_39 : decode cX7_init 39 = .ok (.putfield 25, 3) := by decide +kernel
theorem dX7_init_42 : decode cX7_init 42 = .ok (.aload_n 0, 1) := by decide +kernel
theorem dX7_init_43 : decode cX7_init 43 = .ok (.bipush 10, 2) := by decide +kernel
theorem dX7_init_45 : decode cX7_init 45 = .ok (.newarray .int, 2) := by decide +kernel
theorem dX7_init_47 : decode cX7_init 47 = .ok (.putfield 28, 3) := by decide +kernel
theorem dX7_init_50 : decode cX7_init 50 = .ok (.aload_n 0, 1) := by decide +kernel
theorem dX7_init_51 : decode cX7_init 51 = .ok (.invokevirtual 31, 3) := by decide +kernel
theorem dX7_init_54 : decode cX7_init 54 = .ok (.return_, 1) := by decide +kernel
theorem dX7_clear_0 : decode cX7_clear 0 = .ok (.aload_n 0, 1) := by decide +kernel
theorem dX7_clear_1 : decode cX7_clear 1 = .ok (.getfield 12, 3) := by decide +kernel
theorem dX7_clear_4 : decode cX7_clear 4 = .ok (.iconst 3, 1) := by decide +kernel
theorem dX7_clear_5 : decode cX7_clear 5 = .ok (.invokevirtual 34, 3) := by decide +kernel
theorem dX7_clear_8 : decode cX7_clear 8 = .ok (.aload_n 0, 1) := by decide +kernel
theorem dX7_clear_9 : decode cX7_clear 9 = .ok (.getfield 18, 3) := by decide +kernel
theorem dX7_clear_12 : decode cX7_clear 12 = .ok (.iconst 0, 1) := by decide +kernel
theorem dX7_clear_13 : decode cX7_clear 13 = .ok (.invokevirtual 38, 3) := by decide +kernel
theorem dX7_clear_16 : decode cX7_clear 16 = .ok (.aload_n 0, 1) := by decide +kernel
theorem dX7_clear_17 : decode cX7_clear 17 = .ok (.iconst 0, 1) := by decide +kernel
theorem dX7_clear_18 : decode cX7_clear 18 = .ok (.putfield 41, 3) := by decide +kernel
theorem dX7_clear_21 : decode cX7_clear 21 = .ok (.aload_n 0, 1) := by decide +kernel
theorem dX7_clear_22 : decode cX7_clear 22 = .ok (.iconst 0, 1) := by decide +kernel
theorem dX7_clear_23 : decode cX7_clear 23 = .ok (.putfield 45, 3) := by decide +kernel
theorem dX7_clear_26 : decode cX7_clear 26 = .ok (.aload_n 0, 1) := by decide +kernel
theorem dX7_clear_27 : decode cX7_clear 27 = .ok (.iconst 0, 1) := by decide +kernel
theorem dX7_clear_28 : decode cX7_clear 28 = .ok (.putfield 49, 3) := by decide +kernel
theorem dX7_clear_31 : decode cX7_clear 31 = .ok (.aload_n 0, 1) := by decide +kernel
theorem dX7_clear_32 : decode cX7_clear 32 = .ok (.iconst 0, 1) := by decide +kernel
theorem dX7_clear_33 : decode cX7_clear 33 = .ok (.putfield 52, 3) := by decide +kernel
theorem dX7_clear_36 : decode cX7_clear 36 = .ok (.aload_n 0, 1) := by decide +kernel
theorem dX7_clear_37 : decode cX7_clear 37 = .ok (.bipush 7, 2) := by decide +kernel
theorem dX7_clear_39 : decode cX7_clear 39 = .ok (.putfield 55, 3) := by decide +kernel
theorem dX7_clear_42 : decode cX7_clear 42 = .ok (.aload_n 0, 1) := by decide +kernel
theorem dX7_clear_43 : decode cX7_clear 43 = .ok (.iconst 0, 1) := by decide +kernel
theorem dX7_clear_44 : decode cX7_clear 44 = .ok (.putfield 58, 3) := by decide +kernel
theorem dX7_clear_47 : decode cX7_clear 47 = .ok (.return_, 1) := by decide +kernel
theorem dX7_addHouse_0 : decode cX7_addHouse 0 = .ok (.aload_n 0, 1) := by decide +kernel
theorem dX7_addHouse_1 : decode cX7_addHouse 1 = .ok (.getfield 41, 3) := by decide +kernel
theorem dX7_addHouse_4 : decode cX7_addHouse 4 = .ok (.ifCond .lt 32, 3) := by decide +kernel
theorem dX7_addHouse_7 : decode cX7_addHouse 7 = .ok (.aload_n 0, 1) := by decide +kernel
theorem dX7_addHouse_8 : decode cX7_addHouse 8 = .ok (.getfield 41, 3) := by decide +kernel
theorem dX7_addHouse_11 : decode cX7_addHouse 11 = .ok (.aload_n 0, 1) := by decide +kernel
theorem dX7_addHouse_12 : decode cX7_addHouse 12 = .ok (.getfield 21, 3) := by decide +kernel
theorem dX7_addHouse_15 : decode cX7_addHouse 15 = .ok (.arraylength, 1) := by decide +kernel
theorem dX7_addHouse_16 : decode cX7_addHouse 16 = .ok (.if_icmp .ge 20, 3) := by decide +kernel
theorem dX7_addHouse_19 : decode cX7_addHouse 19 = .ok (.aload_n 0, 1) := by decide +kernel
theorem dX7_addHouse_20 : decode cX7_addHouse 20 = .ok (.getfield 21, 3) := by decide +kernel
theorem dX7_addHouse_23 : decode cX7_addHouse 23 = .ok (.aload_n 0, 1) := by decide +kernel
theorem dX7_addHouse_24 : decode cX7_addHouse 24 = .ok (.dup, 1) := by decide +kernel
theorem dX7_addHouse_25 : decode cX7_addHouse 25 = .ok (.getfield 41, 3) := by decide +kernel
theorem dX7_addHouse_28 : decode cX7_addHouse 28 = .ok (.dup_x1, 1) := by decide +kernel
theorem dX7_addHouse_29 : decode cX7_addHouse 29 = .ok (.iconst 1, 1) := by decide +kernel
theorem dX7_addHouse_30 : decode cX7_addHouse 30 = .ok (.iadd, 1) := by decide +kernel
theorem dX7_addHouse_31 : decode cX7_addHouse 31 = .ok (.putfield 41, 3) := by decide +kernel
theorem dX7_addHouse_34 : decode cX7_addHouse 34 = .ok (.iload_n 1, 1) := by decide +kernel
theorem dX7_addHouse_35 : decode cX7_addHouse 35 = .ok (.iastore, 1) := by decide +kernel
theorem dX7_addHouse_36 : decode cX7_addHouse 36 = .ok (.return_, 1) := by decide +kernel
theorem dX7_share_0 : decode cX7_share 0 = .ok (.aload_n 0, 1) := by decide +kernel
theorem dX7_share_1 : decode cX7_share 1 = .ok (.iload_n 1, 1) := by decide +kernel
theorem dX7_share_2 : decode cX7_share 2 = .ok (.putfield 52, 3) := by decide +kernel
theorem dX7_share_5 : decode cX7_share 5 = .ok (.aload_n 0, 1) := by decide +kernel
theorem dX7_share_6 : decode cX7_share 6 = .ok (.iload_n 2, 1) := by decide +kernel
theorem dX7_share_7 : decode cX7_share 7 = .ok (.putfield 55, 3) := by decide +kernel
theorem dX7_share_10 : decode cX7_share 10 = .ok (.return_, 1) := by decide +kernel
theorem dX7_gapOf_0 : decode cX7_gapOf 0 = .ok (.aload_n 1, 1) := by decide +kernel
theorem dX7_gapOf_1 : decode cX7_gapOf 1 = .ok (.iload_n 2, 1) := by decide +kernel
theorem dX7_gapOf_2 : decode cX7_gapOf 2 = .ok (.invokevirtual 61, 3) := by decide +kernel
theorem dX7_gapOf_5 : decode cX7_gapOf 5 = .ok (.ifCond .ne 5, 3) := by decide +kernel
theorem dX7_gapOf_8 : decode cX7_gapOf 8 = .ok (.iconst 0, 1) := by decide +kernel
theorem dX7_gapOf_9 : decode cX7_gapOf 9 = .ok (.ireturn, 1) := by decide +kernel
theorem dX7_gapOf_10 : decode cX7_gapOf 10 = .ok (.aload_n 0, 1) := by decide +kernel
theorem dX7_gapOf_11 : decode cX7_gapOf 11 = .ok (.aload_n 1, 1) := by decide +kernel
theorem dX7_gapOf_12 : decode cX7_gapOf 12 = .ok (.iload_n 2, 1) := by decide +kernel
theorem dX7_gapOf_13 : decode cX7_gapOf 13 = .ok (.iconst 0, 1) := by decide +kernel
theorem dX7_gapOf_14 : decode cX7_gapOf 14 = .ok (.invokevirtual 67, 3) := by decide +kernel
theorem dX7_gapOf_17 : decode cX7_gapOf 17 = .ok (.aload_n 0, 1) := by decide +kernel
theorem dX7_gapOf_18 : decode cX7_gapOf 18 = .ok (.getfield 25, 3) := by decide +kernel
theorem dX7_gapOf_21 : decode cX7_gapOf 21 = .ok (.iconst 3, 1) := by decide +kernel
theorem dX7_gapOf_22 : decode cX7_gapOf 22 = .ok (.iaload, 1) := by decide +kernel
theorem dX7_gapOf_23 : decode cX7_gapOf 23 = .ok (.ireturn, 1) := by decide +kernel
theorem dX7_wanted_0 : decode cX7_wanted 0 = .ok (.aload_n 1, 1) := by decide +kernel
theorem dX7_wanted_1 : decode cX7_wanted 1 = .ok (.iload_n 2, 1) := by decide +kernel
theorem dX7_wanted_2 : decode cX7_wanted 2 = .ok (.invokevirtual 61, 3) := by decide +kernel
theorem dX7_wanted_5 : decode cX7_wanted 5 = .ok (.ifCond .ne 5, 3) := by decide +kernel
theorem dX7_wanted_8 : decode cX7_wanted 8 = .ok (.iconst 0, 1) := by decide +kernel
theorem dX7_wanted_9 : decode cX7_wanted 9 = .ok (.ireturn, 1) := by decide +kernel
theorem dX7_wanted_10 : decode cX7_wanted 10 = .ok (.aload_n 0, 1) := by decide +kernel
theorem dX7_wanted_11 : decode cX7_wanted 11 = .ok (.aload_n 1, 1) := by decide +kernel
theorem dX7_wanted_12 : decode cX7_wanted 12 = .ok (.iload_n 2, 1) := by decide +kernel
theorem dX7_wanted_13 : decode cX7_wanted 13 = .ok (.aload_n 0, 1) := by decide +kernel
theorem dX7_wanted_14 : decode cX7_wanted 14 = .ok (.getfield 12, 3) := by decide +kernel
theorem dX7_wanted_17 : decode cX7_wanted 17 = .ok (.getfield 71, 3) := by decide +kernel
theorem dX7_wanted_20 : decode cX7_wanted 20 = .ok (.invokevirtual 67, 3) := by decide +kernel
theorem dX7_wanted_23 : decode cX7_wanted 23 = .ok (.iconst 0, 1) := by decide +kernel
theorem dX7_wanted_24 : decode cX7_wanted 24 = .ok (.aload_n 0, 1) := by decide +kernel
theorem dX7_wanted_25 : decode cX7_wanted 25 = .ok (.getfield 12, 3) := by decide +kernel
theorem dX7_wanted_28 : decode cX7_wanted 28 = .ok (.aload_n 0, 1) := by decide +kernel
theorem dX7_wanted_29 : decode cX7_wanted 29 = .ok (.getfield 25, 3) := by decide +kernel
theorem dX7_wanted_32 : decode cX7_wanted 32 = .ok (.invokevirtual 74, 3) := by decide +kernel
theorem dX7_wanted_35 : decode cX7_wanted 35 = .ok (.aload_n 0, 1) := by decide +kernel
theorem dX7_wanted_36 : decode cX7_wanted 36 = .ok (.getfield 25, 3) := by decide +kernel
theorem dX7_wanted_39 : decode cX7_wanted 39 = .ok (.iconst 2, 1) := by decide +kernel
theorem dX7_wanted_40 : decode cX7_wanted 40 = .ok (.iaload, 1) := by decide +kernel
theorem dX7_wanted_41 : decode cX7_wanted 41 = .ok (.invokestatic 78, 3) := by decide +kernel
theorem dX7_wanted_44 : decode cX7_wanted 44 = .ok (.invokestatic 84, 3) := by decide +kernel
theorem dX7_wanted_47 : decode cX7_wanted 47 = .ok (.ireturn, 1) := by decide +kernel
theorem dX7_look_0 : decode cX7_look 0 = .ok (.aload_n 1, 1) := by decide +kernel
theorem dX7_look_1 : decode cX7_look 1 = .ok (.getfield 87, 3) := by decide +kernel
theorem dX7_look_4 : decode cX7_look 4 = .ok (.iconst 1, 1) := by decide +kernel
theorem dX7_look_5 : decode cX7_look 5 = .ok (.isub, 1) := by decide +kernel
theorem dX7_look_6 : decode cX7_look 6 = .ok (.istore 4, 2) := by decide +kernel
theorem dX7_look_8 : decode cX7_look 8 = .ok (.iload_n 2, 1) := by decide +kernel
theorem dX7_look_9 : decode cX7_look 9 = .ok (.ifCond .le 9, 3) := by decide +kernel
theorem dX7_look_12 : decode cX7_look 12 = .ok (.iload_n 2, 1) := by decide +kernel
theorem dX7_look_13 : decode cX7_look 13 = .ok (.iconst 1, 1) := by decide +kernel
theorem dX7_look_14 : decode cX7_look 14 = .ok (.isub, 1) := by decide +kernel
theorem dX7_look_15 : decode cX7_look 15 = .ok (.goto 16, 3) := by decide +kernel
theorem dX7_look_18 : decode cX7_look 18 = .ok (.aload_n 0, 1) := by decide +kernel
theorem dX7_look_19 : decode cX7_look 19 = .ok (.getfield 45, 3) := by decide +kernel
theorem dX7_look_22 : decode cX7_look 22 = .ok (.ifCond .eq 7, 3) := by decide +kernel
theorem dX7_look_25 : decode cX7_look 25 = .ok (.iload_n 2, 1) := by decide +kernel
theorem dX7_look_26 : decode cX7_look 26 = .ok (.goto 5, 3) := by decide +kernel
theorem dX7_look_29 : decode cX7_look 29 = .ok (.iload 4, 2) := by decide +kernel
theorem dX7_look_31 : decode cX7_look 31 = .ok (.istore 5, 2) := by decide +kernel
theorem dX7_look_33 : decode cX7_look 33 = .ok (.iload_n 2, 1) := by decide +kernel
theorem dX7_look_34 : decode cX7_look 34 = .ok (.iload 4, 2) := by decide +kernel
theorem dX7_look_36 : decode cX7_look 36 = .ok (.if_icmp .ge 9, 3) := by decide +kernel
theorem dX7_look_39 : decode cX7_look 39 = .ok (.iload_n 2, 1) := by decide +kernel
theorem dX7_look_40 : decode cX7_look 40 = .ok (.iconst 1, 1) := by decide +kernel
theorem dX7_look_41 : decode cX7_look 41 = .ok (.iadd, 1) := by decide +kernel
theorem dX7_look_42 : decode cX7_look 42 = .ok (.goto 15, 3) := by decide +kernel
theorem dX7_look_45 : decode cX7_look 45 = .ok (.aload_n 0, 1) := by decide +kernel
theorem dX7_look_46 : decode cX7_look 46 = .ok (.getfield 45, 3) := by decide +kernel
theorem dX7_look_49 : decode cX7_look 49 = .ok (.ifCond .eq 7, 3) := by decide +kernel
theorem dX7_look_52 : decode cX7_look 52 = .ok (.iload_n 2, 1) := by decide +kernel
theorem dX7_look_53 : decode cX7_look 53 = .ok (.goto 4, 3) := by decide +kernel
theorem dX7_look_56 : decode cX7_look 56 = .ok (.iconst 0, 1) := by decide +kernel
theorem dX7_look_57 : decode cX7_look 57 = .ok (.istore 6, 2) := by decide +kernel
theorem dX7_look_59 : decode cX7_look 59 = .ok (.aload_n 1, 1) := by decide +kernel
theorem dX7_look_60 : decode cX7_look 60 = .ok (.iload 5, 2) := by decide +kernel
theorem dX7_look_62 : decode cX7_look 62 = .ok (.invokevirtual 88, 3) := by decide +kernel
theorem dX7_look_65 : decode cX7_look 65 = .ok (.istore 7, 2) := by decide +kernel
theorem dX7_look_67 : decode cX7_look 67 = .ok (.aload_n 1, 1) := by decide +kernel
theorem dX7_look_68 : decode cX7_look 68 = .ok (.iload 6, 2) := by decide +kernel
theorem dX7_look_70 : decode cX7_look 70 = .ok (.invokevirtual 88, 3) := by decide +kernel
theorem dX7_look_73 : decode cX7_look 73 = .ok (.istore 8, 2) := by decide +kernel
theorem dX7_look_75 : decode cX7_look 75 = .ok (.aload_n 0, 1) := by decide +kernel
theorem dX7_look_76 : decode cX7_look 76 = .ok (.getfield 25, 3) := by decide +kernel
theorem dX7_look_79 : decode cX7_look 79 = .ok (.iconst 0, 1) := by decide +kernel
theorem dX7_look_80 : decode cX7_look 80 = .ok (.iload 7, 2) := by decide +kernel
theorem dX7_look_82 : decode cX7_look 82 = .ok (.iastore, 1) := by decide +kernel
theorem dX7_look_83 : decode cX7_look 83 = .ok (.aload_n 0, 1) := by decide +kernel
theorem dX7_look_84 : decode cX7_look 84 = .ok (.getfield 25, 3) := by decide +kernel
theorem dX7_look_87 : decode cX7_look 87 = .ok (.iconst 1, 1) := by decide +kernel
theorem dX7_look_88 : decode cX7_look 88 = .ok (.iload 8, 2) := by decide +kernel
theorem dX7_look_90 : decode cX7_look 90 = .ok (.iastore, 1) := by decide +kernel
theorem dX7_look_91 : decode cX7_look 91 = .ok (.aload_n 0, 1) := by decide +kernel
theorem dX7_look_92 : decode cX7_look 92 = .ok (.getfield 25, 3) := by decide +kernel
theorem dX7_look_95 : decode cX7_look 95 = .ok (.iconst 2, 1) := by decide +kernel
theorem dX7_look_96 : decode cX7_look 96 = .ok (.aload_n 1, 1) := by decide +kernel
theorem dX7_look_97 : decode cX7_look 97 = .ok (.iload_n 2, 1) := by decide +kernel
theorem dX7_look_98 : decode cX7_look 98 = .ok (.invokevirtual 88, 3) := by decide +kernel
theorem dX7_look_101 : decode cX7_look 101 = .ok (.iastore, 1) := by decide +kernel
theorem dX7_look_102 : decode cX7_look 102 = .ok (.aload_n 0, 1) := by decide +kernel
theorem dX7_look_103 : decode cX7_look 103 = .ok (.getfield 25, 3) := by decide +kernel
theorem dX7_look_106 : decode cX7_look 106 = .ok (.iconst 3, 1) := by decide +kernel
theorem dX7_look_107 : decode cX7_look 107 = .ok (.iload 7, 2) := by decide +kernel
theorem dX7_look_109 : decode cX7_look 109 = .ok (.iload 8, 2) := by decide +kernel
theorem dX7_look_111 : decode cX7_look 111 = .ok (.isub, 1) := by decide +kernel
theorem dX7_look_112 : decode cX7_look 112 = .ok (.invokestatic 92, 3) := by decide +kernel
theorem dX7_look_115 : decode cX7_look 115 = .ok (.iastore, 1) := by decide +kernel
theorem dX7_look_116 : decode cX7_look 116 = .ok (.aload_n 0, 1) := by decide +kernel
theorem dX7_look_117 : decode cX7_look 117 = .ok (.getfield 25, 3) := by decide +kernel
theorem dX7_look_120 : decode cX7_look 120 = .ok (.iconst 4, 1) := by decide +kernel
theorem dX7_look_121 : decode cX7_look 121 = .ok (.aload_n 1, 1) := by decide +kernel
theorem dX7_look_122 : decode cX7_look 122 = .ok (.getfield 95, 3) := by decide +kernel
theorem dX7_look_125 : decode cX7_look 125 = .ok (.iastore, 1) := by decide +kernel
theorem dX7_look_126 : decode cX7_look 126 = .ok (.aload_n 0, 1) := by decide +kernel
theorem dX7_look_127 : decode cX7_look 127 = .ok (.getfield 25, 3) := by decide +kernel
theorem dX7_look_130 : decode cX7_look 130 = .ok (.bipush 6, 2) := by decide +kernel
theorem dX7_look_132 : decode cX7_look 132 = .ok (.aload_n 1, 1) := by decide +kernel
theorem dX7_look_133 : decode cX7_look 133 = .ok (.getfield 98, 3) := by decide +kernel
theorem dX7_look_136 : decode cX7_look 136 = .ok (.iastore, 1) := by decide +kernel
theorem dX7_look_137 : decode cX7_look 137 = .ok (.aload_n 0, 1) := by decide +kernel
theorem dX7_look_138 : decode cX7_look 138 = .ok (.getfield 25, 3) := by decide +kernel
theorem dX7_look_141 : decode cX7_look 141 = .ok (.iconst 5, 1) := by decide +kernel
theorem dX7_look_142 : decode cX7_look 142 = .ok (.iload_n 3, 1) := by decide +kernel
theorem dX7_look_143 : decode cX7_look 143 = .ok (.ifCond .eq 19, 3) := by decide +kernel
theorem dX7_look_146 : decode cX7_look 146 = .ok (.aload_n 0, 1) := by decide +kernel
theorem dX7_look_147 : decode cX7_look 147 = .ok (.bipush 20, 2) := by decide +kernel
theorem dX7_look_149 : decode cX7_look 149 = .ok (.aload_n 1, 1) := by decide +kernel
theorem dX7_look_150 : decode cX7_look 150 = .ok (.getfield 95, 3) := by decide +kernel
theorem dX7_look_153 : decode cX7_look 153 = .ok (.imul, 1) := by decide +kernel
theorem dX7_look_154 : decode cX7_look 154 = .ok (.iload_n 2, 1) := by decide +kernel
theorem dX7_look_155 : decode cX7_look 155 = .ok (.iadd, 1) := by decide +kernel
theorem dX7_look_156 : decode cX7_look 156 = .ok (.invokevirtual 101, 3) := by decide +kernel
theorem dX7_look_159 : decode cX7_look 159 = .ok (.goto 4, 3) := by decide +kernel
theorem dX7_look_162 : decode cX7_look 162 = .ok (.iconst 0, 1) := by decide +kernel
theorem dX7_look_163 : decode cX7_look 163 = .ok (.iastore, 1) := by decide +kernel
theorem dX7_look_164 : decode cX7_look 164 = .ok (.return_, 1) := by decide +kernel
theorem dX7_lot_0 : decode cX7_lot 0 = .ok (.aload_n 0, 1) := by decide +kernel
theorem dX7_lot_1 : decode cX7_lot 1 = .ok (.getfield 58, 3) := by decide +kernel
theorem dX7_lot_4 : decode cX7_lot 4 = .ok (.istore_n 2, 1) := by decide +kernel
theorem dX7_lot_5 : decode cX7_lot 5 = .ok (.iconst 0, 1) := by decide +kernel
theorem dX7_lot_6 : decode cX7_lot 6 = .ok (.istore_n 3, 1) := by decide +kernel
theorem dX7_lot_7 : decode cX7_lot 7 = .ok (.iload_n 3, 1) := by decide +kernel
theorem dX7_lot_8 : decode cX7_lot 8 = .ok (.iconst 2, 1) := by decide +kernel
theorem dX7_lot_9 : decode cX7_lot 9 = .ok (.if_icmp .ge 36, 3) := by decide +kernel
theorem dX7_lot_12 : decode cX7_lot 12 = .ok (.iload_n 2, 1) := by decide +kernel
theorem dX7_lot_13 : decode cX7_lot 13 = .ok (.iload_n 3, 1) := by decide +kernel
theorem dX7_lot_14 : decode cX7_lot 14 = .ok (.ifCond .ne 8, 3) := by decide +kernel
theorem dX7_lot_17 : decode cX7_lot 17 = .ok (.bipush 25, 2) := by decide +kernel
theorem dX7_lot_19 : decode cX7_lot 19 = .ok (.goto 4, 3) := by decide +kernel
theorem dX7_lot_22 : decode cX7_lot 22 = .ok (.iload_n 1, 1) := by decide +kernel
theorem dX7_lot_23 : decode cX7_lot 23 = .ok (.ixor, 1) := by decide +kernel
theorem dX7_lot_24 : decode cX7_lot 24 = .ok (.ldc 104, 2) := by decide +kernel
theorem dX7_lot_26 : decode cX7_lot 26 = .ok (.imul, 1) := by decide +kernel
theorem dX7_lot_27 : decode cX7_lot 27 = .ok (.sipush 12345, 3) := by decide +kernel
theorem dX7_lot_30 : decode cX7_lot 30 = .ok (.iadd, 1) := by decide +kernel
theorem dX7_lot_31 : decode cX7_lot 31 = .ok (.istore_n 2, 1) := by decide +kernel
theorem dX7_lot_32 : decode cX7_lot 32 = .ok (.iload_n 2, 1) := by decide +kernel
theorem dX7_lot_33 : decode cX7_lot 33 = .ok (.iload_n 2, 1) := by decide +kernel
theorem dX7_lot_34 : decode cX7_lot 34 = .ok (.bipush 15, 2) := by decide +kernel
theorem dX7_lot_36 : decode cX7_lot 36 = .ok (.iushr, 1) := by decide +kernel
theorem dX7_lot_37 : decode cX7_lot 37 = .ok (.ixor, 1) := by decide +kernel
theorem dX7_lot_38 : decode cX7_lot 38 = .ok (.istore_n 2, 1) := by decide +kernel
theorem dX7_lot_39 : decode cX7_lot 39 = .ok (.iinc 3 1, 3) := by decide +kernel
theorem dX7_lot_42 : decode cX7_lot 42 = .ok (.goto (-35), 3) := by decide +kernel
theorem dX7_lot_45 : decode cX7_lot 45 = .ok (.iload_n 2, 1) := by decide +kernel
theorem dX7_lot_46 : decode cX7_lot 46 = .ok (.iconst 1, 1) := by decide +kernel
theorem dX7_lot_47 : decode cX7_lot 47 = .ok (.iushr, 1) := by decide +kernel
theorem dX7_lot_48 : decode cX7_lot 48 = .ok (.bipush 100, 2) := by decide +kernel
theorem dX7_lot_50 : decode cX7_lot 50 = .ok (.irem, 1) := by decide +kernel
theorem dX7_lot_51 : decode cX7_lot 51 = .ok (.ireturn, 1) := by decide +kernel
theorem dX7_evenings_0 : decode cX7_evenings 0 = .ok (.iconst 0, 1) := by decide +kernel
theorem dX7_evenings_1 : decode cX7_evenings 1 = .ok (.istore 4, 2) := by decide +kernel
theorem dX7_evenings_3 : decode cX7_evenings 3 = .ok (.iload 4, 2) := by decide +kernel
theorem dX7_evenings_5 : decode cX7_evenings 5 = .ok (.iload_n 2, 1) := by decide +kernel
theorem dX7_evenings_6 : decode cX7_evenings 6 = .ok (.if_icmp .ge 15, 3) := by decide +kernel
theorem dX7_evenings_9 : decode cX7_evenings 9 = .ok (.aload_n 0, 1) := by decide +kernel
theorem dX7_evenings_10 : decode cX7_evenings 10 = .ok (.aload_n 1, 1) := by decide +kernel
theorem dX7_evenings_11 : decode cX7_evenings 11 = .ok (.iload_n 3, 1) := by decide +kernel
theorem dX7_evenings_12 : decode cX7_evenings 12 = .ok (.invokevirtual 105, 3) := by decide +kernel
theorem dX7_evenings_15 : decode cX7_evenings 15 = .ok (.iinc 4 1, 3) := by decide +kernel
theorem dX7_evenings_18 : decode cX7_evenings 18 = .ok (.goto (-15), 3) := by decide +kernel
theorem dX7_evenings_21 : decode cX7_evenings 21 = .ok (.return_, 1) := by decide +kernel
theorem dX7_evening_0 : decode cX7_evening 0 = .ok (.aload_n 0, 1) := by decide +kernel
theorem dX7_evening_1 : decode cX7_evening 1 = .ok (.aload_n 1, 1) := by decide +kernel
theorem dX7_evening_2 : decode cX7_evening 2 = .ok (.invokevirtual 108, 3) := by decide +kernel
theorem dX7_evening_5 : decode cX7_evening 5 = .ok (.aload_n 0, 1) := by decide +kernel
theorem dX7_evening_6 : decode cX7_evening 6 = .ok (.getfield 49, 3) := by decide +kernel
theorem dX7_evening_9 : decode cX7_evening 9 = .ok (.ifCond .eq 12, 3) := by decide +kernel
theorem dX7_evening_12 : decode cX7_evening 12 = .ok (.aload_n 0, 1) := by decide +kernel
theorem dX7_evening_13 : decode cX7_evening 13 = .ok (.aload_n 1, 1) := by decide +kernel
theorem dX7_evening_14 : decode cX7_evening 14 = .ok (.iconst 0, 1) := by decide +kernel
theorem dX7_evening_15 : decode cX7_evening 15 = .ok (.invokevirtual 112, 3) := by decide +kernel
theorem dX7_evening_18 : decode cX7_evening 18 = .ok (.goto 8, 3) := by decide +kernel
theorem dX7_evening_21 : decode cX7_evening 21 = .ok (.aload_n 0, 1) := by decide +kernel
theorem dX7_evening_22 : decode cX7_evening 22 = .ok (.aload_n 1, 1) := by decide +kernel
theorem dX7_evening_23 : decode cX7_evening 23 = .ok (.invokevirtual 115, 3) := by decide +kernel
theorem dX7_evening_26 : decode cX7_evening 26 = .ok (.aload_n 1, 1) := by decide +kernel
theorem dX7_evening_27 : decode cX7_evening 27 = .ok (.dup, 1) := by decide +kernel
theorem dX7_evening_28 : decode cX7_evening 28 = .ok (.getfield 95, 3) := by decide +kernel
theorem dX7_evening_31 : decode cX7_evening 31 = .ok (.iconst 1, 1) := by decide +kernel
theorem dX7_evening_32 : decode cX7_evening 32 = .ok (.iadd, 1) := by decide +kernel
theorem dX7_evening_33 : decode cX7_evening 33 = .ok (.putfield 95, 3) := by decide +kernel
theorem dX7_evening_36 : decode cX7_evening 36 = .ok (.aload_n 0, 1) := by decide +kernel
theorem dX7_evening_37 : decode cX7_evening 37 = .ok (.getfield 55, 3) := by decide +kernel
theorem dX7_evening_40 : decode cX7_evening 40 = .ok (.ifCond .le 20, 3) := by decide +kernel
theorem dX7_evening_43 : decode cX7_evening 43 = .ok (.aload_n 1, 1) := by decide +kernel
theorem dX7_evening_44 : decode cX7_evening 44 = .ok (.getfield 95, 3) := by decide +kernel
theorem dX7_evening_47 : decode cX7_evening 47 = .ok (.aload_n 0, 1) := by decide +kernel
theorem dX7_evening_48 : decode cX7_evening 48 = .ok (.getfield 55, 3) := by decide +kernel
theorem dX7_evening_51 : decode cX7_evening 51 = .ok (.irem, 1) := by decide +kernel
theorem dX7_evening_52 : decode cX7_evening 52 = .ok (.ifCond .ne 8, 3) := by decide +kernel
theorem dX7_evening_55 : decode cX7_evening 55 = .ok (.aload_n 1, 1) := by decide +kernel
theorem dX7_evening_56 : decode cX7_evening 56 = .ok (.iload_n 2, 1) := by decide +kernel
theorem dX7_evening_57 : decode cX7_evening 57 = .ok (.invokevirtual 118, 3) := by decide +kernel
theorem dX7_evening_60 : decode cX7_evening 60 = .ok (.return_, 1) := by decide +kernel
theorem dX7_earn_0 : decode cX7_earn 0 = .ok (.iconst 0, 1) := by decide +kernel
theorem dX7_earn_1 : decode cX7_earn 1 = .ok (.istore_n 2, 1) := by decide +kernel
theorem dX7_earn_2 : decode cX7_earn 2 = .ok (.iload_n 2, 1) := by decide +kernel
theorem dX7_earn_3 : decode cX7_earn 3 = .ok (.aload_n 1, 1) := by decide +kernel
theorem dX7_earn_4 : decode cX7_earn 4 = .ok (.getfield 87, 3) := by decide +kernel
theorem dX7_earn_7 : decode cX7_earn 7 = .ok (.if_icmp .ge 48, 3) := by decide +kernel
theorem dX7_earn_10 : decode cX7_earn 10 = .ok (.aload_n 0, 1) := by decide +kernel
theorem dX7_earn_11 : decode cX7_earn 11 = .ok (.aload_n 1, 1) := by decide +kernel
theorem dX7_earn_12 : decode cX7_earn 12 = .ok (.iload_n 2, 1) := by decide +kernel
theorem dX7_earn_13 : decode cX7_earn 13 = .ok (.aload_n 0, 1) := by decide +kernel
theorem dX7_earn_14 : decode cX7_earn 14 = .ok (.getfield 18, 3) := by decide +kernel
theorem dX7_earn_17 : decode cX7_earn 17 = .ok (.getfield 71, 3) := by decide +kernel
theorem dX7_earn_20 : decode cX7_earn 20 = .ok (.invokevirtual 67, 3) := by decide +kernel
theorem dX7_earn_23 : decode cX7_earn 23 = .ok (.aload_n 1, 1) := by decide +kernel
theorem dX7_earn_24 : decode cX7_earn 24 = .ok (.iload_n 2, 1) := by decide +kernel
theorem dX7_earn_25 : decode cX7_earn 25 = .ok (.iconst 0, 1) := by decide +kernel
theorem dX7_earn_26 : decode cX7_earn 26 = .ok (.aload_n 0, 1) := by decide +kernel
theorem dX7_earn_27 : decode cX7_earn 27 = .ok (.getfield 18, 3) := by decide +kernel
theorem dX7_earn_30 : decode cX7_earn 30 = .ok (.aload_n 0, 1) := by decide +kernel
theorem dX7_earn_31 : decode cX7_earn 31 = .ok (.getfield 25, 3) := by decide +kernel
theorem dX7_earn_34 : decode cX7_earn 34 = .ok (.invokevirtual 74, 3) := by decide +kernel
theorem dX7_earn_37 : decode cX7_earn 37 = .ok (.sipush 999, 3) := by decide +kernel
theorem dX7_earn_40 : decode cX7_earn 40 = .ok (.invokestatic 78, 3) := by decide +kernel
theorem dX7_earn_43 : decode cX7_earn 43 = .ok (.invokestatic 84, 3) := by decide +kernel
theorem dX7_earn_46 : decode cX7_earn 46 = .ok (.invokevirtual 121, 3) := by decide +kernel
theorem dX7_earn_49 : decode cX7_earn 49 = .ok (.iinc 2 1, 3) := by decide +kernel
theorem dX7_earn_52 : decode cX7_earn 52 = .ok (.goto (-50), 3) := by decide +kernel
theorem dX7_earn_55 : decode cX7_earn 55 = .ok (.return_, 1) := by decide +kernel
theorem dX7_payAtOnce_0 : decode cX7_payAtOnce 0 = .ok (.iconst 0, 1) := by decide +kernel
theorem dX7_payAtOnce_1 : decode cX7_payAtOnce 1 = .ok (.istore_n 2, 1) := by decide +kernel
theorem dX7_payAtOnce_2 : decode cX7_payAtOnce 2 = .ok (.iload_n 2, 1) := by decide +kernel
theorem dX7_payAtOnce_3 : decode cX7_payAtOnce 3 = .ok (.aload_n 1, 1) := by decide +kernel
theorem dX7_payAtOnce_4 : decode cX7_payAtOnce 4 = .ok (.getfield 87, 3) := by decide +kernel
theorem dX7_payAtOnce_7 : decode cX7_payAtOnce 7 = .ok (.if_icmp .ge 30, 3) := by decide +kernel
theorem dX7_payAtOnce_10 : decode cX7_payAtOnce 10 = .ok (.iload_n 2, 1) := by decide +kernel
theorem dX7_payAtOnce_11 : decode cX7_payAtOnce 11 = .ok (.aload_n 0, 1) := by decide +kernel
theorem dX7_payAtOnce_12 : decode cX7_payAtOnce 12 = .ok (.getfield 28, 3) := by decide +kernel
theorem dX7_payAtOnce_15 : decode cX7_payAtOnce 15 = .ok (.arraylength, 1) := by decide +kernel
theorem dX7_payAtOnce_16 : decode cX7_payAtOnce 16 = .ok (.if_icmp .ge 21, 3) := by decide +kernel
theorem dX7_payAtOnce_19 : decode cX7_payAtOnce 19 = .ok (.aload_n 0, 1) := by decide +kernel
theorem dX7_payAtOnce_20 : decode cX7_payAtOnce 20 = .ok (.getfield 28, 3) := by decide +kernel
theorem dX7_payAtOnce_23 : decode cX7_payAtOnce 23 = .ok (.iload_n 2, 1) := by decide +kernel
theorem dX7_payAtOnce_24 : decode cX7_payAtOnce 24 = .ok (.aload_n 0, 1) := by decide +kernel
theorem dX7_payAtOnce_25 : decode cX7_payAtOnce 25 = .ok (.aload_n 1, 1) := by decide +kernel
theorem dX7_payAtOnce_26 : decode cX7_payAtOnce 26 = .ok (.iload_n 2, 1) := by decide +kernel
theorem dX7_payAtOnce_27 : decode cX7_payAtOnce 27 = .ok (.invokevirtual 124, 3) := by decide +kernel
theorem dX7_payAtOnce_30 : decode cX7_payAtOnce 30 = .ok (.iastore, 1) := by decide +kernel
theorem dX7_payAtOnce_31 : decode cX7_payAtOnce 31 = .ok (.iinc 2 1, 3) := by decide +kernel
theorem dX7_payAtOnce_34 : decode cX7_payAtOnce 34 = .ok (.goto (-32), 3) := by decide +kernel
theorem dX7_payAtOnce_37 : decode cX7_payAtOnce 37 = .ok (.iconst 0, 1) := by decide +kernel
theorem dX7_payAtOnce_38 : decode cX7_payAtOnce 38 = .ok (.istore_n 2, 1) := by decide +kernel
theorem dX7_payAtOnce_39 : decode cX7_payAtOnce 39 = .ok (.iload_n 2, 1) := by decide +kernel
theorem dX7_payAtOnce_40 : decode cX7_payAtOnce 40 = .ok (.aload_n 1, 1) := by decide +kernel
theorem dX7_payAtOnce_41 : decode cX7_payAtOnce 41 = .ok (.getfield 87, 3) := by decide +kernel
theorem dX7_payAtOnce_44 : decode cX7_payAtOnce 44 = .ok (.if_icmp .ge 29, 3) := by decide +kernel
theorem dX7_payAtOnce_47 : decode cX7_payAtOnce 47 = .ok (.iload_n 2, 1) := by decide +kernel
theorem dX7_payAtOnce_48 : decode cX7_payAtOnce 48 = .ok (.aload_n 0, 1) := by decide +kernel
theorem dX7_payAtOnce_49 : decode cX7_payAtOnce 49 = .ok (.getfield 28, 3) := by decide +kernel
theorem dX7_payAtOnce_52 : decode cX7_payAtOnce 52 = .ok (.arraylength, 1) := by decide +kernel
theorem dX7_payAtOnce_53 : decode cX7_payAtOnce 53 = .ok (.if_icmp .ge 20, 3) := by decide +kernel
theorem dX7_payAtOnce_56 : decode cX7_payAtOnce 56 = .ok (.aload_n 1, 1) := by decide +kernel
theorem dX7_payAtOnce_57 : decode cX7_payAtOnce 57 = .ok (.iload_n 2, 1) := by decide +kernel
theorem dX7_payAtOnce_58 : decode cX7_payAtOnce 58 = .ok (.aload_n 0, 1) := by decide +kernel
theorem dX7_payAtOnce_59 : decode cX7_payAtOnce 59 = .ok (.getfield 28, 3) := by decide +kernel
theorem dX7_payAtOnce_62 : decode cX7_payAtOnce 62 = .ok (.iload_n 2, 1) := by decide +kernel
theorem dX7_payAtOnce_63 : decode cX7_payAtOnce 63 = .ok (.iaload, 1) := by decide +kernel
theorem dX7_payAtOnce_64 : decode cX7_payAtOnce 64 = .ok (.invokevirtual 128, 3) := by decide +kernel
theorem dX7_payAtOnce_67 : decode cX7_payAtOnce 67 = .ok (.iinc 2 1, 3) := by decide +kernel
theorem dX7_payAtOnce_70 : decode cX7_payAtOnce 70 = .ok (.goto (-31), 3) := by decide +kernel
theorem dX7_payAtOnce_73 : decode cX7_payAtOnce 73 = .ok (.return_, 1) := by decide +kernel
theorem dX7_payByTurns_0 : decode cX7_payByTurns 0 = .ok (.iload_n 2, 1) := by decide +kernel
theorem dX7_payByTurns_1 : decode cX7_payByTurns 1 = .ok (.istore_n 3, 1) := by decide +kernel
theorem dX7_payByTurns_2 : decode cX7_payByTurns 2 = .ok (.iload_n 3, 1) := by decide +kernel
theorem dX7_payByTurns_3 : decode cX7_payByTurns 3 = .ok (.aload_n 1, 1) := by decide +kernel
theorem dX7_payByTurns_4 : decode cX7_payByTurns 4 = .ok (.getfield 87, 3) := by decide +kernel
theorem dX7_payByTurns_7 : decode cX7_payByTurns 7 = .ok (.if_icmp .ge 20, 3) := by decide +kernel
theorem dX7_payByTurns_10 : decode cX7_payByTurns 10 = .ok (.aload_n 1, 1) := by decide +kernel
theorem dX7_payByTurns_11 : decode cX7_payByTurns 11 = .ok (.iload_n 3, 1) := by decide +kernel
theorem dX7_payByTurns_12 : decode cX7_payByTurns 12 = .ok (.aload_n 0, 1) := by decide +kernel
theorem dX7_payByTurns_13 : decode cX7_payByTurns 13 = .ok (.aload_n 1, 1) := by decide +kernel
theorem dX7_payByTurns_14 : decode cX7_payByTurns 14 = .ok (.iload_n 3, 1) := by decide +kernel
theorem dX7_payByTurns_15 : decode cX7_payByTurns 15 = .ok (.invokevirtual 124, 3) := by decide +kernel
theorem dX7_payByTurns_18 : decode cX7_payByTurns 18 = .ok (.invokevirtual 128, 3) := by decide +kernel
theorem dX7_payByTurns_21 : decode cX7_payByTurns 21 = .ok (.iinc 3 1, 3) := by decide +kernel
theorem dX7_payByTurns_24 : decode cX7_payByTurns 24 = .ok (.goto (-22), 3) := by decide +kernel
theorem dX7_payByTurns_27 : decode cX7_payByTurns 27 = .ok (.iconst 0, 1) := by decide +kernel
theorem dX7_payByTurns_28 : decode cX7_payByTurns 28 = .ok (.istore_n 3, 1) := by decide +kernel
theorem dX7_payByTurns_29 : decode cX7_payByTurns 29 = .ok (.iload_n 3, 1) := by decide +kernel
theorem dX7_payByTurns_30 : decode cX7_payByTurns 30 = .ok (.iload_n 2, 1) := by decide +kernel
theorem dX7_payByTurns_31 : decode cX7_payByTurns 31 = .ok (.if_icmp .ge 20, 3) := by decide +kernel
theorem dX7_payByTurns_34 : decode cX7_payByTurns 34 = .ok (.aload_n 1, 1) := by decide +kernel
theorem dX7_payByTurns_35 : decode cX7_payByTurns 35 = .ok (.iload_n 3, 1) := by decide +kernel
theorem dX7_payByTurns_36 : decode cX7_payByTurns 36 = .ok (.aload_n 0, 1) := by decide +kernel
theorem dX7_payByTurns_37 : decode cX7_payByTurns 37 = .ok (.aload_n 1, 1) := by decide +kernel
theorem dX7_payByTurns_38 : decode cX7_payByTurns 38 = .ok (.iload_n 3, 1) := by decide +kernel
theorem dX7_payByTurns_39 : decode cX7_payByTurns 39 = .ok (.invokevirtual 124, 3) := by decide +kernel
theorem dX7_payByTurns_42 : decode cX7_payByTurns 42 = .ok (.invokevirtual 128, 3) := by decide +kernel
theorem dX7_payByTurns_45 : decode cX7_payByTurns 45 = .ok (.iinc 3 1, 3) := by decide +kernel
theorem dX7_payByTurns_48 : decode cX7_payByTurns 48 = .ok (.goto (-19), 3) := by decide +kernel
theorem dX7_payByTurns_51 : decode cX7_payByTurns 51 = .ok (.return_, 1) := by decide +kernel
theorem dX8_init_0 : decode cX8_init 0 = .ok (.aload_n 0, 1) := by decide +kernel
theorem dX8_init_1 : decode cX8_init 1 = .ok (.invokespecial 3, 3) := by decide +kernel
theorem dX8_init_4 : decode cX8_init 4 = .ok (.aload_n 0, 1) := by decide +kernel
theorem dX8_init_5 : decode cX8_init 5 = .ok (.sipush 2000, 3) := by decide +kernel
theorem dX8_init_8 : decode cX8_init 8 = .ok (.newarray .byte, 2) := by decide +kernel
theorem dX8_init_10 : decode cX8_init 10 = .ok (.putfield 9, 3) := by decide +kernel
theorem dX8_init_13 : decode cX8_init 13 = .ok (.return_, 1) := by decide +kernel
theorem dX8_put_0 : decode cX8_put 0 = .ok (.bipush 24, 2) := by decide +kernel
theorem dX8_put_2 : decode cX8_put 2 = .ok (.istore_n 2, 1) := by decide +kernel
theorem dX8_put_3 : decode cX8_put 3 = .ok (.iload_n 2, 1) := by decide +kernel
theorem dX8_put_4 : decode cX8_put 4 = .ok (.ifCond .lt 48, 3) := by decide +kernel
theorem dX8_put_7 : decode cX8_put 7 = .ok (.aload_n 0, 1) := by decide +kernel
theorem dX8_put_8 : decode cX8_put 8 = .ok (.getfield 15, 3) := by decide +kernel
theorem dX8_put_11 : decode cX8_put 11 = .ok (.ifCond .lt 35, 3) := by decide +kernel
theorem dX8_put_14 : decode cX8_put 14 = .ok (.aload_n 0, 1) := by decide +kernel
theorem dX8_put_15 : decode cX8_put 15 = .ok (.getfield 15, 3) := by decide +kernel
theorem dX8_put_18 : decode cX8_put 18 = .ok (.aload_n 0, 1) := by decide +kernel
theorem dX8_put_19 : decode cX8_put 19 = .ok (.getfield 9, 3) := by decide +kernel
theorem dX8_put_22 : decode cX8_put 22 = .ok (.arraylength, 1) := by decide +kernel
theorem dX8_put_23 : decode cX8_put 23 = .ok (.if_icmp .ge 23, 3) := by decide +kernel
theorem dX8_put_26 : decode cX8_put 26 = .ok (.aload_n 0, 1) := by decide +kernel
theorem dX8_put_27 : decode cX8_put 27 = .ok (.getfield 9, 3) := by decide +kernel
theorem dX8_put_30 : decode cX8_put 30 = .ok (.aload_n 0, 1) := by decide +kernel
theorem dX8_put_31 : decode cX8_put 31 = .ok (.dup, 1) := by decide +kernel
theorem dX8_put_32 : decode cX8_put 32 = .ok (.getfield 15, 3) := by decide +kernel
theorem dX8_put_35 : decode cX8_put 35 = .ok (.dup_x1, 1) := by decide +kernel
theorem dX8_put_36 : decode cX8_put 36 = .ok (.iconst 1, 1) := by decide +kernel
theorem dX8_put_37 : decode cX8_put 37 = .ok (.iadd, 1) := by decide +kernel
theorem dX8_put_38 : decode cX8_put 38 = .ok (.putfield 15, 3) := by decide +kernel
theorem dX8_put_41 : decode cX8_put 41 = .ok (.iload_n 1, 1) := by decide +kernel
theorem dX8_put_42 : decode cX8_put 42 = .ok (.iload_n 2, 1) := by decide +kernel
theorem dX8_put_43 : decode cX8_put 43 = .ok (.iushr, 1) := by decide +kernel
theorem dX8_put_44 : decode cX8_put 44 = .ok (.i2b, 1) := by decide +kernel
theorem dX8_put_45 : decode cX8_put 45 = .ok (.bastore, 1) := by decide +kernel
theorem dX8_put_46 : decode cX8_put 46 = .ok (.iinc 2 (-8), 3) := by decide +kernel
theorem dX8_put_49 : decode cX8_put 49 = .ok (.goto (-46), 3) := by decide +kernel
theorem dX8_put_52 : decode cX8_put 52 = .ok (.return_, 1) := by decide +kernel
theorem dX8_byteAt_0 : decode cX8_byteAt 0 = .ok (.iload_n 1, 1) := by decide +kernel
theorem dX8_byteAt_1 : decode cX8_byteAt 1 = .ok (.ifCond .lt 25, 3) := by decide +kernel
theorem dX8_byteAt_4 : decode cX8_byteAt 4 = .ok (.iload_n 1, 1) := by decide +kernel
theorem dX8_byteAt_5 : decode cX8_byteAt 5 = .ok (.aload_n 0, 1) := by decide +kernel
theorem dX8_byteAt_6 : decode cX8_byteAt 6 = .ok (.getfield 9, 3) := by decide +kernel
theorem dX8_byteAt_9 : decode cX8_byteAt 9 = .ok (.arraylength, 1) := by decide +kernel
theorem dX8_byteAt_10 : decode cX8_byteAt 10 = .ok (.if_icmp .ge 16, 3) := by decide +kernel
theorem dX8_byteAt_13 : decode cX8_byteAt 13 = .ok (.aload_n 0, 1) := by decide +kernel
theorem dX8_byteAt_14 : decode cX8_byteAt 14 = .ok (.getfield 9, 3) := by decide +kernel
theorem dX8_byteAt_17 : decode cX8_byteAt 17 = .ok (.iload_n 1, 1) := by decide +kernel
theorem dX8_byteAt_18 : decode cX8_byteAt 18 = .ok (.baload, 1) := by decide +kernel
theorem dX8_byteAt_19 : decode cX8_byteAt 19 = .ok (.sipush 255, 3) := by decide +kernel
theorem dX8_byteAt_22 : decode cX8_byteAt 22 = .ok (.iand, 1) := by decide +kernel
theorem dX8_byteAt_23 : decode cX8_byteAt 23 = .ok (.goto 4, 3) := by decide +kernel
theorem dX8_byteAt_26 : decode cX8_byteAt 26 = .ok (.iconst 0, 1) := by decide +kernel
theorem dX8_byteAt_27 : decode cX8_byteAt 27 = .ok (.ireturn, 1) := by decide +kernel
theorem dX9_init_0 : decode cX9_init 0 = .ok (.aload_n 0, 1) := by decide +kernel
theorem dX9_init_1 : decode cX9_init 1 = .ok (.invokespecial 3, 3) := by decide +kernel
theorem dX9_init_4 : decode cX9_init 4 = .ok (.aload_n 0, 1) := by decide +kernel
theorem dX9_init_5 : decode cX9_init 5 = .ok (.sipush 402, 3) := by decide +kernel
theorem dX9_init_8 : decode cX9_init 8 = .ok (.newarray .int, 2) := by decide +kernel
theorem dX9_init_10 : decode cX9_init 10 = .ok (.putfield 9, 3) := by decide +kernel
theorem dX9_init_13 : decode cX9_init 13 = .ok (.aload_n 0, 1) := by decide +kernel
theorem dX9_init_14 : decode cX9_init 14 = .ok (.sipush 402, 3) := by decide +kernel
theorem dX9_init_17 : decode cX9_init 17 = .ok (.newarray .int, 2) := by decide +kernel
theorem dX9_init_19 : decode cX9_init 19 = .ok (.putfield 15, 3) := by decide +kernel
theorem dX9_init_22 : decode cX9_init 22 = .ok (.aload_n 0, 1) := by decide +kernel
theorem dX9_init_23 : decode cX9_init 23 = .ok (.sipush 402, 3) := by decide +kernel
theorem dX9_init_26 : decode cX9_init 26 = .ok (.newarray .long, 2) := by decide +kernel
theorem dX9_init_28 : decode cX9_init 28 = .ok (.putfield 18, 3) := by decide +kernel
theorem dX9_init_31 : decode cX9_init 31 = .ok (.aload_n 0, 1) := by decide +kernel
theorem dX9_init_32 : decode cX9_init 32 = .ok (.bipush 20, 2) := by decide +kernel
theorem dX9_init_34 : decode cX9_init 34 = .ok (.newarray .long, 2) := by decide +kernel
theorem dX9_init_36 : decode cX9_init 36 = .ok (.putfield 22, 3) := by decide +kernel
theorem dX9_init_39 : decode cX9_init 39 = .ok (.iconst 0, 1) := by decide +kernel
theorem dX9_init_40 : decode cX9_init 40 = .ok (.istore_n 1, 1) := by decide +kernel
theorem dX9_init_41 : decode cX9_init 41 = .ok (.iconst 0, 1) := by decide +kernel
theorem dX9_init_42 : decode cX9_init 42 = .ok (.istore_n 2, 1) := by decide +kernel
theorem dX9_init_43 : decode cX9_init 43 = .ok (.iload_n 2, 1) := by decide +kernel
theorem dX9_init_44 : decode cX9_init 44 = .ok (.ldc 25, 2) := by decide +kernel
theorem dX9_init_46 : decode cX9_init 46 = .ok (.invokevirtual 27, 3) := by decide +kernel
theorem dX9_init_49 : decode cX9_init 49 = .ok (.if_icmp .ge 56, 3) := by decide +kernel
theorem dX9_init_52 : decode cX9_init 52 = .ok (.ldc 25, 2) := by decide +kernel
theorem dX9_init_54 : decode cX9_init 54 = .ok (.iload_n 2, 1) := by decide +kernel
theorem dX9_init_55 : decode cX9_init 55 = .ok (.invokevirtual 33, 3) := by decide +kernel
theorem dX9_init_58 : decode cX9_init 58 = .ok (.bipush 32, 2) := by decide +kernel
theorem dX9_init_60 : decode cX9_init 60 = .ok (.if_icmp .ne 9, 3) := by decide +kernel
theorem dX9_init_63 : decode cX9_init 63 = .ok (.iinc 1 1, 3) := by decide +kernel
theorem dX9_init_66 : decode cX9_init 66 = .ok (.goto 33, 3) := by decide +kernel
theorem dX9_init_69 : decode cX9_init 69 = .ok (.iload_n 1, 1) := by decide +kernel
theorem dX9_init_70 : decode cX9_init 70 = .ok (.aload_n 0, 1) := by decide +kernel
theorem dX9_init_71 : decode cX9_init 71 = .ok (.getfield 22, 3) := by decide +kernel
theorem dX9_init_74 : decode cX9_init 74 = .ok (.arraylength, 1) := by decide +kernel
theorem dX9_init_75 : decode cX9_init 75 = .ok (.if_icmp .ge 24, 3) := by decide +kernel
theorem dX9_init_78 : decode cX9_init 78 = .ok (.aload_n 0, 1) := by decide +kernel
theorem dX9_init_79 : decode cX9_init 79 = .ok (.getfield 22, 3) := by decide +kernel
theorem dX9_init_82 : decode cX9_init 82 = .ok (.iload_n 1, 1) := by decide +kernel
theorem dX9_init_83 : decode cX9_init 83 = .ok (.aload_n 0, 1) := by decide +kernel
theorem dX9_init_84 : decode cX9_init 84 = .ok (.getfield 22, 3) := by decide +kernel
theorem dX9_init_87 : decode cX9_init 87 = .ok (.iload_n 1, 1) := by decide +kernel
theorem dX9_init_88 : decode cX9_init 88 = .ok (.laload, 1) := by decide +kernel
theorem dX9_init_89 : decode cX9_init 89 = .ok (.ldc 25, 2) := by decide +kernel
theorem dX9_init_91 : decode cX9_init 91 = .ok (.iload_n 2, 1) := by decide +kernel
theorem dX9_init_92 : decode cX9_init 92 = .ok (.invokevirtual 33, 3) := by decide +kernel
theorem dX9_init_95 : decode cX9_init 95 = .ok (.invokestatic 37, 3) := by decide +kernel
theorem dX9_init_98 : decode cX9_init 98 = .ok (.lastore, 1) := by decide +kernel
theorem dX9_init_99 : decode cX9_init 99 = .ok (.iinc 2 1, 3) := by decide +kernel
theorem dX9_init_102 : decode cX9_init 102 = .ok (.goto (-59), 3) := by decide +kernel
theorem dX9_init_105 : decode cX9_init 105 = .ok (.return_, 1) := by decide +kernel
theorem dX9_kindAt_0 : decode cX9_kindAt 0 = .ok (.iload_n 1, 1) := by decide +kernel
theorem dX9_kindAt_1 : decode cX9_kindAt 1 = .ok (.ifCond .lt 21, 3) := by decide +kernel
theorem dX9_kindAt_4 : decode cX9_kindAt 4 = .ok (.iload_n 1, 1) := by decide +kernel
theorem dX9_kindAt_5 : decode cX9_kindAt 5 = .ok (.aload_n 0, 1) := by decide +kernel
theorem dX9_kindAt_6 : decode cX9_kindAt 6 = .ok (.getfield 9, 3) := by decide +kernel
theorem dX9_kindAt_9 : decode cX9_kindAt 9 = .ok (.arraylength, 1) := by decide +kernel
theorem dX9_kindAt_10 : decode cX9_kindAt 10 = .ok (.if_icmp .ge 12, 3) := by decide +kernel
theorem dX9_kindAt_13 : decode cX9_kindAt 13 = .ok (.aload_n 0, 1) := by decide +kernel
theorem dX9_kindAt_14 : decode cX9_kindAt 14 = .ok (.getfield 9, 3) := by decide +kernel
theorem dX9_kindAt_17 : decode cX9_kindAt 17 = .ok (.iload_n 1, 1) := by decide +kernel
theorem dX9_kindAt_18 : decode cX9_kindAt 18 = .ok (.iaload, 1) := by decide +kernel
theorem dX9_kindAt_19 : decode cX9_kindAt 19 = .ok (.goto 4, 3) := by decide +kernel
theorem dX9_kindAt_22 : decode cX9_kindAt 22 = .ok (.iconst 0, 1) := by decide +kernel
theorem dX9_kindAt_23 : decode cX9_kindAt 23 = .ok (.ireturn, 1) := by decide +kernel
theorem dX9_placeOf_0 : decode cX9_placeOf 0 = .ok (.iload_n 1, 1) := by decide +kernel
theorem dX9_placeOf_1 : decode cX9_placeOf 1 = .ok (.ifCond .lt 21, 3) := by decide +kernel
theorem dX9_placeOf_4 : decode cX9_placeOf 4 = .ok (.iload_n 1, 1) := by decide +kernel
theorem dX9_placeOf_5 : decode cX9_placeOf 5 = .ok (.aload_n 0, 1) := by decide +kernel
theorem dX9_placeOf_6 : decode cX9_placeOf 6 = .ok (.getfield 15, 3) := by decide +kernel
theorem dX9_placeOf_9 : decode cX9_placeOf 9 = .ok (.arraylength, 1) := by decide +kernel
theorem dX9_placeOf_10 : decode cX9_placeOf 10 = .ok (.if_icmp .ge 12, 3) := by decide +kernel
theorem dX9_placeOf_13 : decode cX9_placeOf 13 = .ok (.aload_n 0, 1) := by decide +kernel
theorem dX9_placeOf_14 : decode cX9_placeOf 14 = .ok (.getfield 15, 3) := by decide +kernel
theorem dX9_placeOf_17 : decode cX9_placeOf 17 = .ok (.iload_n 1, 1) := by decide +kernel
theorem dX9_placeOf_18 : decode cX9_placeOf 18 = .ok (.iaload, 1) := by decide +kernel
theorem dX9_placeOf_19 : decode cX9_placeOf 19 = .ok (.goto 4, 3) := by decide +kernel
theorem dX9_placeOf_22 : decode cX9_placeOf 22 = .ok (.iconst (-1), 1) := by decide +kernel
theorem dX9_placeOf_23 : decode cX9_placeOf 23 = .ok (.ireturn, 1) := by decide +kernel
theorem dX9_valueOf_0 : decode cX9_valueOf 0 = .ok (.iload_n 1, 1) := by decide +kernel
theorem dX9_valueOf_1 : decode cX9_valueOf 1 = .ok (.ifCond .lt 21, 3) := by decide +kernel
theorem dX9_valueOf_4 : decode cX9_valueOf 4 = .ok (.iload_n 1, 1) := by decide +kernel
theorem dX9_valueOf_5 : decode cX9_valueOf 5 = .ok (.aload_n 0, 1) := by decide +kernel
theorem dX9_valueOf_6 : decode cX9_valueOf 6 = .ok (.getfield 18, 3) := by decide +kernel
theorem dX9_valueOf_9 : decode cX9_valueOf 9 = .ok (.arraylength, 1) := by decide +kernel
theorem dX9_valueOf_10 : decode cX9_valueOf 10 = .ok (.if_icmp .ge 12, 3) := by decide +kernel
theorem dX9_valueOf_13 : decode cX9_valueOf 13 = .ok (.aload_n 0, 1) := by decide +kernel
theorem dX9_valueOf_14 : decode cX9_valueOf 14 = .ok (.getfield 18, 3) := by decide +kernel
theorem dX9_valueOf_17 : decode cX9_valueOf 17 = .ok (.iload_n 1, 1) := by decide +kernel
theorem dX9_valueOf_18 : decode cX9_valueOf 18 = .ok (.laload, 1) := by decide +kernel
theorem dX9_valueOf_19 : decode cX9_valueOf 19 = .ok (.goto 4, 3) := by decide +kernel
theorem dX9_valueOf_22 : decode cX9_valueOf 22 = .ok (.lconst 0, 1) := by decide +kernel
theorem dX9_valueOf_23 : decode cX9_valueOf 23 = .ok (.lreturn, 1) := by decide +kernel
theorem dX9_scan_0 : decode cX9_scan 0 = .ok (.aload_n 0, 1) := by decide +kernel
theorem dX9_scan_1 : decode cX9_scan 1 = .ok (.iconst 0, 1) := by decide +kernel
theorem dX9_scan_2 : decode cX9_scan 2 = .ok (.putfield 41, 3) := by decide +kernel
theorem dX9_scan_5 : decode cX9_scan 5 = .ok (.iconst 4, 1) := by decide +kernel
theorem dX9_scan_6 : decode cX9_scan 6 = .ok (.istore_n 2, 1) := by decide +kernel
theorem dX9_scan_7 : decode cX9_scan 7 = .ok (.iconst 0, 1) := by decide +kernel
theorem dX9_scan_8 : decode cX9_scan 8 = .ok (.istore_n 3, 1) := by decide +kernel
theorem dX9_scan_9 : decode cX9_scan 9 = .ok (.iload_n 3, 1) := by decide +kernel
theorem dX9_scan_10 : decode cX9_scan 10 = .ok (.aload_n 1, 1) := by decide +kernel
theorem dX9_scan_11 : decode cX9_scan 11 = .ok (.getfield 45, 3) := by decide +kernel
theorem dX9_scan_14 : decode cX9_scan 14 = .ok (.if_icmp .ge 95, 3) := by decide +kernel
theorem dX9_scan_17 : decode cX9_scan 17 = .ok (.aload_n 1, 1) := by decide +kernel
theorem dX9_scan_18 : decode cX9_scan 18 = .ok (.iload_n 3, 1) := by decide +kernel
theorem dX9_scan_19 : decode cX9_scan 19 = .ok (.invokevirtual 49, 3) := by decide +kernel
theorem dX9_scan_22 : decode cX9_scan 22 = .ok (.istore 4, 2) := by decide +kernel
theorem dX9_scan_24 : decode cX9_scan 24 = .ok (.iload 4, 2) := by decide +kernel
theorem dX9_scan_26 : decode cX9_scan 26 = .ok (.invokestatic 53, 3) := by decide +kernel
theorem dX9_scan_29 : decode cX9_scan 29 = .ok (.istore 5, 2) := by decide +kernel
theorem dX9_scan_31 : decode cX9_scan 31 = .ok (.iload 5, 2) := by decide +kernel
theorem dX9_scan_33 : decode cX9_scan 33 = .ok (.iload_n 2, 1) := by decide +kernel
theorem dX9_scan_34 : decode cX9_scan 34 = .ok (.if_icmp .ne 19, 3) := by decide +kernel
theorem dX9_scan_37 : decode cX9_scan 37 = .ok (.iload 5, 2) := by decide +kernel
theorem dX9_scan_39 : decode cX9_scan 39 = .ok (.iconst 2, 1) := by decide +kernel
theorem dX9_scan_40 : decode cX9_scan 40 = .ok (.if_icmp .eq 9, 3) := by decide +kernel
theorem dX9_scan_43 : decode cX9_scan 43 = .ok (.iload 5, 2) := by decide +kernel
theorem dX9_scan_45 : decode cX9_scan 45 = .ok (.iconst 3, 1) := by decide +kernel
theorem dX9_scan_46 : decode cX9_scan 46 = .ok (.if_icmp .ne 7, 3) := by decide +kernel
theorem dX9_scan_49 : decode cX9_scan 49 = .ok (.iconst 1, 1) := by decide +kernel
theorem dX9_scan_50 : decode cX9_scan 50 = .ok (.goto 4, 3) := by decide +kernel
theorem dX9_scan_53 : decode cX9_scan 53 = .ok (.iconst 0, 1) := by decide +kernel
theorem dX9_scan_54 : decode cX9_scan 54 = .ok (.istore 6, 2) := by decide +kernel
theorem dX9_scan_56 : decode cX9_scan 56 = .ok (.iload 6, 2) := by decide +kernel
theorem dX9_scan_58 : decode cX9_scan 58 = .ok (.ifCond .ne 22, 3) := by decide +kernel
theorem dX9_scan_61 : decode cX9_scan 61 = .ok (.iload 5, 2) := by decide +kernel
theorem dX9_scan_63 : decode cX9_scan 63 = .ok (.iconst 4, 1) := by decide +kernel
theorem dX9_scan_64 : decode cX9_scan 64 = .ok (.if_icmp .eq 16, 3) := by decide +kernel
theorem dX9_scan_67 : decode cX9_scan 67 = .ok (.aload_n 0, 1) := by decide +kernel
theorem dX9_scan_68 : decode cX9_scan 68 = .ok (.iload 5, 2) := by decide +kernel
theorem dX9_scan_70 : decode cX9_scan 70 = .ok (.iload_n 3, 1) := by decide +kernel
theorem dX9_scan_71 : decode cX9_scan 71 = .ok (.invokevirtual 56, 3) := by decide +kernel
theorem dX9_scan_74 : decode cX9_scan 74 = .ok (.ifCond .ne 6, 3) := by decide +kernel
theorem dX9_scan_77 : decode cX9_scan 77 = .ok (.goto 32, 3) := by decide +kernel
theorem dX9_scan_80 : decode cX9_scan 80 = .ok (.iload 5, 2) := by decide +kernel
theorem dX9_scan_82 : decode cX9_scan 82 = .ok (.iconst 2, 1) := by decide +kernel
theorem dX9_scan_83 : decode cX9_scan 83 = .ok (.if_icmp .eq 9, 3) := by decide +kernel
theorem dX9_scan_86 : decode cX9_scan 86 = .ok (.iload 5, 2) := by decide +kernel
theorem dX9_scan_88 : decode cX9_scan 88 = .ok (.iconst 3, 1) := by decide +kernel
theorem dX9_scan_89 : decode cX9_scan 89 = .ok (.if_icmp .ne 11, 3) := by decide +kernel
theorem dX9_scan_92 : decode cX9_scan 92 = .ok (.aload_n 0, 1) := by decide +kernel
theorem dX9_scan_93 : decode cX9_scan 93 = .ok (.iload 5, 2) := by decide +kernel
theorem dX9_scan_95 : decode cX9_scan 95 = .ok (.iload 4, 2) := by decide +kernel
theorem dX9_scan_97 : decode cX9_scan 97 = .ok (.invokevirtual 60, 3) := by decide +kernel
theorem dX9_scan_100 : decode cX9_scan 100 = .ok (.iload 5, 2) := by decide +kernel
theorem dX9_scan_102 : decode cX9_scan 102 = .ok (.istore_n 2, 1) := by decide +kernel
theorem dX9_scan_103 : decode cX9_scan 103 = .ok (.iinc 3 1, 3) := by decide +kernel
theorem dX9_scan_106 : decode cX9_scan 106 = .ok (.goto (-97), 3) := by decide +kernel
theorem dX9_scan_109 : decode cX9_scan 109 = .ok (.aload_n 0, 1) := by decide +kernel
theorem dX9_scan_110 : decode cX9_scan 110 = .ok (.aload_n 1, 1) := by decide +kernel
theorem dX9_scan_111 : decode cX9_scan 111 = .ok (.getfield 45, 3) := by decide +kernel
theorem dX9_scan_114 : decode cX9_scan 114 = .ok (.invokevirtual 64, 3) := by decide +kernel
theorem dX9_scan_117 : decode cX9_scan 117 = .ok (.return_, 1) := by decide +kernel
theorem dX9_open_0 : decode cX9_open 0 = .ok (.aload_n 0, 1) := by decide +kernel
theorem dX9_open_1 : decode cX9_open 1 = .ok (.getfield 41, 3) := by decide +kernel
theorem dX9_open_4 : decode cX9_open 4 = .ok (.ifCond .lt 13, 3) := by decide +kernel
theorem dX9_open_7 : decode cX9_open 7 = .ok (.aload_n 0, 1) := by decide +kernel
theorem dX9_open_8 : decode cX9_open 8 = .ok (.getfield 41, 3) := by decide +kernel
theorem dX9_open_11 : decode cX9_open 11 = .ok (.sipush 400, 3) := by decide +kernel
theorem dX9_open_14 : decode cX9_open 14 = .ok (.if_icmp .le 5, 3) := by decide +kernel
theorem dX9_open_17 : decode cX9_open 17 = .ok (.iconst 0, 1) := by decide +kernel
theorem dX9_open_18 : decode cX9_open 18 = .ok (.ireturn, 1) := by decide +kernel
theorem dX9_open_19 : decode cX9_open 19 = .ok (.aload_n 0, 1) := by decide +kernel
theorem dX9_open_20 : decode cX9_open 20 = .ok (.getfield 9, 3) := by decide +kernel
theorem dX9_open_23 : decode cX9_open 23 = .ok (.aload_n 0, 1) := by decide +kernel
theorem dX9_open_24 : decode cX9_open 24 = .ok (.getfield 41, 3) := by decide +kernel
theorem dX9_open_27 : decode cX9_open 27 = .ok (.iload_n 1, 1) := by decide +kernel
theorem dX9_open_28 : decode cX9_open 28 = .ok (.iastore, 1) := by decide +kernel
theorem dX9_open_29 : decode cX9_open 29 = .ok (.aload_n 0, 1) := by decide +kernel
theorem dX9_open_30 : decode cX9_open 30 = .ok (.getfield 15, 3) := by decide +kernel
theorem dX9_open_33 : decode cX9_open 33 = .ok (.aload_n 0, 1) := by decide +kernel
theorem dX9_open_34 : decode cX9_open 34 = .ok (.getfield 41, 3) := by decide +kernel
theorem dX9_open_37 : decode cX9_open 37 = .ok (.iload_n 2, 1) := by decide +kernel
theorem dX9_open_38 : decode cX9_open 38 = .ok (.iastore, 1) := by decide +kernel
theorem dX9_open_39 : decode cX9_open 39 = .ok (.aload_n 0, 1) := by decide +kernel
theorem dX9_open_40 : decode cX9_open 40 = .ok (.getfield 18, 3) := by decide +kernel
theorem dX9_open_43 : decode cX9_open 43 = .ok (.aload_n 0, 1) := by decide +kernel
theorem dX9_open_44 : decode cX9_open 44 = .ok (.getfield 41, 3) := by decide +kernel
theorem dX9_open_47 : decode cX9_open 47 = .ok (.lconst 0, 1) := by decide +kernel
theorem dX9_open_48 : decode cX9_open 48 = .ok (.lastore, 1) := by decide +kernel
theorem dX9_open_49 : decode cX9_open 49 = .ok (.aload_n 0, 1) := by decide +kernel
theorem dX9_open_50 : decode cX9_open 50 = .ok (.iconst 0, 1) := by decide +kernel
theorem dX9_open_51 : decode cX9_open 51 = .ok (.putfield 68, 3) := by decide +kernel
theorem dX9_open_54 : decode cX9_open 54 = .ok (.aload_n 0, 1) := by decide +kernel
theorem dX9_open_55 : decode cX9_open 55 = .ok (.dup, 1) := by decide +kernel
theorem dX9_open_56 : decode cX9_open 56 = .ok (.getfield 41, 3) := by decide +kernel
theorem dX9_open_59 : decode cX9_open 59 = .ok (.iconst 1, 1) := by decide +kernel
theorem dX9_open_60 : decode cX9_open 60 = .ok (.iadd, 1) := by decide +kernel
theorem dX9_open_61 : decode cX9_open 61 = .ok (.putfield 41, 3) := by decide +kernel
theorem dX9_open_64 : decode cX9_open 64 = .ok (.iconst 1, 1) := by decide +kernel
theorem dX9_open_65 : decode cX9_open 65 = .ok (.ireturn, 1) := by decide +kernel
theorem dX9_grow_0 : decode cX9_grow 0 = .ok (.aload_n 0, 1) := by decide +kernel
theorem dX9_grow_1 : decode cX9_grow 1 = .ok (.getfield 41, 3) := by decide +kernel
theorem dX9_grow_4 : decode cX9_grow 4 = .ok (.iconst 1, 1) := by decide +kernel
theorem dX9_grow_5 : decode cX9_grow 5 = .ok (.isub, 1) := by decide +kernel
theorem dX9_grow_6 : decode cX9_grow 6 = .ok (.istore_n 3, 1) := by decide +kernel
theorem dX9_grow_7 : decode cX9_grow 7 = .ok (.iload_n 3, 1) := by decide +kernel
theorem dX9_grow_8 : decode cX9_grow 8 = .ok (.ifCond .lt 12, 3) := by decide +kernel
theorem dX9_grow_11 : decode cX9_grow 11 = .ok (.iload_n 3, 1) := by decide +kernel
theorem dX9_grow_12 : decode cX9_grow 12 = .ok (.aload_n 0, 1) := by decide +kernel
theorem dX9_grow_13 : decode cX9_grow 13 = .ok (.getfield 9, 3) := by decide +kernel
theorem dX9_grow_16 : decode cX9_grow 16 = .ok (.arraylength, 1) := by decide +kernel
theorem dX9_grow_17 : decode cX9_grow 17 = .ok (.if_icmp .lt 4, 3) := by decide +kernel
theorem dX9_grow_20 : decode cX9_grow 20 = .ok (.return_, 1) := by decide +kernel
theorem dX9_grow_21 : decode cX9_grow 21 = .ok (.aload_n 0, 1) := by decide +kernel
theorem dX9_grow_22 : decode cX9_grow 22 = .ok (.dup, 1) := by decide +kernel
theorem dX9_grow_23 : decode cX9_grow 23 = .ok (.getfield 68, 3) := by decide +kernel
theorem dX9_grow_26 : decode cX9_grow 26 = .ok (.iconst 1, 1) := by decide +kernel
theorem dX9_grow_27 : decode cX9_grow 27 = .ok (.iadd, 1) := by decide +kernel
theorem dX9_grow_28 : decode cX9_grow 28 = .ok (.putfield 68, 3) := by decide +kernel
theorem dX9_grow_31 : decode cX9_grow 31 = .ok (.aload_n 0, 1) := by decide +kernel
theorem dX9_grow_32 : decode cX9_grow 32 = .ok (.getfield 68, 3) := by decide +kernel
theorem dX9_grow_35 : decode cX9_grow 35 = .ok (.iload_n 1, 1) := by decide +kernel
theorem dX9_grow_36 : decode cX9_grow 36 = .ok (.iconst 2, 1) := by decide +kernel
theorem dX9_grow_37 : decode cX9_grow 37 = .ok (.if_icmp .ne 8, 3) := by decide +kernel
theorem dX9_grow_40 : decode cX9_grow 40 = .ok (.bipush 8, 2) := by decide +kernel
theorem dX9_grow_42 : decode cX9_grow 42 = .ok (.goto 4, 3) := by decide +kernel
theorem dX9_grow_45 : decode cX9_grow 45 = .ok (.iconst 4, 1) := by decide +kernel
theorem dX9_grow_46 : decode cX9_grow 46 = .ok (.if_icmp .le 13, 3) := by decide +kernel
theorem dX9_grow_49 : decode cX9_grow 49 = .ok (.aload_n 0, 1) := by decide +kernel
theorem dX9_grow_50 : decode cX9_grow 50 = .ok (.getfield 9, 3) := by decide +kernel
theorem dX9_grow_53 : decode cX9_grow 53 = .ok (.iload_n 3, 1) := by decide +kernel
theorem dX9_grow_54 : decode cX9_grow 54 = .ok (.iconst 1, 1) := by decide +kernel
theorem dX9_grow_55 : decode cX9_grow 55 = .ok (.iastore, 1) := by decide +kernel
theorem dX9_grow_56 : decode cX9_grow 56 = .ok (.goto 43, 3) := by decide +kernel
theorem dX9_grow_59 : decode cX9_grow 59 = .ok (.aload_n 0, 1) := by decide +kernel
theorem dX9_grow_60 : decode cX9_grow 60 = .ok (.getfield 18, 3) := by decide +kernel
theorem dX9_grow_63 : decode cX9_grow 63 = .ok (.iload_n 3, 1) := by decide +kernel
theorem dX9_grow_64 : decode cX9_grow 64 = .ok (.iload_n 1, 1) := by decide +kernel
theorem dX9_grow_65 : decode cX9_grow 65 = .ok (.iconst 2, 1) := by decide +kernel
theorem dX9_grow_66 : decode cX9_grow 66 = .ok (.if_icmp .ne 16, 3) := by decide +kernel
theorem dX9_grow_69 : decode cX9_grow 69 = .ok (.aload_n 0, 1) := by decide +kernel
theorem dX9_grow_70 : decode cX9_grow 70 = .ok (.getfield 18, 3) := by decide +kernel
theorem dX9_grow_73 : decode cX9_grow 73 = .ok (.iload_n 3, 1) := by decide +kernel
theorem dX9_grow_74 : decode cX9_grow 74 = .ok (.laload, 1) := by decide +kernel
theorem dX9_grow_75 : decode cX9_grow 75 = .ok (.iload_n 2, 1) := by decide +kernel
theorem dX9_grow_76 : decode cX9_grow 76 = .ok (.invokestatic 37, 3) := by decide +kernel
theorem dX9_grow_79 : decode cX9_grow 79 = .ok (.goto 19, 3) := by decide +kernel
theorem dX9_grow_82 : decode cX9_grow 82 = .ok (.ldc2_w 71, 3) := by decide +kernel
theorem dX9_grow_85 : decode cX9_grow 85 = .ok (.aload_n 0, 1) := by decide +kernel
theorem dX9_grow_86 : decode cX9_grow 86 = .ok (.getfield 18, 3) := by decide +kernel
theorem dX9_grow_89 : decode cX9_grow 89 = .ok (.iload_n 3, 1) := by decide +kernel
theorem dX9_grow_90 : decode cX9_grow 90 = .ok (.laload, 1) := by decide +kernel
theorem dX9_grow_91 : decode cX9_grow 91 = .ok (.lmul, 1) := by decide +kernel
theorem dX9_grow_92 : decode cX9_grow 92 = .ok (.iload_n 2, 1) := by decide +kernel
theorem dX9_grow_93 : decode cX9_grow 93 = .ok (.bipush 48, 2) := by decide +kernel
theorem dX9_grow_95 : decode cX9_grow 95 = .ok (.isub, 1) := by decide +kernel
theorem dX9_grow_96 : decode cX9_grow 96 = .ok (.i2l, 1) := by decide +kernel
theorem dX9_grow_97 : decode cX9_grow 97 = .ok (.ladd, 1) := by decide +kernel
theorem dX9_grow_98 : decode cX9_grow 98 = .ok (.lastore, 1) := by decide +kernel
theorem dX9_grow_99 : decode cX9_grow 99 = .ok (.return_, 1) := by decide +kernel
theorem dX9_close_0 : decode cX9_close 0 = .ok (.iconst 0, 1) := by decide +kernel
theorem dX9_close_1 : decode cX9_close 1 = .ok (.istore_n 2, 1) := by decide +kernel
theorem dX9_close_2 : decode cX9_close 2 = .ok (.iload_n 2, 1) := by decide +kernel
theorem dX9_close_3 : decode cX9_close 3 = .ok (.aload_n 0, 1) := by decide +kernel
theorem dX9_close_4 : decode cX9_close 4 = .ok (.getfield 41, 3) := by decide +kernel
theorem dX9_close_7 : decode cX9_close 7 = .ok (.if_icmp .ge 44, 3) := by decide +kernel
theorem dX9_close_10 : decode cX9_close 10 = .ok (.iload_n 2, 1) := by decide +kernel
theorem dX9_close_11 : decode cX9_close 11 = .ok (.aload_n 0, 1) := by decide +kernel
theorem dX9_close_12 : decode cX9_close 12 = .ok (.getfield 9, 3) := by decide +kernel
theorem dX9_close_15 : decode cX9_close 15 = .ok (.arraylength, 1) := by decide +kernel
theorem dX9_close_16 : decode cX9_close 16 = .ok (.if_icmp .ge 35, 3) := by decide +kernel
theorem dX9_close_19 : decode cX9_close 19 = .ok (.aload_n 0, 1) := by decide +kernel
theorem dX9_close_20 : decode cX9_close 20 = .ok (.getfield 9, 3) := by decide +kernel
theorem dX9_close_23 : decode cX9_close 23 = .ok (.iload_n 2, 1) := by decide +kernel
theorem dX9_close_24 : decode cX9_close 24 = .ok (.iaload, 1) := by decide +kernel
theorem dX9_close_25 : decode cX9_close 25 = .ok (.iconst 2, 1) := by decide +kernel
theorem dX9_close_26 : decode cX9_close 26 = .ok (.if_icmp .ne 19, 3) := by decide +kernel
theorem dX9_close_29 : decode cX9_close 29 = .ok (.aload_n 0, 1) := by decide +kernel
theorem dX9_close_30 : decode cX9_close 30 = .ok (.getfield 9, 3) := by decide +kernel
theorem dX9_close_33 : decode cX9_close 33 = .ok (.iload_n 2, 1) := by decide +kernel
theorem dX9_close_34 : decode cX9_close 34 = .ok (.aload_n 0, 1) := by decide +kernel
theorem dX9_close_35 : decode cX9_close 35 = .ok (.aload_n 0, 1) := by decide +kernel
theorem dX9_close_36 : decode cX9_close 36 = .ok (.getfield 18, 3) := by decide +kernel
theorem dX9_close_39 : decode cX9_close 39 = .ok (.iload_n 2, 1) := by decide +kernel
theorem dX9_close_40 : decode cX9_close 40 = .ok (.laload, 1) := by decide +kernel
theorem dX9_close_41 : decode cX9_close 41 = .ok (.invokevirtual 73, 3) := by decide +kernel
theorem dX9_close_44 : decode cX9_close 44 = .ok (.iastore, 1) := by decide +kernel
theorem dX9_close_45 : decode cX9_close 45 = .ok (.iinc 2 1, 3) := by decide +kernel
theorem dX9_close_48 : decode cX9_close 48 = .ok (.goto (-46), 3) := by decide +kernel
theorem dX9_close_51 : decode cX9_close 51 = .ok (.aload_n 0, 1) := by decide +kernel
theorem dX9_close_52 : decode cX9_close 52 = .ok (.getfield 41, 3) := by decide +kernel
theorem dX9_close_55 : decode cX9_close 55 = .ok (.ifCond .lt 15, 3) := by decide +kernel
theorem dX9_close_58 : decode cX9_close 58 = .ok (.aload_n 0, 1) := by decide +kernel
theorem dX9_close_59 : decode cX9_close 59 = .ok (.getfield 41, 3) := by decide +kernel
theorem dX9_close_62 : decode cX9_close 62 = .ok (.aload_n 0, 1) := by decide +kernel
theorem dX9_close_63 : decode cX9_close 63 = .ok (.getfield 9, 3) := by decide +kernel
theorem dX9_close_66 : decode cX9_close 66 = .ok (.arraylength, 1) := by decide +kernel
theorem dX9_close_67 : decode cX9_close 67 = .ok (.if_icmp .lt 4, 3) := by decide +kernel
theorem dX9_close_70 : decode cX9_close 70 = .ok (.return_, 1) := by decide +kernel
theorem dX9_close_71 : decode cX9_close 71 = .ok (.aload_n 0, 1) := by decide +kernel
theorem dX9_close_72 : decode cX9_close 72 = .ok (.getfield 9, 3) := by decide +kernel
theorem dX9_close_75 : decode cX9_close 75 = .ok (.aload_n 0, 1) := by decide +kernel
theorem dX9_close_76 : decode cX9_close 76 = .ok (.getfield 41, 3) := by decide +kernel
theorem dX9_close_79 : decode cX9_close 79 = .ok (.iconst 0, 1) := by decide +kernel
theorem dX9_close_80 : decode cX9_close 80 = .ok (.iastore, 1) := by decide +kernel
theorem dX9_close_81 : decode cX9_close 81 = .ok (.aload_n 0, 1) := by decide +kernel
theorem dX9_close_82 : decode cX9_close 82 = .ok (.getfield 15, 3) := by decide +kernel
theorem dX9_close_85 : decode cX9_close 85 = .ok (.aload_n 0, 1) := by decide +kernel
theorem dX9_close_86 : decode cX9_close 86 = .ok (.getfield 41, 3) := by decide +kernel
theorem dX9_close_89 : decode cX9_close 89 = .ok (.iload_n 1, 1) := by decide +kernel
theorem dX9_close_90 : decode cX9_close 90 = .ok (.iastore, 1) := by decide +kernel
theorem dX9_close_91 : decode cX9_close 91 = .ok (.return_, 1) := by decide +kernel
theorem dX9_wordOrName_0 : decode cX9_wordOrName 0 = .ok (.iconst 0, 1) := by decide +kernel
theorem dX9_wordOrName_1 : decode cX9_wordOrName 1 = .ok (.istore_n 3, 1) := by decide +kernel
theorem dX9_wordOrName_2 : decode cX9_wordOrName 2 = .ok (.iload_n 3, 1) := by decide +kernel
theorem dX9_wordOrName_3 : decode cX9_wordOrName 3 = .ok (.aload_n 0, 1) := by decide +kernel
theorem dX9_wordOrName_4 : decode cX9_wordOrName 4 = .ok (.getfield 22, 3) := by decide +kernel
theorem dX9_wordOrName_7 : decode cX9_wordOrName 7 = .ok (.arraylength, 1) := by decide +kernel
theorem dX9_wordOrName_8 : decode cX9_wordOrName 8 = .ok (.if_icmp .ge 25, 3) := by decide +kernel
theorem dX9_wordOrName_11 : decode cX9_wordOrName 11 = .ok (.aload_n 0, 1) := by decide +kernel
theorem dX9_wordOrName_12 : decode cX9_wordOrName 12 = .ok (.getfield 22, 3) := by decide +kernel
theorem dX9_wordOrName_15 : decode cX9_wordOrName 15 = .ok (.iload_n 3, 1) := by decide +kernel
theorem dX9_wordOrName_16 : decode cX9_wordOrName 16 = .ok (.laload, 1) := by decide +kernel
theorem dX9_wordOrName_17 : decode cX9_wordOrName 17 = .ok (.lload_n 1, 1) := by decide +kernel
theorem dX9_wordOrName_18 : decode cX9_wordOrName 18 = .ok (.lcmp, 1) := by decide +kernel
theorem dX9_wordOrName_19 : decode cX9_wordOrName 19 = .ok (.ifCond .ne 8, 3) := by decide +kernel
theorem dX9_wordOrName_22 : decode cX9_wordOrName 22 = .ok (.bipush 100, 2) := by decide +kernel
theorem dX9_wordOrName_24 : decode cX9_wordOrName 24 = .ok (.iload_n 3, 1) := by decide +kernel
theorem dX9_wordOrName_25 : decode cX9_wordOrName 25 = .ok (.iadd, 1) := by decide +kernel
theorem dX9_wordOrName_26 : decode cX9_wordOrName 26 = .ok (.ireturn, 1) := by decide +kernel
theorem dX9_wordOrName_27 : decode cX9_wordOrName 27 = .ok (.iinc 3 1, 3) := by decide +kernel
theorem dX9_wordOrName_30 : decode cX9_wordOrName 30 = .ok (.goto (-28), 3) := by decide +kernel
theorem dX9_wordOrName_33 : decode cX9_wordOrName 33 = .ok (.iconst 2, 1) := by decide +kernel
theorem dX9_wordOrName_34 : decode cX9_wordOrName 34 = .ok (.ireturn, 1) := by decide +kernel
theorem dX9_spelled_0 : decode cX9_spelled 0 = .ok (.ldc2_w 77, 3) := by decide +kernel
theorem dX9_spelled_3 : decode cX9_spelled 3 = .ok (.lload_n 0, 1) := by decide +kernel
theorem dX9_spelled_4 : decode cX9_spelled 4 = .ok (.lmul, 1) := by decide +kernel
theorem dX9_spelled_5 : decode cX9_spelled 5 = .ok (.iload_n 2, 1) := by decide +kernel
theorem dX9_spelled_6 : decode cX9_spelled 6 = .ok (.bipush 97, 2) := by decide +kernel
theorem dX9_spelled_8 : decode cX9_spelled 8 = .ok (.isub, 1) := by decide +kernel
theorem dX9_spelled_9 : decode cX9_spelled 9 = .ok (.iconst 1, 1) := by decide +kernel
theorem dX9_spelled_10 : decode cX9_spelled 10 = .ok (.iadd, 1) := by decide +kernel
theorem dX9_spelled_11 : decode cX9_spelled 11 = .ok (.i2l, 1) := by decide +kernel
theorem dX9_spelled_12 : decode cX9_spelled 12 = .ok (.ladd, 1) := by decide +kernel
theorem dX9_spelled_13 : decode cX9_spelled 13 = .ok (.lreturn, 1) := by decide +kernel
theorem dX9_kindOf_0 : decode cX9_kindOf 0 = .ok (.iload_n 0, 1) := by decide +kernel
theorem dX9_kindOf_1 : decode cX9_kindOf 1 = .ok (.bipush 97, 2) := by decide +kernel
theorem dX9_kindOf_3 : decode cX9_kindOf 3 = .ok (.if_icmp .lt 11, 3) := by decide +kernel
theorem dX9_kindOf_6 : decode cX9_kindOf 6 = .ok (.iload_n 0, 1) := by decide +kernel
theorem dX9_kindOf_7 : decode cX9_kindOf 7 = .ok (.bipush 122, 2) := by decide +kernel
theorem dX9_kindOf_9 : decode cX9_kindOf 9 = .ok (.if_icmp .gt 5, 3) := by decide +kernel
theorem dX9_kindOf_12 : decode cX9_kindOf 12 = .ok (.iconst 2, 1) := by decide +kernel
theorem dX9_kindOf_13 : decode cX9_kindOf 13 = .ok (.ireturn, 1) := by decide +kernel
theorem dX9_kindOf_14 : decode cX9_kindOf 14 = .ok (.iload_n 0, 1) := by decide +kernel
theorem dX9_kindOf_15 : decode cX9_kindOf 15 = .ok (.bipush 48, 2) := by decide +kernel
theorem dX9_kindOf_17 : decode cX9_kindOf 17 = .ok (.if_icmp .lt 11, 3) := by decide +kernel
theorem dX9_kindOf_20 : decode cX9_kindOf 20 = .ok (.iload_n 0, 1) := by decide +kernel
theorem dX9_kindOf_21 : decode cX9_kindOf 21 = .ok (.bipush 57, 2) := by decide +kernel
theorem dX9_kindOf_23 : decode cX9_kindOf 23 = .ok (.if_icmp .gt 5, 3) := by decide +kernel
theorem dX9_kindOf_26 : decode cX9_kindOf 26 = .ok (.iconst 3, 1) := by decide +kernel
theorem dX9_kindOf_27 : decode cX9_kindOf 27 = .ok (.ireturn, 1) := by decide +kernel
theorem dX9_kindOf_28 : decode cX9_kindOf 28 = .ok (.iload_n 0, 1) := by decide +kernel
theorem dX9_kindOf_29 : decode cX9_kindOf 29 = .ok (.tableswitch 231 9 61 #[227, 227, 231, 231, 227, 231, 231, 231, 231, 231, 231, 231, 231, 231, 231, 231, 231, 231, 231, 231, 231, 231, 231, 227, 231, 231, 231, 231, 231, 231, 231, 229, 229, 229, 229, 231, 229, 231, 229, 231, 231, 231, 231, 231, 231, 231, 231, 231, 231, 231, 229, 229, 229], 227) := by decide +kernel
theorem dX9_kindOf_256 : decode cX9_kindOf 256 = .ok (.iconst 4, 1) := by decide +kernel
theorem dX9_kindOf_257 : decode cX9_kindOf 257 = .ok (.ireturn, 1) := by decide +kernel
theorem dX9_kindOf_258 : decode cX9_kindOf 258 = .ok (.iload_n 0, 1) := by decide +kernel
theorem dX9_kindOf_259 : decode cX9_kindOf 259 = .ok (.ireturn, 1) := by decide +kernel
theorem dX9_kindOf_260 : decode cX9_kindOf 260 = .ok (.iconst 1, 1) := by decide +kernel
theorem dX9_kindOf_261 : decode cX9_kindOf 261 = .ok (.ireturn, 1) := by decide +kernel
theorem dX10_init_0 : decode cX10_init 0 = .ok (.aload_n 0, 1) := by decide +kernel
theorem dX10_init_1 : decode cX10_init 1 = .ok (.invokespecial 3, 3) := by decide +kernel
theorem dX10_init_4 : decode cX10_init 4 = .ok (.aload_n 0, 1) := by decide +kernel
theorem dX10_init_5 : decode cX10_init 5 = .ok (.bipush 20, 2) := by decide +kernel
theorem dX10_init_7 : decode cX10_init 7 = .ok (.newarray .int, 2) := by decide +kernel
theorem dX10_init_9 : decode cX10_init 9 = .ok (.putfield 9, 3) := by decide +kernel
theorem dX10_init_12 : decode cX10_init 12 = .ok (.aload_n 0, 1) := by decide +kernel
theorem dX10_init_13 : decode cX10_init 13 = .ok (.bipush 20, 2) := by decide +kernel
theorem dX10_init_15 : decode cX10_init 15 = .ok (.newarray .int, 2) := by decide +kernel
theorem dX10_init_17 : decode cX10_init 17 = .ok (.putfield 15, 3) := by decide +kernel
theorem dX10_init_20 : decode cX10_init 20 = .ok (.aload_n 0, 1) := by decide +kernel
theorem dX10_init_21 : decode cX10_init 21 = .ok (.bipush 10, 2) := by decide +kernel
theorem dX10_init_23 : decode cX10_init 23 = .ok (.newarray .int, 2) := by decide +kernel
theorem dX10_init_25 : decode cX10_init 25 = .ok (.putfield 18, 3) := by decide +kernel
theorem dX10_init_28 : decode cX10_init 28 = .ok (.aload_n 0, 1) := by decide +kernel
theorem dX10_init_29 : decode cX10_init 29 = .ok (.bipush 10, 2) := by decide +kernel
theorem dX10_init_31 : decode cX10_init 31 = .ok (.newarray .int, 2) := by decide +kernel
theorem dX10_init_33 : decode cX10_init 33 = .ok (.putfield 21, 3) := by decide +kernel
theorem dX10_init_36 : decode cX10_init 36 = .ok (.aload_n 0, 1) := by decide +kernel
theorem dX10_init_37 : decode cX10_init 37 = .ok (.bipush 10, 2) := by decide +kernel
theorem dX10_init_39 : decode cX10_init 39 = .ok (.newarray .int, 2) := by decide +kernel
theorem dX10_init_41 : decode cX10_init 41 = .ok (.putfield 24, 3) := by decide +kernel
theorem dX10_init_44 : decode cX10_init 44 = .ok (.aload_n 0, 1) := by decide +kernel
theorem dX10_init_45 : decode cX10_init 45 = .ok (.new 27, 3) := by decide +kernel
theorem dX10_init_48 : decode cX10_init 48 = .ok (.dup, 1) := by decide +kernel
theorem dX10_init_49 : decode cX10_init 49 = .ok (.invokespecial 29, 3) := by decide +kernel
theorem dX10_init_52 : decode cX10_init 52 = .ok (.putfield 30, 3) := by decide +kernel
theorem dX10_init_55 : decode cX10_init 55 = .ok (.return_, 1) := by decide +kernel
theorem dX10_clear_0 : decode cX10_clear 0 = .ok (.aload_n 0, 1) := by decide +kernel
theorem dX10_clear_1 : decode cX10_clear 1 = .ok (.iconst 0, 1) := by decide +kernel
theorem dX10_clear_2 : decode cX10_clear 2 = .ok (.putfield 34, 3) := by decide +kernel
theorem dX10_clear_5 : decode cX10_clear 5 = .ok (.return_, 1) := by decide +kernel
theorem dX10_add_0 : decode cX10_add 0 = .ok (.aload_n 0, 1) := by decide +kernel
theorem dX10_add_1 : decode cX10_add 1 = .ok (.getfield 34, 3) := by decide +kernel
theorem dX10_add_4 : decode cX10_add 4 = .ok (.ifCond .lt 12, 3) := by decide +kernel
theorem dX10_add_7 : decode cX10_add 7 = .ok (.aload_n 0, 1) := by decide +kernel
theorem dX10_add_8 : decode cX10_add 8 = .ok (.getfield 34, 3) := by decide +kernel
theorem dX10_add_11 : decode cX10_add 11 = .ok (.bipush 20, 2) := by decide +kernel
theorem dX10_add_13 : decode cX10_add 13 = .ok (.if_icmp .lt 5, 3) := by decide +kernel
theorem dX10_add_16 : decode cX10_add 16 = .ok (.iconst (-1), 1) := by decide +kernel
theorem dX10_add_17 : decode cX10_add 17 = .ok (.ireturn, 1) := by decide +kernel
theorem dX10_add_18 : decode cX10_add 18 = .ok (.aload_n 0, 1) := by decide +kernel
theorem dX10_add_19 : decode cX10_add 19 = .ok (.getfield 9, 3) := by decide +kernel
theorem dX10_add_22 : decode cX10_add 22 = .ok (.aload_n 0, 1) := by decide +kernel
theorem dX10_add_23 : decode cX10_add 23 = .ok (.getfield 34, 3) := by decide +kernel
theorem dX10_add_26 : decode cX10_add 26 = .ok (.iload_n 1, 1) := by decide +kernel
theorem dX10_add_27 : decode cX10_add 27 = .ok (.iastore, 1) := by decide +kernel
theorem dX10_add_28 : decode cX10_add 28 = .ok (.aload_n 0, 1) := by decide +kernel
theorem dX10_add_29 : decode cX10_add 29 = .ok (.getfield 15, 3) := by decide +kernel
theorem dX10_add_32 : decode cX10_add 32 = .ok (.aload_n 0, 1) := by decide +kernel
theorem dX10_add_33 : decode cX10_add 33 = .ok (.getfield 34, 3) := by decide +kernel
theorem dX10_add_36 : decode cX10_add 36 = .ok (.iload_n 2, 1) := by decide +kernel
theorem dX10_add_37 : decode cX10_add 37 = .ok (.iastore, 1) := by decide +kernel
theorem dX10_add_38 : decode cX10_add 38 = .ok (.aload_n 0, 1) := by decide +kernel
theorem dX10_add_39 : decode cX10_add 39 = .ok (.dup, 1) := by decide +kernel
theorem dX10_add_40 : decode cX10_add 40 = .ok (.getfield 34, 3) := by decide +kernel
theorem dX10_add_43 : decode cX10_add 43 = .ok (.iconst 1, 1) := by decide +kernel
theorem dX10_add_44 : decode cX10_add 44 = .ok (.iadd, 1) := by decide +kernel
theorem dX10_add_45 : decode cX10_add 45 = .ok (.putfield 34, 3) := by decide +kernel
theorem dX10_add_48 : decode cX10_add 48 = .ok (.aload_n 0, 1) := by decide +kernel
theorem dX10_add_49 : decode cX10_add 49 = .ok (.getfield 34, 3) := by decide +kernel
theorem dX10_add_52 : decode cX10_add 52 = .ok (.iconst 1, 1) := by decide +kernel
theorem dX10_add_53 : decode cX10_add 53 = .ok (.isub, 1) := by decide +kernel
theorem dX10_add_54 : decode cX10_add 54 = .ok (.ireturn, 1) := by decide +kernel
theorem dX10_rowsUpTo_0 : decode cX10_rowsUpTo 0 = .ok (.iconst 1, 1) := by decide +kernel
theorem dX10_rowsUpTo_1 : decode cX10_rowsUpTo 1 = .ok (.istore_n 3, 1) := by decide +kernel
theorem dX10_rowsUpTo_2 : decode cX10_rowsUpTo 2 = .ok (.iconst 0, 1) := by decide +kernel
theorem dX10_rowsUpTo_3 : decode cX10_rowsUpTo 3 = .ok (.istore 4, 2) := by decide +kernel
theorem dX10_rowsUpTo_5 : decode cX10_rowsUpTo 5 = .ok (.iload 4, 2) := by decide +kernel
theorem dX10_rowsUpTo_7 : decode cX10_rowsUpTo 7 = .ok (.iload_n 2, 1) := by decide +kernel
theorem dX10_rowsUpTo_8 : decode cX10_rowsUpTo 8 = .ok (.if_icmp .ge 21, 3) := by decide +kernel
theorem dX10_rowsUpTo_11 : decode cX10_rowsUpTo 11 = .ok (.iload_n 3, 1) := by decide +kernel
theorem dX10_rowsUpTo_12 : decode cX10_rowsUpTo 12 = .ok (.ldc 38, 2) := by decide +kernel
theorem dX10_rowsUpTo_14 : decode cX10_rowsUpTo 14 = .ok (.if_icmp .gt 15, 3) := by decide +kernel
theorem dX10_rowsUpTo_17 : decode cX10_rowsUpTo 17 = .ok (.iload_n 3, 1) := by decide +kernel
theorem dX10_rowsUpTo_18 : decode cX10_rowsUpTo 18 = .ok (.iload_n 1, 1) := by decide +kernel
theorem dX10_rowsUpTo_19 : decode cX10_rowsUpTo 19 = .ok (.iconst 1, 1) := by decide +kernel
theorem dX10_rowsUpTo_20 : decode cX10_rowsUpTo 20 = .ok (.iadd, 1) := by decide +kernel
theorem dX10_rowsUpTo_21 : decode cX10_rowsUpTo 21 = .ok (.imul, 1) := by decide +kernel
theorem dX10_rowsUpTo_22 : decode cX10_rowsUpTo 22 = .ok (.istore_n 3, 1) := by decide +kernel
theorem dX10_rowsUpTo_23 : decode cX10_rowsUpTo 23 = .ok (.iinc 4 1, 3) := by decide +kernel
theorem dX10_rowsUpTo_26 : decode cX10_rowsUpTo 26 = .ok (.goto (-21), 3) := by decide +kernel
theorem dX10_rowsUpTo_29 : decode cX10_rowsUpTo 29 = .ok (.iload_n 3, 1) := by decide +kernel
theorem dX10_rowsUpTo_30 : decode cX10_rowsUpTo 30 = .ok (.ireturn, 1) := by decide +kernel
theorem dX10_goThroughFits_0 : decode cX10_goThroughFits 0 = .ok (.aload_n 0, 1) := by decide +kernel
theorem dX10_goThroughFits_1 : decode cX10_goThroughFits 1 = .ok (.iconst (-1), 1) := by decide +kernel
theorem dX10_goThroughFits_2 : decode cX10_goThroughFits 2 = .ok (.putfield 39, 3) := by decide +kernel
theorem dX10_goThroughFits_5 : decode cX10_goThroughFits 5 = .ok (.iconst 0, 1) := by decide +kernel
theorem dX10_goThroughFits_6 : decode cX10_goThroughFits 6 = .ok (.istore 6, 2) := by decide +kernel
theorem dX10_goThroughFits_8 : decode cX10_goThroughFits 8 = .ok (.iload 6, 2) := by decide +kernel
theorem dX10_goThroughFits_10 : decode cX10_goThroughFits 10 = .ok (.bipush 10, 2) := by decide +kernel
theorem dX10_goThroughFits_12 : decode cX10_goThroughFits 12 = .ok (.if_icmp .ge 25, 3) := by decide +kernel
theorem dX10_goThroughFits_15 : decode cX10_goThroughFits 15 = .ok (.aload_n 0, 1) := by decide +kernel
theorem dX10_goThroughFits_16 : decode cX10_goThroughFits 16 = .ok (.getfield 18, 3) := by decide +kernel
theorem dX10_goThroughFits_19 : decode cX10_goThroughFits 19 = .ok (.iload 6, 2) := by decide +kernel
theorem dX10_goThroughFits_21 : decode cX10_goThroughFits 21 = .ok (.iconst (-1), 1) := by decide +kernel
theorem dX10_goThroughFits_22 : decode cX10_goThroughFits 22 = .ok (.iastore, 1) := by decide +kernel
theorem dX10_goThroughFits_23 : decode cX10_goThroughFits 23 = .ok (.aload_n 0, 1) := by decide +kernel
theorem dX10_goThroughFits_24 : decode cX10_goThroughFits 24 = .ok (.getfield 21, 3) := by decide +kernel
theorem dX10_goThroughFits_27 : decode cX10_goThroughFits 27 = .ok (.iload 6, 2) := by decide +kernel
theorem dX10_goThroughFits_29 : decode cX10_goThroughFits 29 = .ok (.iconst 0, 1) := by decide +kernel
theorem dX10_goThroughFits_30 : decode cX10_goThroughFits 30 = .ok (.iastore, 1) := by decide +kernel
theorem dX10_goThroughFits_31 : decode cX10_goThroughFits 31 = .ok (.iinc 6 1, 3) := by decide +kernel
theorem dX10_goThroughFits_34 : decode cX10_goThroughFits 34 = .ok (.goto (-26), 3) := by decide +kernel
theorem dX10_goThroughFits_37 : decode cX10_goThroughFits 37 = .ok (.iconst 0, 1) := by decide +kernel
theorem dX10_goThroughFits_38 : decode cX10_goThroughFits 38 = .ok (.istore 6, 2) := by decide +kernel
theorem dX10_goThroughFits_40 : decode cX10_goThroughFits 40 = .ok (.iload 6, 2) := by decide +kernel
theorem dX10_goThroughFits_42 : decode cX10_goThroughFits 42 = .ok (.iload 4, 2) := by decide +kernel
theorem dX10_goThroughFits_44 : decode cX10_goThroughFits 44 = .ok (.if_icmp .ge 79, 3) := by decide +kernel
theorem dX10_goThroughFits_47 : decode cX10_goThroughFits 47 = .ok (.iload 6, 2) := by decide +kernel
theorem dX10_goThroughFits_49 : decode cX10_goThroughFits 49 = .ok (.aload_n 0, 1) := by decide +kernel
theorem dX10_goThroughFits_50 : decode cX10_goThroughFits 50 = .ok (.getfield 34, 3) := by decide +kernel
theorem dX10_goThroughFits_53 : decode cX10_goThroughFits 53 = .ok (.if_icmp .ge 70, 3) := by decide +kernel
theorem dX10_goThroughFits_56 : decode cX10_goThroughFits 56 = .ok (.iload 6, 2) := by decide +kernel
theorem dX10_goThroughFits_58 : decode cX10_goThroughFits 58 = .ok (.bipush 20, 2) := by decide +kernel
theorem dX10_goThroughFits_60 : decode cX10_goThroughFits 60 = .ok (.if_icmp .ge 63, 3) := by decide +kernel
theorem dX10_goThroughFits_63 : decode cX10_goThroughFits 63 = .ok (.aload_n 2, 1) := by decide +kernel
theorem dX10_goThroughFits_64 : decode cX10_goThroughFits 64 = .ok (.aload_n 0, 1) := by decide +kernel
theorem dX10_goThroughFits_65 : decode cX10_goThroughFits 65 = .ok (.getfield 9, 3) := by decide +kernel
theorem dX10_goThroughFits_68 : decode cX10_goThroughFits 68 = .ok (.iload 6, 2) := by decide +kernel
theorem dX10_goThroughFits_70 : decode cX10_goThroughFits 70 = .ok (.iaload, 1) := by decide +kernel
theorem dX10_goThroughFits_71 : decode cX10_goThroughFits 71 = .ok (.invokevirtual 42, 3) := by decide +kernel
theorem dX10_goThroughFits_74 : decode cX10_goThroughFits 74 = .ok (.ifCond .ne 6, 3) := by decide +kernel
theorem dX10_goThroughFits_77 : decode cX10_goThroughFits 77 = .ok (.goto 40, 3) := by decide +kernel
theorem dX10_goThroughFits_80 : decode cX10_goThroughFits 80 = .ok (.aload_n 0, 1) := by decide +kernel
theorem dX10_goThroughFits_81 : decode cX10_goThroughFits 81 = .ok (.getfield 18, 3) := by decide +kernel
theorem dX10_goThroughFits_84 : decode cX10_goThroughFits 84 = .ok (.aload_n 0, 1) := by decide +kernel
theorem dX10_goThroughFits_85 : decode cX10_goThroughFits 85 = .ok (.getfield 9, 3) := by decide +kernel
theorem dX10_goThroughFits_88 : decode cX10_goThroughFits 88 = .ok (.iload 6, 2) := by decide +kernel
theorem dX10_goThroughFits_90 : decode cX10_goThroughFits 90 = .ok (.iaload, 1) := by decide +kernel
theorem dX10_goThroughFits_91 : decode cX10_goThroughFits 91 = .ok (.aload_n 0, 1) := by decide +kernel
theorem dX10_goThroughFits_92 : decode cX10_goThroughFits 92 = .ok (.getfield 15, 3) := by decide +kernel
theorem dX10_goThroughFits_95 : decode cX10_goThroughFits 95 = .ok (.iload 6, 2) := by decide +kernel
theorem dX10_goThroughFits_97 : decode cX10_goThroughFits 97 = .ok (.iaload, 1) := by decide +kernel
theorem dX10_goThroughFits_98 : decode cX10_goThroughFits 98 = .ok (.iastore, 1) := by decide +kernel
theorem dX10_goThroughFits_99 : decode cX10_goThroughFits 99 = .ok (.aload_n 0, 1) := by decide +kernel
theorem dX10_goThroughFits_100 : decode cX10_goThroughFits 100 = .ok (.aload_n 0, 1) := by decide +kernel
theorem dX10_goThroughFits_101 : decode cX10_goThroughFits 101 = .ok (.getfield 39, 3) := by decide +kernel
theorem dX10_goThroughFits_104 : decode cX10_goThroughFits 104 = .ok (.aload_n 0, 1) := by decide +kernel
theorem dX10_goThroughFits_105 : decode cX10_goThroughFits 105 = .ok (.getfield 9, 3) := by decide +kernel
theorem dX10_goThroughFits_108 : decode cX10_goThroughFits 108 = .ok (.iload 6, 2) := by decide +kernel
theorem dX10_goThroughFits_110 : decode cX10_goThroughFits 110 = .ok (.iaload, 1) := by decide +kernel
theorem dX10_goThroughFits_111 : decode cX10_goThroughFits 111 = .ok (.invokestatic 46, 3) := by decide +kernel
theorem dX10_goThroughFits_114 : decode cX10_goThroughFits 114 = .ok (.putfield 39, 3) := by decide +kernel
theorem dX10_goThroughFits_117 : decode cX10_goThroughFits 117 = .ok (.iinc 6 1, 3) := by decide +kernel
theorem dX10_goThroughFits_120 : decode cX10_goThroughFits 120 = .ok (.goto (-80), 3) := by decide +kernel
theorem dX10_goThroughFits_123 : decode cX10_goThroughFits 123 = .ok (.aload_n 0, 1) := by decide +kernel
theorem dX10_goThroughFits_124 : decode cX10_goThroughFits 124 = .ok (.aload_n 1, 1) := by decide +kernel
theorem dX10_goThroughFits_125 : decode cX10_goThroughFits 125 = .ok (.aload_n 2, 1) := by decide +kernel
theorem dX10_goThroughFits_126 : decode cX10_goThroughFits 126 = .ok (.iload_n 3, 1) := by decide +kernel
theorem dX10_goThroughFits_127 : decode cX10_goThroughFits 127 = .ok (.iload 5, 2) := by decide +kernel
theorem dX10_goThroughFits_129 : decode cX10_goThroughFits 129 = .ok (.iconst 0, 1) := by decide +kernel
theorem dX10_goThroughFits_130 : decode cX10_goThroughFits 130 = .ok (.invokevirtual 52, 3) := by decide +kernel
theorem dX10_goThroughFits_133 : decode cX10_goThroughFits 133 = .ok (.return_, 1) := by decide +kernel
theorem dX10_goThroughAgo_0 : decode cX10_goThroughAgo 0 = .ok (.aload_n 0, 1) := by decide +kernel
theorem dX10_goThroughAgo_1 : decode cX10_goThroughAgo 1 = .ok (.aload_n 2, 1) := by decide +kernel
theorem dX10_goThroughAgo_2 : decode cX10_goThroughAgo 2 = .ok (.getfield 56, 3) := by decide +kernel
theorem dX10_goThroughAgo_5 : decode cX10_goThroughAgo 5 = .ok (.iconst 1, 1) := by decide +kernel
theorem dX10_goThroughAgo_6 : decode cX10_goThroughAgo 6 = .ok (.isub, 1) := by decide +kernel
theorem dX10_goThroughAgo_7 : decode cX10_goThroughAgo 7 = .ok (.putfield 39, 3) := by decide +kernel
theorem dX10_goThroughAgo_10 : decode cX10_goThroughAgo 10 = .ok (.iconst 0, 1) := by decide +kernel
theorem dX10_goThroughAgo_11 : decode cX10_goThroughAgo 11 = .ok (.istore 4, 2) := by decide +kernel
theorem dX10_goThroughAgo_13 : decode cX10_goThroughAgo 13 = .ok (.iload 4, 2) := by decide +kernel
theorem dX10_goThroughAgo_15 : decode cX10_goThroughAgo 15 = .ok (.bipush 10, 2) := by decide +kernel
theorem dX10_goThroughAgo_17 : decode cX10_goThroughAgo 17 = .ok (.if_icmp .ge 32, 3) := by decide +kernel
theorem dX10_goThroughAgo_20 : decode cX10_goThroughAgo 20 = .ok (.aload_n 2, 1) := by decide +kernel
theorem dX10_goThroughAgo_21 : decode cX10_goThroughAgo 21 = .ok (.iload 4, 2) := by decide +kernel
theorem dX10_goThroughAgo_23 : decode cX10_goThroughAgo 23 = .ok (.invokevirtual 42, 3) := by decide +kernel
theorem dX10_goThroughAgo_26 : decode cX10_goThroughAgo 26 = .ok (.ifCond .eq 23, 3) := by decide +kernel
theorem dX10_goThroughAgo_29 : decode cX10_goThroughAgo 29 = .ok (.aload_n 0, 1) := by decide +kernel
theorem dX10_goThroughAgo_30 : decode cX10_goThroughAgo 30 = .ok (.getfield 21, 3) := by decide +kernel
theorem dX10_goThroughAgo_33 : decode cX10_goThroughAgo 33 = .ok (.iload 4, 2) := by decide +kernel
theorem dX10_goThroughAgo_35 : decode cX10_goThroughAgo 35 = .ok (.aload_n 2, 1) := by decide +kernel
theorem dX10_goThroughAgo_36 : decode cX10_goThroughAgo 36 = .ok (.getfield 58, 3) := by decide +kernel
theorem dX10_goThroughAgo_39 : decode cX10_goThroughAgo 39 = .ok (.iload 4, 2) := by decide +kernel
theorem dX10_goThroughAgo_41 : decode cX10_goThroughAgo 41 = .ok (.iaload, 1) := by decide +kernel
theorem dX10_goThroughAgo_42 : decode cX10_goThroughAgo 42 = .ok (.iastore, 1) := by decide +kernel
theorem dX10_goThroughAgo_43 : decode cX10_goThroughAgo 43 = .ok (.iinc 4 1, 3) := by decide +kernel
theorem dX10_goThroughAgo_46 : decode cX10_goThroughAgo 46 = .ok (.goto (-33), 3) := by decide +kernel
theorem dX10_goThroughAgo_49 : decode cX10_goThroughAgo 49 = .ok (.aload_n 0, 1) := by decide +kernel
theorem dX10_goThroughAgo_50 : decode cX10_goThroughAgo 50 = .ok (.aload_n 1, 1) := by decide +kernel
theorem dX10_goThroughAgo_51 : decode cX10_goThroughAgo 51 = .ok (.aload_n 2, 1) := by decide +kernel
theorem dX10_goThroughAgo_52 : decode cX10_goThroughAgo 52 = .ok (.iload_n 3, 1) := by decide +kernel
theorem dX10_goThroughAgo_53 : decode cX10_goThroughAgo 53 = .ok (.iconst 0, 1) := by decide +kernel
theorem dX10_goThroughAgo_54 : decode cX10_goThroughAgo 54 = .ok (.iconst 1, 1) := by decide +kernel
theorem dX10_goThroughAgo_55 : decode cX10_goThroughAgo 55 = .ok (.invokevirtual 52, 3) := by decide +kernel
theorem dX10_goThroughAgo_58 : decode cX10_goThroughAgo 58 = .ok (.return_, 1) := by decide +kernel
theorem dX10_goThrough_0 : decode cX10_goThrough 0 = .ok (.aload_n 0, 1) := by decide +kernel
theorem dX10_goThrough_1 : decode cX10_goThrough 1 = .ok (.iconst 0, 1) := by decide +kernel
theorem dX10_goThrough_2 : decode cX10_goThrough 2 = .ok (.putfield 61, 3) := by decide +kernel
theorem dX10_goThrough_5 : decode cX10_goThrough 5 = .ok (.aload_n 0, 1) := by decide +kernel
theorem dX10_goThrough_6 : decode cX10_goThrough 6 = .ok (.iload_n 3, 1) := by decide +kernel
theorem dX10_goThrough_7 : decode cX10_goThrough 7 = .ok (.putfield 64, 3) := by decide +kernel
theorem dX10_goThrough_10 : decode cX10_goThrough 10 = .ok (.aload_n 0, 1) := by decide +kernel
theorem dX10_goThrough_11 : decode cX10_goThrough 11 = .ok (.iconst 0, 1) := by decide +kernel
theorem dX10_goThrough_12 : decode cX10_goThrough 12 = .ok (.putfield 67, 3) := by decide +kernel
theorem dX10_goThrough_15 : decode cX10_goThrough 15 = .ok (.aload_n 0, 1) := by decide +kernel
theorem dX10_goThrough_16 : decode cX10_goThrough 16 = .ok (.getfield 30, 3) := by decide +kernel
theorem dX10_goThrough_19 : decode cX10_goThrough 19 = .ok (.aload_n 2, 1) := by decide +kernel
theorem dX10_goThrough_20 : decode cX10_goThrough 20 = .ok (.invokevirtual 70, 3) := by decide +kernel
theorem dX10_goThrough_23 : decode cX10_goThrough 23 = .ok (.iconst 0, 1) := by decide +kernel
theorem dX10_goThrough_24 : decode cX10_goThrough 24 = .ok (.istore 6, 2) := by decide +kernel
theorem dX10_goThrough_26 : decode cX10_goThrough 26 = .ok (.iload 6, 2) := by decide +kernel
theorem dX10_goThrough_28 : decode cX10_goThrough 28 = .ok (.bipush 10, 2) := by decide +kernel
theorem dX10_goThrough_30 : decode cX10_goThrough 30 = .ok (.if_icmp .ge 32, 3) := by decide +kernel
theorem dX10_goThrough_33 : decode cX10_goThrough 33 = .ok (.aload_n 0, 1) := by decide +kernel
theorem dX10_goThrough_34 : decode cX10_goThrough 34 = .ok (.getfield 30, 3) := by decide +kernel
theorem dX10_goThrough_37 : decode cX10_goThrough 37 = .ok (.iload 6, 2) := by decide +kernel
theorem dX10_goThrough_39 : decode cX10_goThrough 39 = .ok (.invokevirtual 42, 3) := by decide +kernel
theorem dX10_goThrough_42 : decode cX10_goThrough 42 = .ok (.ifCond .eq 20, 3) := by decide +kernel
theorem dX10_goThrough_45 : decode cX10_goThrough 45 = .ok (.aload_n 0, 1) := by decide +kernel
theorem dX10_goThrough_46 : decode cX10_goThrough 46 = .ok (.getfield 30, 3) := by decide +kernel
theorem dX10_goThrough_49 : decode cX10_goThrough 49 = .ok (.getfield 74, 3) := by decide +kernel
theorem dX10_goThrough_52 : decode cX10_goThrough 52 = .ok (.iload 6, 2) := by decide +kernel
theorem dX10_goThrough_54 : decode cX10_goThrough 54 = .ok (.iconst 0, 1) := by decide +kernel
theorem dX10_goThrough_55 : decode cX10_goThrough 55 = .ok (.iastore, 1) := by decide +kernel
theorem dX10_goThrough_56 : decode cX10_goThrough 56 = .ok (.iinc 6 1, 3) := by decide +kernel
theorem dX10_goThrough_59 : decode cX10_goThrough 59 = .ok (.goto (-33), 3) := by decide +kernel
theorem dX10_goThrough_62 : decode cX10_goThrough 62 = .ok (.aload_n 0, 1) := by decide +kernel
theorem dX10_goThrough_63 : decode cX10_goThrough 63 = .ok (.iload_n 3, 1) := by decide +kernel
theorem dX10_goThrough_64 : decode cX10_goThrough 64 = .ok (.invokevirtual 77, 3) := by decide +kernel
theorem dX10_goThrough_67 : decode cX10_goThrough 67 = .ok (.istore 6, 2) := by decide +kernel
theorem dX10_goThrough_69 : decode cX10_goThrough 69 = .ok (.iconst 0, 1) := by decide +kernel
theorem dX10_goThrough_70 : decode cX10_goThrough 70 = .ok (.istore 7, 2) := by decide +kernel
theorem dX10_goThrough_72 : decode cX10_goThrough 72 = .ok (.iload 7, 2) := by decide +kernel
theorem dX10_goThrough_74 : decode cX10_goThrough 74 = .ok (.ldc 38, 2) := by decide +kernel
theorem dX10_goThrough_76 : decode cX10_goThrough 76 = .ok (.if_icmp .ge 101, 3) := by decide +kernel
theorem dX10_goThrough_79 : decode cX10_goThrough 79 = .ok (.iload 6, 2) := by decide +kernel
theorem dX10_goThrough_81 : decode cX10_goThrough 81 = .ok (.ifCond .eq 96, 3) := by decide +kernel
theorem dX10_goThrough_84 : decode cX10_goThrough 84 = .ok (.iconst 0, 1) := by decide +kernel
theorem dX10_goThrough_85 : decode cX10_goThrough 85 = .ok (.istore 8, 2) := by decide +kernel
theorem dX10_goThrough_87 : decode cX10_goThrough 87 = .ok (.iload 5, 2) := by decide +kernel
theorem dX10_goThrough_89 : decode cX10_goThrough 89 = .ok (.ifCond .eq 50, 3) := by decide +kernel
theorem dX10_goThrough_92 : decode cX10_goThrough 92 = .ok (.iload 8, 2) := by decide +kernel
theorem dX10_goThrough_94 : decode cX10_goThrough 94 = .ok (.bipush 10, 2) := by decide +kernel
theorem dX10_goThrough_96 : decode cX10_goThrough 96 = .ok (.if_icmp .ge 43, 3) := by decide +kernel
theorem dX10_goThrough_99 : decode cX10_goThrough 99 = .ok (.aload_n 0, 1) := by decide +kernel
theorem dX10_goThrough_100 : decode cX10_goThrough 100 = .ok (.getfield 30, 3) := by decide +kernel
theorem dX10_goThrough_103 : decode cX10_goThrough 103 = .ok (.iload 8, 2) := by decide +kernel
theorem dX10_goThrough_105 : decode cX10_goThrough 105 = .ok (.invokevirtual 42, 3) := by decide +kernel
theorem dX10_goThrough_108 : decode cX10_goThrough 108 = .ok (.ifCond .eq 31, 3) := by decide +kernel
theorem dX10_goThrough_111 : decode cX10_goThrough 111 = .ok (.aload_n 0, 1) := by decide +kernel
theorem dX10_goThrough_112 : decode cX10_goThrough 112 = .ok (.getfield 18, 3) := by decide +kernel
theorem dX10_goThrough_115 : decode cX10_goThrough 115 = .ok (.iload 8, 2) := by decide +kernel
theorem dX10_goThrough_117 : decode cX10_goThrough 117 = .ok (.aload_n 0, 1) := by decide +kernel
theorem dX10_goThrough_118 : decode cX10_goThrough 118 = .ok (.getfield 24, 3) := by decide +kernel
theorem dX10_goThrough_121 : decode cX10_goThrough 121 = .ok (.iload 8, 2) := by decide +kernel
theorem dX10_goThrough_123 : decode cX10_goThrough 123 = .ok (.iaload, 1) := by decide +kernel
theorem dX10_goThrough_124 : decode cX10_goThrough 124 = .ok (.aload_n 0, 1) := by decide +kernel
theorem dX10_goThrough_125 : decode cX10_goThrough 125 = .ok (.getfield 21, 3) := by decide +kernel
theorem dX10_goThrough_128 : decode cX10_goThrough 128 = .ok (.iload 8, 2) := by decide +kernel
theorem dX10_goThrough_130 : decode cX10_goThrough 130 = .ok (.iaload, 1) := by decide +kernel
theorem dX10_goThrough_131 : decode cX10_goThrough 131 = .ok (.isub, 1) := by decide +kernel
theorem dX10_goThrough_132 : decode cX10_goThrough 132 = .ok (.iastore, 1) := by decide +kernel
theorem dX10_goThrough_133 : decode cX10_goThrough 133 = .ok (.iinc 8 1, 3) := by decide +kernel
theorem dX10_goThrough_136 : decode cX10_goThrough 136 = .ok (.goto (-49), 3) := by decide +kernel
theorem dX10_goThrough_139 : decode cX10_goThrough 139 = .ok (.aload_n 0, 1) := by decide +kernel
theorem dX10_goThrough_140 : decode cX10_goThrough 140 = .ok (.getfield 30, 3) := by decide +kernel
theorem dX10_goThrough_143 : decode cX10_goThrough 143 = .ok (.aload_n 2, 1) := by decide +kernel
theorem dX10_goThrough_144 : decode cX10_goThrough 144 = .ok (.getfield 80, 3) := by decide +kernel
theorem dX10_goThrough_147 : decode cX10_goThrough 147 = .ok (.putfield 80, 3) := by decide +kernel
theorem dX10_goThrough_150 : decode cX10_goThrough 150 = .ok (.aload_n 0, 1) := by decide +kernel
theorem dX10_goThrough_151 : decode cX10_goThrough 151 = .ok (.aload_n 1, 1) := by decide +kernel
theorem dX10_goThrough_152 : decode cX10_goThrough 152 = .ok (.invokevirtual 83, 3) := by decide +kernel
theorem dX10_goThrough_155 : decode cX10_goThrough 155 = .ok (.ifCond .eq 9, 3) := by decide +kernel
theorem dX10_goThrough_158 : decode cX10_goThrough 158 = .ok (.aload_n 0, 1) := by decide +kernel
theorem dX10_goThrough_159 : decode cX10_goThrough 159 = .ok (.iload 4, 2) := by decide +kernel
theorem dX10_goThrough_161 : decode cX10_goThrough 161 = .ok (.invokevirtual 87, 3) := by decide +kernel
theorem dX10_goThrough_164 : decode cX10_goThrough 164 = .ok (.aload_n 0, 1) := by decide +kernel
theorem dX10_goThrough_165 : decode cX10_goThrough 165 = .ok (.iload_n 3, 1) := by decide +kernel
theorem dX10_goThrough_166 : decode cX10_goThrough 166 = .ok (.invokevirtual 91, 3) := by decide +kernel
theorem dX10_goThrough_169 : decode cX10_goThrough 169 = .ok (.istore 6, 2) := by decide +kernel
theorem dX10_goThrough_171 : decode cX10_goThrough 171 = .ok (.iinc 7 1, 3) := by decide +kernel
theorem dX10_goThrough_174 : decode cX10_goThrough 174 = .ok (.goto (-102), 3) := by decide +kernel
theorem dX10_goThrough_177 : decode cX10_goThrough 177 = .ok (.return_, 1) := by decide +kernel
theorem dX10_startRows_0 : decode cX10_startRows 0 = .ok (.iconst 0, 1) := by decide +kernel
theorem dX10_startRows_1 : decode cX10_startRows 1 = .ok (.istore_n 2, 1) := by decide +kernel
theorem dX10_startRows_2 : decode cX10_startRows 2 = .ok (.iload_n 2, 1) := by decide +kernel
theorem dX10_startRows_3 : decode cX10_startRows 3 = .ok (.bipush 10, 2) := by decide +kernel
theorem dX10_startRows_5 : decode cX10_startRows 5 = .ok (.if_icmp .ge 44, 3) := by decide +kernel
theorem dX10_startRows_8 : decode cX10_startRows 8 = .ok (.aload_n 0, 1) := by decide +kernel
theorem dX10_startRows_9 : decode cX10_startRows 9 = .ok (.getfield 30, 3) := by decide +kernel
theorem dX10_startRows_12 : decode cX10_startRows 12 = .ok (.iload_n 2, 1) := by decide +kernel
theorem dX10_startRows_13 : decode cX10_startRows 13 = .ok (.invokevirtual 42, 3) := by decide +kernel
theorem dX10_startRows_16 : decode cX10_startRows 16 = .ok (.ifCond .eq 33, 3) := by decide +kernel
theorem dX10_startRows_19 : decode cX10_startRows 19 = .ok (.aload_n 0, 1) := by decide +kernel
theorem dX10_startRows_20 : decode cX10_startRows 20 = .ok (.getfield 21, 3) := by decide +kernel
theorem dX10_startRows_23 : decode cX10_startRows 23 = .ok (.iload_n 2, 1) := by decide +kernel
theorem dX10_startRows_24 : decode cX10_startRows 24 = .ok (.iaload, 1) := by decide +kernel
theorem dX10_startRows_25 : decode cX10_startRows 25 = .ok (.iload_n 1, 1) := by decide +kernel
theorem dX10_startRows_26 : decode cX10_startRows 26 = .ok (.if_icmp .le 5, 3) := by decide +kernel
theorem dX10_startRows_29 : decode cX10_startRows 29 = .ok (.iconst 0, 1) := by decide +kernel
theorem dX10_startRows_30 : decode cX10_startRows 30 = .ok (.ireturn, 1) := by decide +kernel
theorem dX10_startRows_31 : decode cX10_startRows 31 = .ok (.aload_n 0, 1) := by decide +kernel
theorem dX10_startRows_32 : decode cX10_startRows 32 = .ok (.getfield 24, 3) := by decide +kernel
theorem dX10_startRows_35 : decode cX10_startRows 35 = .ok (.iload_n 2, 1) := by decide +kernel
theorem dX10_startRows_36 : decode cX10_startRows 36 = .ok (.aload_n 0, 1) := by decide +kernel
theorem dX10_startRows_37 : decode cX10_startRows 37 = .ok (.getfield 21, 3) := by decide +kernel
theorem dX10_startRows_40 : decode cX10_startRows 40 = .ok (.iload_n 2, 1) := by decide +kernel
theorem dX10_startRows_41 : decode cX10_startRows 41 = .ok (.iaload, 1) := by decide +kernel
theorem dX10_startRows_42 : decode cX10_startRows 42 = .ok (.iastore, 1) := by decide +kernel
theorem dX10_startRows_43 : decode cX10_startRows 43 = .ok (.iinc 2 1, 3) := by decide +kernel
theorem dX10_startRows_46 : decode cX10_startRows 46 = .ok (.goto (-44), 3) := by decide +kernel
theorem dX10_startRows_49 : decode cX10_startRows 49 = .ok (.iconst 1, 1) := by decide +kernel
theorem dX10_startRows_50 : decode cX10_startRows 50 = .ok (.ireturn, 1) := by decide +kernel
theorem dX10_stepRow_0 : decode cX10_stepRow 0 = .ok (.iconst 0, 1) := by decide +kernel
theorem dX10_stepRow_1 : decode cX10_stepRow 1 = .ok (.istore_n 2, 1) := by decide +kernel
theorem dX10_stepRow_2 : decode cX10_stepRow 2 = .ok (.iload_n 2, 1) := by decide +kernel
theorem dX10_stepRow_3 : decode cX10_stepRow 3 = .ok (.bipush 10, 2) := by decide +kernel
theorem dX10_stepRow_5 : decode cX10_stepRow 5 = .ok (.if_icmp .ge 54, 3) := by decide +kernel
theorem dX10_stepRow_8 : decode cX10_stepRow 8 = .ok (.aload_n 0, 1) := by decide +kernel
theorem dX10_stepRow_9 : decode cX10_stepRow 9 = .ok (.getfield 30, 3) := by decide +kernel
theorem dX10_stepRow_12 : decode cX10_stepRow 12 = .ok (.iload_n 2, 1) := by decide +kernel
theorem dX10_stepRow_13 : decode cX10_stepRow 13 = .ok (.invokevirtual 42, 3) := by decide +kernel
theorem dX10_stepRow_16 : decode cX10_stepRow 16 = .ok (.ifCond .eq 43, 3) := by decide +kernel
theorem dX10_stepRow_19 : decode cX10_stepRow 19 = .ok (.aload_n 0, 1) := by decide +kernel
theorem dX10_stepRow_20 : decode cX10_stepRow 20 = .ok (.getfield 24, 3) := by decide +kernel
theorem dX10_stepRow_23 : decode cX10_stepRow 23 = .ok (.iload_n 2, 1) := by decide +kernel
theorem dX10_stepRow_24 : decode cX10_stepRow 24 = .ok (.iaload, 1) := by decide +kernel
theorem dX10_stepRow_25 : decode cX10_stepRow 25 = .ok (.iload_n 1, 1) := by decide +kernel
theorem dX10_stepRow_26 : decode cX10_stepRow 26 = .ok (.if_icmp .ge 15, 3) := by decide +kernel
theorem dX10_stepRow_29 : decode cX10_stepRow 29 = .ok (.aload_n 0, 1) := by decide +kernel
theorem dX10_stepRow_30 : decode cX10_stepRow 30 = .ok (.getfield 24, 3) := by decide +kernel
theorem dX10_stepRow_33 : decode cX10_stepRow 33 = .ok (.iload_n 2, 1) := by decide +kernel
theorem dX10_stepRow_34 : decode cX10_stepRow 34 = .ok (.dup2, 1) := by decide +kernel
theorem dX10_stepRow_35 : decode cX10_stepRow 35 = .ok (.iaload, 1) := by decide +kernel
theorem dX10_stepRow_36 : decode cX10_stepRow 36 = .ok (.iconst 1, 1) := by decide +kernel
theorem dX10_stepRow_37 : decode cX10_stepRow 37 = .ok (.iadd, 1) := by decide +kernel
theorem dX10_stepRow_38 : decode cX10_stepRow 38 = .ok (.iastore, 1) := by decide +kernel
theorem dX10_stepRow_39 : decode cX10_stepRow 39 = .ok (.iconst 1, 1) := by decide +kernel
theorem dX10_stepRow_40 : decode cX10_stepRow 40 = .ok (.ireturn, 1) := by decide +kernel
theorem dX10_stepRow_41 : decode cX10_stepRow 41 = .ok (.aload_n 0, 1) := by decide +kernel
theorem dX10_stepRow_42 : decode cX10_stepRow 42 = .ok (.getfield 24, 3) := by decide +kernel
theorem dX10_stepRow_45 : decode cX10_stepRow 45 = .ok (.iload_n 2, 1) := by decide +kernel
theorem dX10_stepRow_46 : decode cX10_stepRow 46 = .ok (.aload_n 0, 1) := by decide +kernel
theorem dX10_stepRow_47 : decode cX10_stepRow 47 = .ok (.getfield 21, 3) := by decide +kernel
theorem dX10_stepRow_50 : decode cX10_stepRow 50 = .ok (.iload_n 2, 1) := by decide +kernel
theorem dX10_stepRow_51 : decode cX10_stepRow 51 = .ok (.iaload, 1) := by decide +kernel
theorem dX10_stepRow_52 : decode cX10_stepRow 52 = .ok (.iastore, 1) := by decide +kernel
theorem dX10_stepRow_53 : decode cX10_stepRow 53 = .ok (.iinc 2 1, 3) := by decide +kernel
theorem dX10_stepRow_56 : decode cX10_stepRow 56 = .ok (.goto (-54), 3) := by decide +kernel
theorem dX10_stepRow_59 : decode cX10_stepRow 59 = .ok (.iconst 0, 1) := by decide +kernel
theorem dX10_stepRow_60 : decode cX10_stepRow 60 = .ok (.ireturn, 1) := by decide +kernel
theorem dX10_paysAsKnown_0 : decode cX10_paysAsKnown 0 = .ok (.iconst 0, 1) := by decide +kernel
theorem dX10_paysAsKnown_1 : decode cX10_paysAsKnown 1 = .ok (.istore_n 2, 1) := by decide +kernel
theorem dX10_paysAsKnown_2 : decode cX10_paysAsKnown 2 = .ok (.iload_n 2, 1) := by decide +kernel
theorem dX10_paysAsKnown_3 : decode cX10_paysAsKnown 3 = .ok (.bipush 10, 2) := by decide +kernel
theorem dX10_paysAsKnown_5 : decode cX10_paysAsKnown 5 = .ok (.if_icmp .ge 35, 3) := by decide +kernel
theorem dX10_paysAsKnown_8 : decode cX10_paysAsKnown 8 = .ok (.aload_n 0, 1) := by decide +kernel
theorem dX10_paysAsKnown_9 : decode cX10_paysAsKnown 9 = .ok (.getfield 30, 3) := by decide +kernel
theorem dX10_paysAsKnown_12 : decode cX10_paysAsKnown 12 = .ok (.iload_n 2, 1) := by decide +kernel
theorem dX10_paysAsKnown_13 : decode cX10_paysAsKnown 13 = .ok (.invokevirtual 42, 3) := by decide +kernel
theorem dX10_paysAsKnown_16 : decode cX10_paysAsKnown 16 = .ok (.ifCond .eq 24, 3) := by decide +kernel
theorem dX10_paysAsKnown_19 : decode cX10_paysAsKnown 19 = .ok (.aload_n 0, 1) := by decide +kernel
theorem dX10_paysAsKnown_20 : decode cX10_paysAsKnown 20 = .ok (.getfield 30, 3) := by decide +kernel
theorem dX10_paysAsKnown_23 : decode cX10_paysAsKnown 23 = .ok (.getfield 58, 3) := by decide +kernel
theorem dX10_paysAsKnown_26 : decode cX10_paysAsKnown 26 = .ok (.iload_n 2, 1) := by decide +kernel
theorem dX10_paysAsKnown_27 : decode cX10_paysAsKnown 27 = .ok (.aload_n 0, 1) := by decide +kernel
theorem dX10_paysAsKnown_28 : decode cX10_paysAsKnown 28 = .ok (.getfield 24, 3) := by decide +kernel
theorem dX10_paysAsKnown_31 : decode cX10_paysAsKnown 31 = .ok (.iload_n 2, 1) := by decide +kernel
theorem dX10_paysAsKnown_32 : decode cX10_paysAsKnown 32 = .ok (.iaload, 1) := by decide +kernel
theorem dX10_paysAsKnown_33 : decode cX10_paysAsKnown 33 = .ok (.iastore, 1) := by decide +kernel
theorem dX10_paysAsKnown_34 : decode cX10_paysAsKnown 34 = .ok (.iinc 2 1, 3) := by decide +kernel
theorem dX10_paysAsKnown_37 : decode cX10_paysAsKnown 37 = .ok (.goto (-35), 3) := by decide +kernel
theorem dX10_paysAsKnown_40 : decode cX10_paysAsKnown 40 = .ok (.iconst 0, 1) := by decide +kernel
theorem dX10_paysAsKnown_41 : decode cX10_paysAsKnown 41 = .ok (.istore_n 2, 1) := by decide +kernel
theorem dX10_paysAsKnown_42 : decode cX10_paysAsKnown 42 = .ok (.iload_n 2, 1) := by decide +kernel
theorem dX10_paysAsKnown_43 : decode cX10_paysAsKnown 43 = .ok (.aload_n 0, 1) := by decide +kernel
theorem dX10_paysAsKnown_44 : decode cX10_paysAsKnown 44 = .ok (.getfield 39, 3) := by decide +kernel
theorem dX10_paysAsKnown_47 : decode cX10_paysAsKnown 47 = .ok (.if_icmp .gt 94, 3) := by decide +kernel
theorem dX10_paysAsKnown_50 : decode cX10_paysAsKnown 50 = .ok (.iload_n 2, 1) := by decide +kernel
theorem dX10_paysAsKnown_51 : decode cX10_paysAsKnown 51 = .ok (.bipush 10, 2) := by decide +kernel
theorem dX10_paysAsKnown_53 : decode cX10_paysAsKnown 53 = .ok (.if_icmp .ge 88, 3) := by decide +kernel
theorem dX10_paysAsKnown_56 : decode cX10_paysAsKnown 56 = .ok (.aload_n 0, 1) := by decide +kernel
theorem dX10_paysAsKnown_57 : decode cX10_paysAsKnown 57 = .ok (.getfield 30, 3) := by decide +kernel
theorem dX10_paysAsKnown_60 : decode cX10_paysAsKnown 60 = .ok (.iload_n 2, 1) := by decide +kernel
theorem dX10_paysAsKnown_61 : decode cX10_paysAsKnown 61 = .ok (.invokevirtual 42, 3) := by decide +kernel
theorem dX10_paysAsKnown_64 : decode cX10_paysAsKnown 64 = .ok (.ifCond .eq 77, 3) := by decide +kernel
theorem dX10_paysAsKnown_67 : decode cX10_paysAsKnown 67 = .ok (.aload_n 0, 1) := by decide +kernel
theorem dX10_paysAsKnown_68 : decode cX10_paysAsKnown 68 = .ok (.getfield 18, 3) := by decide +kernel
theorem dX10_paysAsKnown_71 : decode cX10_paysAsKnown 71 = .ok (.iload_n 2, 1) := by decide +kernel
theorem dX10_paysAsKnown_72 : decode cX10_paysAsKnown 72 = .ok (.iaload, 1) := by decide +kernel
theorem dX10_paysAsKnown_73 : decode cX10_paysAsKnown 73 = .ok (.iconst (-1), 1) := by decide +kernel
theorem dX10_paysAsKnown_74 : decode cX10_paysAsKnown 74 = .ok (.if_icmp .ne 13, 3) := by decide +kernel
theorem dX10_paysAsKnown_77 : decode cX10_paysAsKnown 77 = .ok (.aload_n 1, 1) := by decide +kernel
theorem dX10_paysAsKnown_78 : decode cX10_paysAsKnown 78 = .ok (.getfield 94, 3) := by decide +kernel
theorem dX10_paysAsKnown_81 : decode cX10_paysAsKnown 81 = .ok (.ifCond .ne 6, 3) := by decide +kernel
theorem dX10_paysAsKnown_84 : decode cX10_paysAsKnown 84 = .ok (.goto 51, 3) := by decide +kernel
theorem dX10_paysAsKnown_87 : decode cX10_paysAsKnown 87 = .ok (.aload_n 1, 1) := by decide +kernel
theorem dX10_paysAsKnown_88 : decode cX10_paysAsKnown 88 = .ok (.aload_n 0, 1) := by decide +kernel
theorem dX10_paysAsKnown_89 : decode cX10_paysAsKnown 89 = .ok (.getfield 30, 3) := by decide +kernel
theorem dX10_paysAsKnown_92 : decode cX10_paysAsKnown 92 = .ok (.iload_n 2, 1) := by decide +kernel
theorem dX10_paysAsKnown_93 : decode cX10_paysAsKnown 93 = .ok (.invokevirtual 100, 3) := by decide +kernel
theorem dX10_paysAsKnown_96 : decode cX10_paysAsKnown 96 = .ok (.istore_n 3, 1) := by decide +kernel
theorem dX10_paysAsKnown_97 : decode cX10_paysAsKnown 97 = .ok (.aload_n 0, 1) := by decide +kernel
theorem dX10_paysAsKnown_98 : decode cX10_paysAsKnown 98 = .ok (.getfield 18, 3) := by decide +kernel
theorem dX10_paysAsKnown_101 : decode cX10_paysAsKnown 101 = .ok (.iload_n 2, 1) := by decide +kernel
theorem dX10_paysAsKnown_102 : decode cX10_paysAsKnown 102 = .ok (.iaload, 1) := by decide +kernel
theorem dX10_paysAsKnown_103 : decode cX10_paysAsKnown 103 = .ok (.iconst (-1), 1) := by decide +kernel
theorem dX10_paysAsKnown_104 : decode cX10_paysAsKnown 104 = .ok (.if_icmp .eq 15, 3) := by decide +kernel
theorem dX10_paysAsKnown_107 : decode cX10_paysAsKnown 107 = .ok (.iload_n 3, 1) := by decide +kernel
theorem dX10_paysAsKnown_108 : decode cX10_paysAsKnown 108 = .ok (.aload_n 0, 1) := by decide +kernel
theorem dX10_paysAsKnown_109 : decode cX10_paysAsKnown 109 = .ok (.getfield 18, 3) := by decide +kernel
theorem dX10_paysAsKnown_112 : decode cX10_paysAsKnown 112 = .ok (.iload_n 2, 1) := by decide +kernel
theorem dX10_paysAsKnown_113 : decode cX10_paysAsKnown 113 = .ok (.iaload, 1) := by decide +kernel
theorem dX10_paysAsKnown_114 : decode cX10_paysAsKnown 114 = .ok (.if_icmp .eq 5, 3) := by decide +kernel
theorem dX10_paysAsKnown_117 : decode cX10_paysAsKnown 117 = .ok (.iconst 0, 1) := by decide +kernel
theorem dX10_paysAsKnown_118 : decode cX10_paysAsKnown 118 = .ok (.ireturn, 1) := by decide +kernel
theorem dX10_paysAsKnown_119 : decode cX10_paysAsKnown 119 = .ok (.aload_n 1, 1) := by decide +kernel
theorem dX10_paysAsKnown_120 : decode cX10_paysAsKnown 120 = .ok (.getfield 94, 3) := by decide +kernel
theorem dX10_paysAsKnown_123 : decode cX10_paysAsKnown 123 = .ok (.ifCond .eq 12, 3) := by decide +kernel
theorem dX10_paysAsKnown_126 : decode cX10_paysAsKnown 126 = .ok (.aload_n 0, 1) := by decide +kernel
theorem dX10_paysAsKnown_127 : decode cX10_paysAsKnown 127 = .ok (.getfield 30, 3) := by decide +kernel
theorem dX10_paysAsKnown_130 : decode cX10_paysAsKnown 130 = .ok (.iload_n 2, 1) := by decide +kernel
theorem dX10_paysAsKnown_131 : decode cX10_paysAsKnown 131 = .ok (.iload_n 3, 1) := by decide +kernel
theorem dX10_paysAsKnown_132 : decode cX10_paysAsKnown 132 = .ok (.invokevirtual 104, 3) := by decide +kernel
theorem dX10_paysAsKnown_135 : decode cX10_paysAsKnown 135 = .ok (.iinc 2 1, 3) := by decide +kernel
theorem dX10_paysAsKnown_138 : decode cX10_paysAsKnown 138 = .ok (.goto (-96), 3) := by decide +kernel
theorem dX10_paysAsKnown_141 : decode cX10_paysAsKnown 141 = .ok (.iconst 1, 1) := by decide +kernel
theorem dX10_paysAsKnown_142 : decode cX10_paysAsKnown 142 = .ok (.ireturn, 1) := by decide +kernel
theorem dX10_note_0 : decode cX10_note 0 = .ok (.aload_n 0, 1) := by decide +kernel
theorem dX10_note_1 : decode cX10_note 1 = .ok (.dup, 1) := by decide +kernel
theorem dX10_note_2 : decode cX10_note 2 = .ok (.getfield 61, 3) := by decide +kernel
theorem dX10_note_5 : decode cX10_note 5 = .ok (.iconst 1, 1) := by decide +kernel
theorem dX10_note_6 : decode cX10_note 6 = .ok (.iadd, 1) := by decide +kernel
theorem dX10_note_7 : decode cX10_note 7 = .ok (.putfield 61, 3) := by decide +kernel
theorem dX10_note_10 : decode cX10_note 10 = .ok (.iload_n 1, 1) := by decide +kernel
theorem dX10_note_11 : decode cX10_note 11 = .ok (.ifCond .lt 9, 3) := by decide +kernel
theorem dX10_note_14 : decode cX10_note 14 = .ok (.iload_n 1, 1) := by decide +kernel
theorem dX10_note_15 : decode cX10_note 15 = .ok (.bipush 10, 2) := by decide +kernel
theorem dX10_note_17 : decode cX10_note 17 = .ok (.if_icmp .lt 4, 3) := by decide +kernel
theorem dX10_note_20 : decode cX10_note 20 = .ok (.return_, 1) := by decide +kernel
theorem dX10_note_21 : decode cX10_note 21 = .ok (.aload_n 0, 1) := by decide +kernel
theorem dX10_note_22 : decode cX10_note 22 = .ok (.aload_n 0, 1) := by decide +kernel
theorem dX10_note_23 : decode cX10_note 23 = .ok (.getfield 64, 3) := by decide +kernel
theorem dX10_note_26 : decode cX10_note 26 = .ok (.aload_n 0, 1) := by decide +kernel
theorem dX10_note_27 : decode cX10_note 27 = .ok (.getfield 24, 3) := by decide +kernel
theorem dX10_note_30 : decode cX10_note 30 = .ok (.iload_n 1, 1) := by decide +kernel
theorem dX10_note_31 : decode cX10_note 31 = .ok (.iaload, 1) := by decide +kernel
theorem dX10_note_32 : decode cX10_note 32 = .ok (.invokestatic 108, 3) := by decide +kernel
theorem dX10_note_35 : decode cX10_note 35 = .ok (.putfield 64, 3) := by decide +kernel
theorem dX10_note_38 : decode cX10_note 38 = .ok (.aload_n 0, 1) := by decide +kernel
theorem dX10_note_39 : decode cX10_note 39 = .ok (.aload_n 0, 1) := by decide +kernel
theorem dX10_note_40 : decode cX10_note 40 = .ok (.getfield 67, 3) := by decide +kernel
theorem dX10_note_43 : decode cX10_note 43 = .ok (.aload_n 0, 1) := by decide +kernel
theorem dX10_note_44 : decode cX10_note 44 = .ok (.getfield 24, 3) := by decide +kernel
theorem dX10_note_47 : decode cX10_note 47 = .ok (.iload_n 1, 1) := by decide +kernel
theorem dX10_note_48 : decode cX10_note 48 = .ok (.iaload, 1) := by decide +kernel
theorem dX10_note_49 : decode cX10_note 49 = .ok (.invokestatic 46, 3) := by decide +kernel
theorem dX10_note_52 : decode cX10_note 52 = .ok (.putfield 67, 3) := by decide +kernel
theorem dX10_note_55 : decode cX10_note 55 = .ok (.return_, 1) := by decide +kernel
theorem dX11_init_0 : decode cX11_init 0 = .ok (.aload_n 0, 1) := by decide +kernel
theorem dX11_init_1 : decode cX11_init 1 = .ok (.invokespecial 1, 3) := by decide +kernel
theorem dX11_init_4 : decode cX11_init 4 = .ok (.aload_n 0, 1) := by decide +kernel
theorem dX11_init_5 : decode cX11_init 5 = .ok (.new 7, 3) := by decide +kernel
theorem dX11_init_8 : decode cX11_init 8 = .ok (.dup, 1) := by decide +kernel
theorem dX11_init_9 : decode cX11_init 9 = .ok (.invokespecial 9, 3) := by decide +kernel
theorem dX11_init_12 : decode cX11_init 12 = .ok (.putfield 10, 3) := by decide +kernel
theorem dX11_init_15 : decode cX11_init 15 = .ok (.aload_n 0, 1) := by decide +kernel
theorem dX11_init_16 : decode cX11_init 16 = .ok (.new 16, 3) := by decide +kernel
theorem dX11_init_19 : decode cX11_init 19 = .ok (.dup, 1) := by decide +kernel
theorem dX11_init_20 : decode cX11_init 20 = .ok (.invokespecial 18, 3) := by decide +kernel
theorem dX11_init_23 : decode cX11_init 23 = .ok (.putfield 19, 3) := by decide +kernel
theorem dX11_init_26 : decode cX11_init 26 = .ok (.aload_n 0, 1) := by decide +kernel
theorem dX11_init_27 : decode cX11_init 27 = .ok (.new 23, 3) := by decide +kernel
theorem dX11_init_30 : decode cX11_init 30 = .ok (.dup, 1) := by decide +kernel
theorem dX11_init_31 : decode cX11_init 31 = .ok (.invokespecial 25, 3) := by decide +kernel
theorem dX11_init_34 : decode cX11_init 34 = .ok (.putfield 26, 3) := by decide +kernel
theorem dX11_init_37 : decode cX11_init 37 = .ok (.aload_n 0, 1) := by decide +kernel
theorem dX11_init_38 : decode cX11_init 38 = .ok (.new 30, 3) := by decide +kernel
theorem dX11_init_41 : decode cX11_init 41 = .ok (.dup, 1) := by decide +kernel
theorem dX11_init_42 : decode cX11_init 42 = .ok (.invokespecial 32, 3) := by decide +kernel
theorem dX11_init_45 : decode cX11_init 45 = .ok (.putfield 33, 3) := by decide +kernel
theorem dX11_init_48 : decode cX11_init 48 = .ok (.aload_n 0, 1) := by decide +kernel
theorem dX11_init_49 : decode cX11_init 49 = .ok (.new 37, 3) := by decide +kernel
theorem dX11_init_52 : decode cX11_init 52 = .ok (.dup, 1) := by decide +kernel
theorem dX11_init_53 : decode cX11_init 53 = .ok (.invokespecial 39, 3) := by decide +kernel
theorem dX11_init_56 : decode cX11_init 56 = .ok (.putfield 40, 3) := by decide +kernel
theorem dX11_init_59 : decode cX11_init 59 = .ok (.aload_n 0, 1) := by decide +kernel
theorem dX11_init_60 : decode cX11_init 60 = .ok (.new 44, 3) := by decide +kernel
theorem dX11_init_63 : decode cX11_init 63 = .ok (.dup, 1) := by decide +kernel
theorem dX11_init_64 : decode cX11_init 64 = .ok (.invokespecial 46, 3) := by decide +kernel
theorem dX11_init_67 : decode cX11_init 67 = .ok (.putfield 47, 3) := by decide +kernel
theorem dX11_init_70 : decode cX11_init 70 = .ok (.aload_n 0, 1) := by decide +kernel
theorem dX11_init_71 : decode cX11_init 71 = .ok (.new 51, 3) := by decide +kernel
theorem dX11_init_74 : decode cX11_init 74 = .ok (.dup, 1) := by decide +kernel
theorem dX11_init_75 : decode cX11_init 75 = .ok (.invokespecial 53, 3) := by decide +kernel
theorem dX11_init_78 : decode cX11_init 78 = .ok (.putfield 54, 3) := by decide +kernel
theorem dX11_init_81 : decode cX11_init 81 = .ok (.aload_n 0, 1) := by decide +kernel
theorem dX11_init_82 : decode cX11_init 82 = .ok (.new 58, 3) := by decide +kernel
theorem dX11_init_85 : decode cX11_init 85 = .ok (.dup, 1) := by decide +kernel
theorem dX11_init_86 : decode cX11_init 86 = .ok (.invokespecial 60, 3) := by decide +kernel
theorem dX11_init_89 : decode cX11_init 89 = .ok (.putfield 61, 3) := by decide +kernel
theorem dX11_init_92 : decode cX11_init 92 = .ok (.aload_n 0, 1) := by decide +kernel
theorem dX11_init_93 : decode cX11_init 93 = .ok (.new 65, 3) := by decide +kernel
theorem dX11_init_96 : decode cX11_init 96 = .ok (.dup, 1) := by decide +kernel
theorem dX11_init_97 : decode cX11_init 97 = .ok (.invokespecial 67, 3) := by decide +kernel
theorem dX11_init_100 : decode cX11_init 100 = .ok (.putfield 68, 3) := by decide +kernel
theorem dX11_init_103 : decode cX11_init 103 = .ok (.aload_n 0, 1) := by decide +kernel
theorem dX11_init_104 : decode cX11_init 104 = .ok (.new 65, 3) := by decide +kernel
theorem dX11_init_107 : decode cX11_init 107 = .ok (.dup, 1) := by decide +kernel
theorem dX11_init_108 : decode cX11_init 108 = .ok (.invokespecial 67, 3) := by decide +kernel
theorem dX11_init_111 : decode cX11_init 111 = .ok (.putfield 72, 3) := by decide +kernel
theorem dX11_init_114 : decode cX11_init 114 = .ok (.aload_n 0, 1) := by decide +kernel
theorem dX11_init_115 : decode cX11_init 115 = .ok (.iconst (-1), 1) := by decide +kernel
theorem dX11_init_116 : decode cX11_init 116 = .ok (.putfield 75, 3) := by decide +kernel
theorem dX11_init_119 : decode cX11_init 119 = .ok (.aload_n 0, 1) := by decide +kernel
theorem dX11_init_120 : decode cX11_init 120 = .ok (.getfield 26, 3) := by decide +kernel
theorem dX11_init_123 : decode cX11_init 123 = .ok (.aload_n 0, 1) := by decide +kernel
theorem dX11_init_124 : decode cX11_init 124 = .ok (.getfield 68, 3) := by decide +kernel
theorem dX11_init_127 : decode cX11_init 127 = .ok (.invokevirtual 79, 3) := by decide +kernel
theorem dX11_init_130 : decode cX11_init 130 = .ok (.return_, 1) := by decide +kernel
theorem dX11_feed_0 : decode cX11_feed 0 = .ok (.aload_n 0, 1) := by decide +kernel
theorem dX11_feed_1 : decode cX11_feed 1 = .ok (.getfield 10, 3) := by decide +kernel
theorem dX11_feed_4 : decode cX11_feed 4 = .ok (.getfield 83, 3) := by decide +kernel
theorem dX11_feed_7 : decode cX11_feed 7 = .ok (.bipush 20, 2) := by decide +kernel
theorem dX11_feed_9 : decode cX11_feed 9 = .ok (.iadd, 1) := by decide +kernel
theorem dX11_feed_10 : decode cX11_feed 10 = .ok (.sipush 2000, 3) := by decide +kernel
theorem dX11_feed_13 : decode cX11_feed 13 = .ok (.if_icmp .le 5, 3) := by decide +kernel
theorem dX11_feed_16 : decode cX11_feed 16 = .ok (.iconst (-1), 1) := by decide +kernel
theorem dX11_feed_17 : decode cX11_feed 17 = .ok (.ireturn, 1) := by decide +kernel
theorem dX11_feed_18 : decode cX11_feed 18 = .ok (.aload_n 0, 1) := by decide +kernel
theorem dX11_feed_19 : decode cX11_feed 19 = .ok (.getfield 10, 3) := by decide +kernel
theorem dX11_feed_22 : decode cX11_feed 22 = .ok (.iload_n 1, 1) := by decide +kernel
theorem dX11_feed_23 : decode cX11_feed 23 = .ok (.invokevirtual 86, 3) := by decide +kernel
theorem dX11_feed_26 : decode cX11_feed 26 = .ok (.aload_n 0, 1) := by decide +kernel
theorem dX11_feed_27 : decode cX11_feed 27 = .ok (.getfield 10, 3) := by decide +kernel
theorem dX11_feed_30 : decode cX11_feed 30 = .ok (.iload_n 2, 1) := by decide +kernel
theorem dX11_feed_31 : decode cX11_feed 31 = .ok (.invokevirtual 86, 3) := by decide +kernel
theorem dX11_feed_34 : decode cX11_feed 34 = .ok (.aload_n 0, 1) := by decide +kernel
theorem dX11_feed_35 : decode cX11_feed 35 = .ok (.getfield 10, 3) := by decide +kernel
theorem dX11_feed_38 : decode cX11_feed 38 = .ok (.iload_n 3, 1) := by decide +kernel
theorem dX11_feed_39 : decode cX11_feed 39 = .ok (.invokevirtual 86, 3) := by decide +kernel
theorem dX11_feed_42 : decode cX11_feed 42 = .ok (.aload_n 0, 1) := by decide +kernel
theorem dX11_feed_43 : decode cX11_feed 43 = .ok (.getfield 10, 3) := by decide +kernel
theorem dX11_feed_46 : decode cX11_feed 46 = .ok (.iload 4, 2) := by decide +kernel
theorem dX11_feed_48 : decode cX11_feed 48 = .ok (.invokevirtual 86, 3) := by decide +kernel
theorem dX11_feed_51 : decode cX11_feed 51 = .ok (.aload_n 0, 1) := by decide +kernel
theorem dX11_feed_52 : decode cX11_feed 52 = .ok (.getfield 10, 3) := by decide +kernel
theorem dX11_feed_55 : decode cX11_feed 55 = .ok (.iload 5, 2) := by decide +kernel
theorem dX11_feed_57 : decode cX11_feed 57 = .ok (.invokevirtual 86, 3) := by decide +kernel
theorem dX11_feed_60 : decode cX11_feed 60 = .ok (.aload_n 0, 1) := by decide +kernel
theorem dX11_feed_61 : decode cX11_feed 61 = .ok (.getfield 10, 3) := by decide +kernel
theorem dX11_feed_64 : decode cX11_feed 64 = .ok (.getfield 83, 3) := by decide +kernel
theorem dX11_feed_67 : decode cX11_feed 67 = .ok (.ireturn, 1) := by decide +kernel
theorem dX11_back_0 : decode cX11_back 0 = .ok (.iload_n 1, 1) := by decide +kernel
theorem dX11_back_1 : decode cX11_back 1 = .ok (.ifCond .lt 14, 3) := by decide +kernel
theorem dX11_back_4 : decode cX11_back 4 = .ok (.iload_n 1, 1) := by decide +kernel
theorem dX11_back_5 : decode cX11_back 5 = .ok (.aload_n 0, 1) := by decide +kernel
theorem dX11_back_6 : decode cX11_back 6 = .ok (.getfield 10, 3) := by decide +kernel
theorem dX11_back_9 : decode cX11_back 9 = .ok (.getfield 83, 3) := by decide +kernel
theorem dX11_back_12 : decode cX11_back 12 = .ok (.if_icmp .le 5, 3) := by decide +kernel
theorem dX11_back_15 : decode cX11_back 15 = .ok (.iconst (-1), 1) := by decide +kernel
theorem dX11_back_16 : decode cX11_back 16 = .ok (.ireturn, 1) := by decide +kernel
theorem dX11_back_17 : decode cX11_back 17 = .ok (.aload_n 0, 1) := by decide +kernel
theorem dX11_back_18 : decode cX11_back 18 = .ok (.getfield 10, 3) := by decide +kernel
theorem dX11_back_21 : decode cX11_back 21 = .ok (.dup, 1) := by decide +kernel
theorem dX11_back_22 : decode cX11_back 22 = .ok (.getfield 83, 3) := by decide +kernel
theorem dX11_back_25 : decode cX11_back 25 = .ok (.iload_n 1, 1) := by decide +kernel
theorem dX11_back_26 : decode cX11_back 26 = .ok (.isub, 1) := by decide +kernel
theorem dX11_back_27 : decode cX11_back 27 = .ok (.putfield 83, 3) := by decide +kernel
theorem dX11_back_30 : decode cX11_back 30 = .ok (.aload_n 0, 1) := by decide +kernel
theorem dX11_back_31 : decode cX11_back 31 = .ok (.getfield 10, 3) := by decide +kernel
theorem dX11_back_34 : decode cX11_back 34 = .ok (.getfield 83, 3) := by decide +kernel
theorem dX11_back_37 : decode cX11_back 37 = .ok (.ireturn, 1) := by decide +kernel
theorem dX11_read_0 : decode cX11_read 0 = .ok (.aload_n 0, 1) := by decide +kernel
theorem dX11_read_1 : decode cX11_read 1 = .ok (.getfield 19, 3) := by decide +kernel
theorem dX11_read_4 : decode cX11_read 4 = .ok (.aload_n 0, 1) := by decide +kernel
theorem dX11_read_5 : decode cX11_read 5 = .ok (.getfield 10, 3) := by decide +kernel
theorem dX11_read_8 : decode cX11_read 8 = .ok (.aload_n 0, 1) := by decide +kernel
theorem dX11_read_9 : decode cX11_read 9 = .ok (.getfield 72, 3) := by decide +kernel
theorem dX11_read_12 : decode cX11_read 12 = .ok (.invokevirtual 90, 3) := by decide +kernel
theorem dX11_read_15 : decode cX11_read 15 = .ok (.istore_n 1, 1) := by decide +kernel
theorem dX11_read_16 : decode cX11_read 16 = .ok (.aload_n 0, 1) := by decide +kernel
theorem dX11_read_17 : decode cX11_read 17 = .ok (.getfield 10, 3) := by decide +kernel
theorem dX11_read_20 : decode cX11_read 20 = .ok (.iconst 0, 1) := by decide +kernel
theorem dX11_read_21 : decode cX11_read 21 = .ok (.putfield 83, 3) := by decide +kernel
theorem dX11_read_24 : decode cX11_read 24 = .ok (.aload_n 0, 1) := by decide +kernel
theorem dX11_read_25 : decode cX11_read 25 = .ok (.aload_n 0, 1) := by decide +kernel
theorem dX11_read_26 : decode cX11_read 26 = .ok (.getfield 19, 3) := by decide +kernel
theorem dX11_read_29 : decode cX11_read 29 = .ok (.invokevirtual 94, 3) := by decide +kernel
theorem dX11_read_32 : decode cX11_read 32 = .ok (.putfield 75, 3) := by decide +kernel
theorem dX11_read_35 : decode cX11_read 35 = .ok (.iload_n 1, 1) := by decide +kernel
theorem dX11_read_36 : decode cX11_read 36 = .ok (.ifCond .ne 7, 3) := by decide +kernel
theorem dX11_read_39 : decode cX11_read 39 = .ok (.aload_n 0, 1) := by decide +kernel
theorem dX11_read_40 : decode cX11_read 40 = .ok (.invokevirtual 97, 3) := by decide +kernel
theorem dX11_read_43 : decode cX11_read 43 = .ok (.iload_n 1, 1) := by decide +kernel
theorem dX11_read_44 : decode cX11_read 44 = .ok (.ireturn, 1) := by decide +kernel
theorem dX11_goOnFromSpare_0 : decode cX11_goOnFromSpare 0 = .ok (.aload_n 0, 1) := by decide +kernel
theorem dX11_goOnFromSpare_1 : decode cX11_goOnFromSpare 1 = .ok (.getfield 68, 3) := by decide +kernel
theorem dX11_goOnFromSpare_4 : decode cX11_goOnFromSpare 4 = .ok (.astore_n 1, 1) := by decide +kernel
theorem dX11_goOnFromSpare_5 : decode cX11_goOnFromSpare 5 = .ok (.aload_n 0, 1) := by decide +kernel
theorem dX11_goOnFromSpare_6 : decode cX11_goOnFromSpare 6 = .ok (.aload_n 0, 1) := by decide +kernel
theorem dX11_goOnFromSpare_7 : decode cX11_goOnFromSpare 7 = .ok (.getfield 72, 3) := by decide +kernel
theorem dX11_goOnFromSpare_10 : decode cX11_goOnFromSpare 10 = .ok (.putfield 68, 3) := by decide +kernel
theorem dX11_goOnFromSpare_13 : decode cX11_goOnFromSpare 13 = .ok (.aload_n 0, 1) := by decide +kernel
theorem dX11_goOnFromSpare_14 : decode cX11_goOnFromSpare 14 = .ok (.aload_n 1, 1) := by decide +kernel
theorem dX11_goOnFromSpare_15 : decode cX11_goOnFromSpare 15 = .ok (.putfield 72, 3) := by decide +kernel
theorem dX11_goOnFromSpare_18 : decode cX11_goOnFromSpare 18 = .ok (.aload_n 0, 1) := by decide +kernel
theorem dX11_goOnFromSpare_19 : decode cX11_goOnFromSpare 19 = .ok (.getfield 26, 3) := by decide +kernel
theorem dX11_goOnFromSpare_22 : decode cX11_goOnFromSpare 22 = .ok (.aload_n 0, 1) := by decide +kernel
theorem dX11_goOnFromSpare_23 : decode cX11_goOnFromSpare 23 = .ok (.getfield 68, 3) := by decide +kernel
theorem dX11_goOnFromSpare_26 : decode cX11_goOnFromSpare 26 = .ok (.invokevirtual 79, 3) := by decide +kernel
theorem dX11_goOnFromSpare_29 : decode cX11_goOnFromSpare 29 = .ok (.aload_n 0, 1) := by decide +kernel
theorem dX11_goOnFromSpare_30 : decode cX11_goOnFromSpare 30 = .ok (.getfield 33, 3) := by decide +kernel
theorem dX11_goOnFromSpare_33 : decode cX11_goOnFromSpare 33 = .ok (.invokevirtual 100, 3) := by decide +kernel
theorem dX11_goOnFromSpare_36 : decode cX11_goOnFromSpare 36 = .ok (.aload_n 0, 1) := by decide +kernel
theorem dX11_goOnFromSpare_37 : decode cX11_goOnFromSpare 37 = .ok (.getfield 61, 3) := by decide +kernel
theorem dX11_goOnFromSpare_40 : decode cX11_goOnFromSpare 40 = .ok (.invokevirtual 103, 3) := by decide +kernel
theorem dX11_goOnFromSpare_43 : decode cX11_goOnFromSpare 43 = .ok (.return_, 1) := by decide +kernel
theorem dX11_place_0 : decode cX11_place 0 = .ok (.aload_n 0, 1) := by decide +kernel
theorem dX11_place_1 : decode cX11_place 1 = .ok (.getfield 75, 3) := by decide +kernel
theorem dX11_place_4 : decode cX11_place 4 = .ok (.ireturn, 1) := by decide +kernel
theorem dX11_house_0 : decode cX11_house 0 = .ok (.aload_n 0, 1) := by decide +kernel
theorem dX11_house_1 : decode cX11_house 1 = .ok (.getfield 26, 3) := by decide +kernel
theorem dX11_house_4 : decode cX11_house 4 = .ok (.iload_n 1, 1) := by decide +kernel
theorem dX11_house_5 : decode cX11_house 5 = .ok (.invokevirtual 104, 3) := by decide +kernel
theorem dX11_house_8 : decode cX11_house 8 = .ok (.ifCond .ne 5, 3) := by decide +kernel
theorem dX11_house_11 : decode cX11_house 11 = .ok (.iconst (-1), 1) := by decide +kernel
theorem dX11_house_12 : decode cX11_house 12 = .ok (.ireturn, 1) := by decide +kernel
theorem dX11_house_13 : decode cX11_house 13 = .ok (.iload_n 2, 1) := by decide +kernel
theorem dX11_house_14 : decode cX11_house 14 = .ok (.tableswitch 117 0 6 #[42, 52, 62, 71, 84, 97, 107], 42) := by decide +kernel
theorem dX11_house_56 : decode cX11_house 56 = .ok (.aload_n 0, 1) := by decide +kernel
theorem dX11_house_57 : decode cX11_house 57 = .ok (.getfield 26, 3) := by decide +kernel
theorem dX11_house_60 : decode cX11_house 60 = .ok (.getfield 108, 3) := by decide +kernel
theorem dX11_house_63 : decode cX11_house 63 = .ok (.iload_n 1, 1) := by decide +kernel
theorem dX11_house_64 : decode cX11_house 64 = .ok (.iaload, 1) := by decide +kernel
theorem dX11_house_65 : decode cX11_house 65 = .ok (.ireturn, 1) := by decide +kernel
theorem dX11_house_66 : decode cX11_house 66 = .ok (.aload_n 0, 1) := by decide +kernel
theorem dX11_house_67 : decode cX11_house 67 = .ok (.getfield 26, 3) := by decide +kernel
theorem dX11_house_70 : decode cX11_house 70 = .ok (.getfield 112, 3) := by decide +kernel
theorem dX11_house_73 : decode cX11_house 73 = .ok (.iload_n 1, 1) := by decide +kernel
theorem dX11_house_74 : decode cX11_house 74 = .ok (.iaload, 1) := by decide +kernel
theorem dX11_house_75 : decode cX11_house 75 = .ok (.ireturn, 1) := by decide +kernel
theorem dX11_house_76 : decode cX11_house 76 = .ok (.aload_n 0, 1) := by decide +kernel
theorem dX11_house_77 : decode cX11_house 77 = .ok (.getfield 26, 3) := by decide +kernel
theorem dX11_house_80 : decode cX11_house 80 = .ok (.iload_n 1, 1) := by decide +kernel
theorem dX11_house_81 : decode cX11_house 81 = .ok (.invokevirtual 115, 3) := by decide +kernel
theorem dX11_house_84 : decode cX11_house 84 = .ok (.ireturn, 1) := by decide +kernel
theorem dX11_house_85 : decode cX11_house 85 = .ok (.aload_n 0, 1) := by decide +kernel
theorem dX11_house_86 : decode cX11_house 86 = .ok (.getfield 68, 3) := by decide +kernel
theorem dX11_house_89 : decode cX11_house 89 = .ok (.aload_n 0, 1) := by decide +kernel
theorem dX11_house_90 : decode cX11_house 90 = .ok (.getfield 26, 3) := by decide +kernel
theorem dX11_house_93 : decode cX11_house 93 = .ok (.iload_n 1, 1) := by decide +kernel
theorem dX11_house_94 : decode cX11_house 94 = .ok (.invokevirtual 119, 3) := by decide +kernel
theorem dX11_house_97 : decode cX11_house 97 = .ok (.ireturn, 1) := by decide +kernel
theorem dX11_house_98 : decode cX11_house 98 = .ok (.aload_n 0, 1) := by decide +kernel
theorem dX11_house_99 : decode cX11_house 99 = .ok (.getfield 68, 3) := by decide +kernel
theorem dX11_house_102 : decode cX11_house 102 = .ok (.aload_n 0, 1) := by decide +kernel
theorem dX11_house_103 : decode cX11_house 103 = .ok (.getfield 26, 3) := by decide +kernel
theorem dX11_house_106 : decode cX11_house 106 = .ok (.iload_n 1, 1) := by decide +kernel
theorem dX11_house_107 : decode cX11_house 107 = .ok (.invokevirtual 123, 3) := by decide +kernel
theorem dX11_house_110 : decode cX11_house 110 = .ok (.ireturn, 1) := by decide +kernel
theorem dX11_house_111 : decode cX11_house 111 = .ok (.aload_n 0, 1) := by decide +kernel
theorem dX11_house_112 : decode cX11_house 112 = .ok (.getfield 26, 3) := by decide +kernel
theorem dX11_house_115 : decode cX11_house 115 = .ok (.getfield 126, 3) := by decide +kernel
theorem dX11_house_118 : decode cX11_house 118 = .ok (.iload_n 1, 1) := by decide +kernel
theorem dX11_house_119 : decode cX11_house 119 = .ok (.iaload, 1) := by decide +kernel
theorem dX11_house_120 : decode cX11_house 120 = .ok (.ireturn, 1) := by decide +kernel
theorem dX11_house_121 : decode cX11_house 121 = .ok (.aload_n 0, 1) := by decide +kernel
theorem dX11_house_122 : decode cX11_house 122 = .ok (.getfield 26, 3) := by decide +kernel
theorem dX11_house_125 : decode cX11_house 125 = .ok (.getfield 129, 3) := by decide +kernel
theorem dX11_house_128 : decode cX11_house 128 = .ok (.iload_n 1, 1) := by decide +kernel
theorem dX11_house_129 : decode cX11_house 129 = .ok (.iaload, 1) := by decide +kernel
theorem dX11_house_130 : decode cX11_house 130 = .ok (.ireturn, 1) := by decide +kernel
theorem dX11_house_131 : decode cX11_house 131 = .ok (.iconst (-1), 1) := by decide +kernel
theorem dX11_house_132 : decode cX11_house 132 = .ok (.ireturn, 1) := by decide +kernel
theorem dX11_run_0 : decode cX11_run 0 = .ok (.iload_n 1, 1) := by decide +kernel
theorem dX11_run_1 : decode cX11_run 1 = .ok (.invokestatic 132, 3) := by decide +kernel
theorem dX11_run_4 : decode cX11_run 4 = .ok (.ifCond .ne 5, 3) := by decide +kernel
theorem dX11_run_7 : decode cX11_run 7 = .ok (.iconst (-1), 1) := by decide +kernel
theorem dX11_run_8 : decode cX11_run 8 = .ok (.ireturn, 1) := by decide +kernel
theorem dX11_run_9 : decode cX11_run 9 = .ok (.iload_n 1, 1) := by decide +kernel
theorem dX11_run_10 : decode cX11_run 10 = .ok (.ifCond .le 33, 3) := by decide +kernel
theorem dX11_run_13 : decode cX11_run 13 = .ok (.aload_n 0, 1) := by decide +kernel
theorem dX11_run_14 : decode cX11_run 14 = .ok (.getfield 33, 3) := by decide +kernel
theorem dX11_run_17 : decode cX11_run 17 = .ok (.aload_n 0, 1) := by decide +kernel
theorem dX11_run_18 : decode cX11_run 18 = .ok (.getfield 26, 3) := by decide +kernel
theorem dX11_run_21 : decode cX11_run 21 = .ok (.invokevirtual 135, 3) := by decide +kernel
theorem dX11_run_24 : decode cX11_run 24 = .ok (.aload_n 0, 1) := by decide +kernel
theorem dX11_run_25 : decode cX11_run 25 = .ok (.getfield 68, 3) := by decide +kernel
theorem dX11_run_28 : decode cX11_run 28 = .ok (.aload_n 0, 1) := by decide +kernel
theorem dX11_run_29 : decode cX11_run 29 = .ok (.getfield 26, 3) := by decide +kernel
theorem dX11_run_32 : decode cX11_run 32 = .ok (.iload_n 1, 1) := by decide +kernel
theorem dX11_run_33 : decode cX11_run 33 = .ok (.aload_n 0, 1) := by decide +kernel
theorem dX11_run_34 : decode cX11_run 34 = .ok (.getfield 68, 3) := by decide +kernel
theorem dX11_run_37 : decode cX11_run 37 = .ok (.getfield 139, 3) := by decide +kernel
theorem dX11_run_40 : decode cX11_run 40 = .ok (.invokevirtual 142, 3) := by decide +kernel
theorem dX11_run_43 : decode cX11_run 43 = .ok (.aload_n 0, 1) := by decide +kernel
theorem dX11_run_44 : decode cX11_run 44 = .ok (.getfield 26, 3) := by decide +kernel
theorem dX11_run_47 : decode cX11_run 47 = .ok (.getfield 146, 3) := by decide +kernel
theorem dX11_run_50 : decode cX11_run 50 = .ok (.ireturn, 1) := by decide +kernel
theorem dX11_give_0 : decode cX11_give 0 = .ok (.aload_n 0, 1) := by decide +kernel
theorem dX11_give_1 : decode cX11_give 1 = .ok (.getfield 26, 3) := by decide +kernel
theorem dX11_give_4 : decode cX11_give 4 = .ok (.iload_n 1, 1) := by decide +kernel
theorem dX11_give_5 : decode cX11_give 5 = .ok (.invokevirtual 104, 3) := by decide +kernel
theorem dX11_give_8 : decode cX11_give 8 = .ok (.ifCond .eq 19, 3) := by decide +kernel
theorem dX11_give_11 : decode cX11_give 11 = .ok (.aload_n 0, 1) := by decide +kernel
theorem dX11_give_12 : decode cX11_give 12 = .ok (.getfield 26, 3) := by decide +kernel
theorem dX11_give_15 : decode cX11_give 15 = .ok (.iload_n 2, 1) := by decide +kernel
theorem dX11_give_16 : decode cX11_give 16 = .ok (.invokevirtual 104, 3) := by decide +kernel
theorem dX11_give_19 : decode cX11_give 19 = .ok (.ifCond .eq 8, 3) := by decide +kernel
theorem dX11_give_22 : decode cX11_give 22 = .ok (.iload_n 1, 1) := by decide +kernel
theorem dX11_give_23 : decode cX11_give 23 = .ok (.iload_n 2, 1) := by decide +kernel
theorem dX11_give_24 : decode cX11_give 24 = .ok (.if_icmp .ne 5, 3) := by decide +kernel
theorem dX11_give_27 : decode cX11_give 27 = .ok (.iconst 0, 1) := by decide +kernel
theorem dX11_give_28 : decode cX11_give 28 = .ok (.ireturn, 1) := by decide +kernel
theorem dX11_give_29 : decode cX11_give 29 = .ok (.iload_n 3, 1) := by decide +kernel
theorem dX11_give_30 : decode cX11_give 30 = .ok (.ifCond .lt 15, 3) := by decide +kernel
theorem dX11_give_33 : decode cX11_give 33 = .ok (.iload_n 3, 1) := by decide +kernel
theorem dX11_give_34 : decode cX11_give 34 = .ok (.aload_n 0, 1) := by decide +kernel
theorem dX11_give_35 : decode cX11_give 35 = .ok (.getfield 26, 3) := by decide +kernel
theorem dX11_give_38 : decode cX11_give 38 = .ok (.iload_n 1, 1) := by decide +kernel
theorem dX11_give_39 : decode cX11_give 39 = .ok (.invokevirtual 115, 3) := by decide +kernel
theorem dX11_give_42 : decode cX11_give 42 = .ok (.if_icmp .le 5, 3) := by decide +kernel
theorem dX11_give_45 : decode cX11_give 45 = .ok (.iconst 0, 1) := by decide +kernel
theorem dX11_give_46 : decode cX11_give 46 = .ok (.ireturn, 1) := by decide +kernel
theorem dX11_give_47 : decode cX11_give 47 = .ok (.aload_n 0, 1) := by decide +kernel
theorem dX11_give_48 : decode cX11_give 48 = .ok (.getfield 33, 3) := by decide +kernel
theorem dX11_give_51 : decode cX11_give 51 = .ok (.aload_n 0, 1) := by decide +kernel
theorem dX11_give_52 : decode cX11_give 52 = .ok (.getfield 26, 3) := by decide +kernel
theorem dX11_give_55 : decode cX11_give 55 = .ok (.invokevirtual 135, 3) := by decide +kernel
theorem dX11_give_58 : decode cX11_give 58 = .ok (.aload_n 0, 1) := by decide +kernel
theorem dX11_give_59 : decode cX11_give 59 = .ok (.getfield 26, 3) := by decide +kernel
theorem dX11_give_62 : decode cX11_give 62 = .ok (.iload_n 1, 1) := by decide +kernel
theorem dX11_give_63 : decode cX11_give 63 = .ok (.iload_n 2, 1) := by decide +kernel
theorem dX11_give_64 : decode cX11_give 64 = .ok (.iload_n 3, 1) := by decide +kernel
theorem dX11_give_65 : decode cX11_give 65 = .ok (.invokevirtual 149, 3) := by decide +kernel
theorem dX11_give_68 : decode cX11_give 68 = .ok (.iconst 1, 1) := by decide +kernel
theorem dX11_give_69 : decode cX11_give 69 = .ok (.ireturn, 1) := by decide +kernel
theorem dX11_hide_0 : decode cX11_hide 0 = .ok (.aload_n 0, 1) := by decide +kernel
theorem dX11_hide_1 : decode cX11_hide 1 = .ok (.getfield 26, 3) := by decide +kernel
theorem dX11_hide_4 : decode cX11_hide 4 = .ok (.iload_n 1, 1) := by decide +kernel
theorem dX11_hide_5 : decode cX11_hide 5 = .ok (.invokevirtual 104, 3) := by decide +kernel
theorem dX11_hide_8 : decode cX11_hide 8 = .ok (.ifCond .eq 20, 3) := by decide +kernel
theorem dX11_hide_11 : decode cX11_hide 11 = .ok (.iload_n 2, 1) := by decide +kernel
theorem dX11_hide_12 : decode cX11_hide 12 = .ok (.ifCond .lt 16, 3) := by decide +kernel
theorem dX11_hide_15 : decode cX11_hide 15 = .ok (.iload_n 2, 1) := by decide +kernel
theorem dX11_hide_16 : decode cX11_hide 16 = .ok (.aload_n 0, 1) := by decide +kernel
theorem dX11_hide_17 : decode cX11_hide 17 = .ok (.getfield 26, 3) := by decide +kernel
theorem dX11_hide_20 : decode cX11_hide 20 = .ok (.getfield 108, 3) := by decide +kernel
theorem dX11_hide_23 : decode cX11_hide 23 = .ok (.iload_n 1, 1) := by decide +kernel
theorem dX11_hide_24 : decode cX11_hide 24 = .ok (.iaload, 1) := by decide +kernel
theorem dX11_hide_25 : decode cX11_hide 25 = .ok (.if_icmp .le 5, 3) := by decide +kernel
theorem dX11_hide_28 : decode cX11_hide 28 = .ok (.iconst 0, 1) := by decide +kernel
theorem dX11_hide_29 : decode cX11_hide 29 = .ok (.ireturn, 1) := by decide +kernel
theorem dX11_hide_30 : decode cX11_hide 30 = .ok (.aload_n 0, 1) := by decide +kernel
theorem dX11_hide_31 : decode cX11_hide 31 = .ok (.getfield 33, 3) := by decide +kernel
theorem dX11_hide_34 : decode cX11_hide 34 = .ok (.aload_n 0, 1) := by decide +kernel
theorem dX11_hide_35 : decode cX11_hide 35 = .ok (.getfield 26, 3) := by decide +kernel
theorem dX11_hide_38 : decode cX11_hide 38 = .ok (.invokevirtual 135, 3) := by decide +kernel
theorem dX11_hide_41 : decode cX11_hide 41 = .ok (.aload_n 0, 1) := by decide +kernel
theorem dX11_hide_42 : decode cX11_hide 42 = .ok (.getfield 26, 3) := by decide +kernel
theorem dX11_hide_45 : decode cX11_hide 45 = .ok (.getfield 112, 3) := by decide +kernel
theorem dX11_hide_48 : decode cX11_hide 48 = .ok (.iload_n 1, 1) := by decide +kernel
theorem dX11_hide_49 : decode cX11_hide 49 = .ok (.iload_n 2, 1) := by decide +kernel
theorem dX11_hide_50 : decode cX11_hide 50 = .ok (.iastore, 1) := by decide +kernel
theorem dX11_hide_51 : decode cX11_hide 51 = .ok (.iconst 1, 1) := by decide +kernel
theorem dX11_hide_52 : decode cX11_hide 52 = .ok (.ireturn, 1) := by decide +kernel
theorem dX11_grab_0 : decode cX11_grab 0 = .ok (.aload_n 0, 1) := by decide +kernel
theorem dX11_grab_1 : decode cX11_grab 1 = .ok (.getfield 26, 3) := by decide +kernel
theorem dX11_grab_4 : decode cX11_grab 4 = .ok (.iload_n 1, 1) := by decide +kernel
theorem dX11_grab_5 : decode cX11_grab 5 = .ok (.invokevirtual 104, 3) := by decide +kernel
theorem dX11_grab_8 : decode cX11_grab 8 = .ok (.ifCond .ne 5, 3) := by decide +kernel
theorem dX11_grab_11 : decode cX11_grab 11 = .ok (.iconst (-1), 1) := by decide +kernel
theorem dX11_grab_12 : decode cX11_grab 12 = .ok (.ireturn, 1) := by decide +kernel
theorem dX11_grab_13 : decode cX11_grab 13 = .ok (.aload_n 0, 1) := by decide +kernel
theorem dX11_grab_14 : decode cX11_grab 14 = .ok (.getfield 33, 3) := by decide +kernel
theorem dX11_grab_17 : decode cX11_grab 17 = .ok (.aload_n 0, 1) := by decide +kernel
theorem dX11_grab_18 : decode cX11_grab 18 = .ok (.getfield 26, 3) := by decide +kernel
theorem dX11_grab_21 : decode cX11_grab 21 = .ok (.invokevirtual 135, 3) := by decide +kernel
theorem dX11_grab_24 : decode cX11_grab 24 = .ok (.aload_n 0, 1) := by decide +kernel
theorem dX11_grab_25 : decode cX11_grab 25 = .ok (.getfield 26, 3) := by decide +kernel
theorem dX11_grab_28 : decode cX11_grab 28 = .ok (.getfield 153, 3) := by decide +kernel
theorem dX11_grab_31 : decode cX11_grab 31 = .ok (.istore_n 2, 1) := by decide +kernel
theorem dX11_grab_32 : decode cX11_grab 32 = .ok (.aload_n 0, 1) := by decide +kernel
theorem dX11_grab_33 : decode cX11_grab 33 = .ok (.getfield 26, 3) := by decide +kernel
theorem dX11_grab_36 : decode cX11_grab 36 = .ok (.getfield 108, 3) := by decide +kernel
theorem dX11_grab_39 : decode cX11_grab 39 = .ok (.iload_n 1, 1) := by decide +kernel
theorem dX11_grab_40 : decode cX11_grab 40 = .ok (.dup2, 1) := by decide +kernel
theorem dX11_grab_41 : decode cX11_grab 41 = .ok (.iaload, 1) := by decide +kernel
theorem dX11_grab_42 : decode cX11_grab 42 = .ok (.iload_n 2, 1) := by decide +kernel
theorem dX11_grab_43 : decode cX11_grab 43 = .ok (.iadd, 1) := by decide +kernel
theorem dX11_grab_44 : decode cX11_grab 44 = .ok (.iastore, 1) := by decide +kernel
theorem dX11_grab_45 : decode cX11_grab 45 = .ok (.aload_n 0, 1) := by decide +kernel
theorem dX11_grab_46 : decode cX11_grab 46 = .ok (.getfield 26, 3) := by decide +kernel
theorem dX11_grab_49 : decode cX11_grab 49 = .ok (.iconst 0, 1) := by decide +kernel
theorem dX11_grab_50 : decode cX11_grab 50 = .ok (.putfield 153, 3) := by decide +kernel
theorem dX11_grab_53 : decode cX11_grab 53 = .ok (.iload_n 2, 1) := by decide +kernel
theorem dX11_grab_54 : decode cX11_grab 54 = .ok (.ireturn, 1) := by decide +kernel
theorem dX11_build_0 : decode cX11_build 0 = .ok (.iload_n 1, 1) := by decide +kernel
theorem dX11_build_1 : decode cX11_build 1 = .ok (.ifCond .lt 31, 3) := by decide +kernel
theorem dX11_build_4 : decode cX11_build 4 = .ok (.iload_n 1, 1) := by decide +kernel
theorem dX11_build_5 : decode cX11_build 5 = .ok (.aload_n 0, 1) := by decide +kernel
theorem dX11_build_6 : decode cX11_build 6 = .ok (.getfield 26, 3) := by decide +kernel
theorem dX11_build_9 : decode cX11_build 9 = .ok (.getfield 156, 3) := by decide +kernel
theorem dX11_build_12 : decode cX11_build 12 = .ok (.if_icmp .gt 20, 3) := by decide +kernel
theorem dX11_build_15 : decode cX11_build 15 = .ok (.aload_n 0, 1) := by decide +kernel
theorem dX11_build_16 : decode cX11_build 16 = .ok (.getfield 26, 3) := by decide +kernel
theorem dX11_build_19 : decode cX11_build 19 = .ok (.invokevirtual 159, 3) := by decide +kernel
theorem dX11_build_22 : decode cX11_build 22 = .ok (.ifCond .ne 10, 3) := by decide +kernel
theorem dX11_build_25 : decode cX11_build 25 = .ok (.iload_n 2, 1) := by decide +kernel
theorem dX11_build_26 : decode cX11_build 26 = .ok (.invokestatic 163, 3) := by decide +kernel
theorem dX11_build_29 : decode cX11_build 29 = .ok (.ifCond .ne 5, 3) := by decide +kernel
theorem dX11_build_32 : decode cX11_build 32 = .ok (.iconst (-1), 1) := by decide +kernel
theorem dX11_build_33 : decode cX11_build 33 = .ok (.ireturn, 1) := by decide +kernel
theorem dX11_build_34 : decode cX11_build 34 = .ok (.aload_n 0, 1) := by decide +kernel
theorem dX11_build_35 : decode cX11_build 35 = .ok (.getfield 33, 3) := by decide +kernel
theorem dX11_build_38 : decode cX11_build 38 = .ok (.aload_n 0, 1) := by decide +kernel
theorem dX11_build_39 : decode cX11_build 39 = .ok (.getfield 26, 3) := by decide +kernel
theorem dX11_build_42 : decode cX11_build 42 = .ok (.invokevirtual 135, 3) := by decide +kernel
theorem dX11_build_45 : decode cX11_build 45 = .ok (.aload_n 0, 1) := by decide +kernel
theorem dX11_build_46 : decode cX11_build 46 = .ok (.getfield 26, 3) := by decide +kernel
theorem dX11_build_49 : decode cX11_build 49 = .ok (.iload_n 1, 1) := by decide +kernel
theorem dX11_build_50 : decode cX11_build 50 = .ok (.iload_n 2, 1) := by decide +kernel
theorem dX11_build_51 : decode cX11_build 51 = .ok (.invokevirtual 166, 3) := by decide +kernel
theorem dX11_build_54 : decode cX11_build 54 = .ok (.aload_n 0, 1) := by decide +kernel
theorem dX11_build_55 : decode cX11_build 55 = .ok (.getfield 26, 3) := by decide +kernel
theorem dX11_build_58 : decode cX11_build 58 = .ok (.getfield 156, 3) := by decide +kernel
theorem dX11_build_61 : decode cX11_build 61 = .ok (.ireturn, 1) := by decide +kernel
theorem dX11_burn_0 : decode cX11_burn 0 = .ok (.aload_n 0, 1) := by decide +kernel
theorem dX11_burn_1 : decode cX11_burn 1 = .ok (.getfield 26, 3) := by decide +kernel
theorem dX11_burn_4 : decode cX11_burn 4 = .ok (.iload_n 1, 1) := by decide +kernel
theorem dX11_burn_5 : decode cX11_burn 5 = .ok (.invokevirtual 104, 3) := by decide +kernel
theorem dX11_burn_8 : decode cX11_burn 8 = .ok (.ifCond .ne 5, 3) := by decide +kernel
theorem dX11_burn_11 : decode cX11_burn 11 = .ok (.iconst (-1), 1) := by decide +kernel
theorem dX11_burn_12 : decode cX11_burn 12 = .ok (.ireturn, 1) := by decide +kernel
theorem dX11_burn_13 : decode cX11_burn 13 = .ok (.aload_n 0, 1) := by decide +kernel
theorem dX11_burn_14 : decode cX11_burn 14 = .ok (.getfield 33, 3) := by decide +kernel
theorem dX11_burn_17 : decode cX11_burn 17 = .ok (.aload_n 0, 1) := by decide +kernel
theorem dX11_burn_18 : decode cX11_burn 18 = .ok (.getfield 26, 3) := by decide +kernel
theorem dX11_burn_21 : decode cX11_burn 21 = .ok (.invokevirtual 135, 3) := by decide +kernel
theorem dX11_burn_24 : decode cX11_burn 24 = .ok (.aload_n 0, 1) := by decide +kernel
theorem dX11_burn_25 : decode cX11_burn 25 = .ok (.getfield 26, 3) := by decide +kernel
theorem dX11_burn_28 : decode cX11_burn 28 = .ok (.getfield 108, 3) := by decide +kernel
theorem dX11_burn_31 : decode cX11_burn 31 = .ok (.iload_n 1, 1) := by decide +kernel
theorem dX11_burn_32 : decode cX11_burn 32 = .ok (.iaload, 1) := by decide +kernel
theorem dX11_burn_33 : decode cX11_burn 33 = .ok (.istore_n 2, 1) := by decide +kernel
theorem dX11_burn_34 : decode cX11_burn 34 = .ok (.aload_n 0, 1) := by decide +kernel
theorem dX11_burn_35 : decode cX11_burn 35 = .ok (.getfield 26, 3) := by decide +kernel
theorem dX11_burn_38 : decode cX11_burn 38 = .ok (.iload_n 1, 1) := by decide +kernel
theorem dX11_burn_39 : decode cX11_burn 39 = .ok (.invokevirtual 170, 3) := by decide +kernel
theorem dX11_burn_42 : decode cX11_burn 42 = .ok (.iload_n 2, 1) := by decide +kernel
theorem dX11_burn_43 : decode cX11_burn 43 = .ok (.ireturn, 1) := by decide +kernel
theorem dX11_join_0 : decode cX11_join 0 = .ok (.aload_n 0, 1) := by decide +kernel
theorem dX11_join_1 : decode cX11_join 1 = .ok (.getfield 26, 3) := by decide +kernel
theorem dX11_join_4 : decode cX11_join 4 = .ok (.iload_n 1, 1) := by decide +kernel
theorem dX11_join_5 : decode cX11_join 5 = .ok (.invokevirtual 104, 3) := by decide +kernel
theorem dX11_join_8 : decode cX11_join 8 = .ok (.ifCond .eq 14, 3) := by decide +kernel
theorem dX11_join_11 : decode cX11_join 11 = .ok (.aload_n 0, 1) := by decide +kernel
theorem dX11_join_12 : decode cX11_join 12 = .ok (.getfield 26, 3) := by decide +kernel
theorem dX11_join_15 : decode cX11_join 15 = .ok (.getfield 156, 3) := by decide +kernel
theorem dX11_join_18 : decode cX11_join 18 = .ok (.iconst 2, 1) := by decide +kernel
theorem dX11_join_19 : decode cX11_join 19 = .ok (.if_icmp .ge 5, 3) := by decide +kernel
theorem dX11_join_22 : decode cX11_join 22 = .ok (.iconst (-1), 1) := by decide +kernel
theorem dX11_join_23 : decode cX11_join 23 = .ok (.ireturn, 1) := by decide +kernel
theorem dX11_join_24 : decode cX11_join 24 = .ok (.iload_n 1, 1) := by decide +kernel
theorem dX11_join_25 : decode cX11_join 25 = .ok (.aload_n 0, 1) := by decide +kernel
theorem dX11_join_26 : decode cX11_join 26 = .ok (.getfield 26, 3) := by decide +kernel
theorem dX11_join_29 : decode cX11_join 29 = .ok (.getfield 156, 3) := by decide +kernel
theorem dX11_join_32 : decode cX11_join 32 = .ok (.iconst 1, 1) := by decide +kernel
theorem dX11_join_33 : decode cX11_join 33 = .ok (.isub, 1) := by decide +kernel
theorem dX11_join_34 : decode cX11_join 34 = .ok (.if_icmp .ne 7, 3) := by decide +kernel
theorem dX11_join_37 : decode cX11_join 37 = .ok (.iconst 1, 1) := by decide +kernel
theorem dX11_join_38 : decode cX11_join 38 = .ok (.goto 4, 3) := by decide +kernel
theorem dX11_join_41 : decode cX11_join 41 = .ok (.iconst 0, 1) := by decide +kernel
theorem dX11_join_42 : decode cX11_join 42 = .ok (.istore_n 2, 1) := by decide +kernel
theorem dX11_join_43 : decode cX11_join 43 = .ok (.iload_n 2, 1) := by decide +kernel
theorem dX11_join_44 : decode cX11_join 44 = .ok (.ifCond .eq 15, 3) := by decide +kernel
theorem dX11_join_47 : decode cX11_join 47 = .ok (.aload_n 0, 1) := by decide +kernel
theorem dX11_join_48 : decode cX11_join 48 = .ok (.getfield 68, 3) := by decide +kernel
theorem dX11_join_51 : decode cX11_join 51 = .ok (.getfield 173, 3) := by decide +kernel
theorem dX11_join_54 : decode cX11_join 54 = .ok (.ifCond .eq 5, 3) := by decide +kernel
theorem dX11_join_57 : decode cX11_join 57 = .ok (.iconst (-1), 1) := by decide +kernel
theorem dX11_join_58 : decode cX11_join 58 = .ok (.ireturn, 1) := by decide +kernel
theorem dX11_join_59 : decode cX11_join 59 = .ok (.aload_n 0, 1) := by decide +kernel
theorem dX11_join_60 : decode cX11_join 60 = .ok (.getfield 33, 3) := by decide +kernel
theorem dX11_join_63 : decode cX11_join 63 = .ok (.aload_n 0, 1) := by decide +kernel
theorem dX11_join_64 : decode cX11_join 64 = .ok (.getfield 26, 3) := by decide +kernel
theorem dX11_join_67 : decode cX11_join 67 = .ok (.invokevirtual 135, 3) := by decide +kernel
theorem dX11_join_70 : decode cX11_join 70 = .ok (.iload_n 2, 1) := by decide +kernel
theorem dX11_join_71 : decode cX11_join 71 = .ok (.ifCond .eq 7, 3) := by decide +kernel
theorem dX11_join_74 : decode cX11_join 74 = .ok (.iconst 0, 1) := by decide +kernel
theorem dX11_join_75 : decode cX11_join 75 = .ok (.goto 4, 3) := by decide +kernel
theorem dX11_join_78 : decode cX11_join 78 = .ok (.iload_n 1, 1) := by decide +kernel
theorem dX11_join_79 : decode cX11_join 79 = .ok (.istore_n 3, 1) := by decide +kernel
theorem dX11_join_80 : decode cX11_join 80 = .ok (.aload_n 0, 1) := by decide +kernel
theorem dX11_join_81 : decode cX11_join 81 = .ok (.getfield 26, 3) := by decide +kernel
theorem dX11_join_84 : decode cX11_join 84 = .ok (.iload_n 3, 1) := by decide +kernel
theorem dX11_join_85 : decode cX11_join 85 = .ok (.iload_n 2, 1) := by decide +kernel
theorem dX11_join_86 : decode cX11_join 86 = .ok (.ifCond .eq 7, 3) := by decide +kernel
theorem dX11_join_89 : decode cX11_join 89 = .ok (.iload_n 1, 1) := by decide +kernel
theorem dX11_join_90 : decode cX11_join 90 = .ok (.goto 6, 3) := by decide +kernel
theorem dX11_join_93 : decode cX11_join 93 = .ok (.iload_n 1, 1) := by decide +kernel
theorem dX11_join_94 : decode cX11_join 94 = .ok (.iconst 1, 1) := by decide +kernel
theorem dX11_join_95 : decode cX11_join 95 = .ok (.iadd, 1) := by decide +kernel
theorem dX11_join_96 : decode cX11_join 96 = .ok (.invokevirtual 177, 3) := by decide +kernel
theorem dX11_join_99 : decode cX11_join 99 = .ok (.aload_n 0, 1) := by decide +kernel
theorem dX11_join_100 : decode cX11_join 100 = .ok (.getfield 26, 3) := by decide +kernel
theorem dX11_join_103 : decode cX11_join 103 = .ok (.iload_n 3, 1) := by decide +kernel
theorem dX11_join_104 : decode cX11_join 104 = .ok (.invokevirtual 180, 3) := by decide +kernel
theorem dX11_join_107 : decode cX11_join 107 = .ok (.ireturn, 1) := by decide +kernel
theorem dX11_undo_0 : decode cX11_undo 0 = .ok (.aload_n 0, 1) := by decide +kernel
theorem dX11_undo_1 : decode cX11_undo 1 = .ok (.getfield 33, 3) := by decide +kernel
theorem dX11_undo_4 : decode cX11_undo 4 = .ok (.aload_n 0, 1) := by decide +kernel
theorem dX11_undo_5 : decode cX11_undo 5 = .ok (.getfield 26, 3) := by decide +kernel
theorem dX11_undo_8 : decode cX11_undo 8 = .ok (.invokevirtual 183, 3) := by decide +kernel
theorem dX11_undo_11 : decode cX11_undo 11 = .ok (.ireturn, 1) := by decide +kernel
theorem dX11_becomes_0 : decode cX11_becomes 0 = .ok (.iload_n 1, 1) := by decide +kernel
theorem dX11_becomes_1 : decode cX11_becomes 1 = .ok (.ifCond .eq 10, 3) := by decide +kernel
theorem dX11_becomes_4 : decode cX11_becomes 4 = .ok (.iload_n 1, 1) := by decide +kernel
theorem dX11_becomes_5 : decode cX11_becomes 5 = .ok (.iconst 1, 1) := by decide +kernel
theorem dX11_becomes_6 : decode cX11_becomes 6 = .ok (.if_icmp .eq 5, 3) := by decide +kernel
theorem dX11_becomes_9 : decode cX11_becomes 9 = .ok (.iconst (-1), 1) := by decide +kernel
theorem dX11_becomes_10 : decode cX11_becomes 10 = .ok (.ireturn, 1) := by decide +kernel
theorem dX11_becomes_11 : decode cX11_becomes 11 = .ok (.aload_n 0, 1) := by decide +kernel
theorem dX11_becomes_12 : decode cX11_becomes 12 = .ok (.getfield 40, 3) := by decide +kernel
theorem dX11_becomes_15 : decode cX11_becomes 15 = .ok (.aload_n 0, 1) := by decide +kernel
theorem dX11_becomes_16 : decode cX11_becomes 16 = .ok (.getfield 68, 3) := by decide +kernel
theorem dX11_becomes_19 : decode cX11_becomes 19 = .ok (.aload_n 0, 1) := by decide +kernel
theorem dX11_becomes_20 : decode cX11_becomes 20 = .ok (.getfield 26, 3) := by decide +kernel
theorem dX11_becomes_23 : decode cX11_becomes 23 = .ok (.iload_n 1, 1) := by decide +kernel
theorem dX11_becomes_24 : decode cX11_becomes 24 = .ok (.ifCond .ne 7, 3) := by decide +kernel
theorem dX11_becomes_27 : decode cX11_becomes 27 = .ok (.iconst 1, 1) := by decide +kernel
theorem dX11_becomes_28 : decode cX11_becomes 28 = .ok (.goto 4, 3) := by decide +kernel
theorem dX11_becomes_31 : decode cX11_becomes 31 = .ok (.iconst 0, 1) := by decide +kernel
theorem dX11_becomes_32 : decode cX11_becomes 32 = .ok (.invokevirtual 187, 3) := by decide +kernel
theorem dX11_becomes_35 : decode cX11_becomes 35 = .ok (.ireturn, 1) := by decide +kernel
theorem dX11_apart_0 : decode cX11_apart 0 = .ok (.iload_n 1, 1) := by decide +kernel
theorem dX11_apart_1 : decode cX11_apart 1 = .ok (.invokestatic 132, 3) := by decide +kernel
theorem dX11_apart_4 : decode cX11_apart 4 = .ok (.ifCond .ne 5, 3) := by decide +kernel
theorem dX11_apart_7 : decode cX11_apart 7 = .ok (.iconst (-1), 1) := by decide +kernel
theorem dX11_apart_8 : decode cX11_apart 8 = .ok (.ireturn, 1) := by decide +kernel
theorem dX11_apart_9 : decode cX11_apart 9 = .ok (.aload_n 0, 1) := by decide +kernel
theorem dX11_apart_10 : decode cX11_apart 10 = .ok (.getfield 40, 3) := by decide +kernel
theorem dX11_apart_13 : decode cX11_apart 13 = .ok (.aload_n 0, 1) := by decide +kernel
theorem dX11_apart_14 : decode cX11_apart 14 = .ok (.getfield 68, 3) := by decide +kernel
theorem dX11_apart_17 : decode cX11_apart 17 = .ok (.aload_n 0, 1) := by decide +kernel
theorem dX11_apart_18 : decode cX11_apart 18 = .ok (.getfield 26, 3) := by decide +kernel
theorem dX11_apart_21 : decode cX11_apart 21 = .ok (.iload_n 1, 1) := by decide +kernel
theorem dX11_apart_22 : decode cX11_apart 22 = .ok (.invokevirtual 191, 3) := by decide +kernel
theorem dX11_apart_25 : decode cX11_apart 25 = .ok (.ireturn, 1) := by decide +kernel
theorem dX11_even_0 : decode cX11_even 0 = .ok (.iload_n 1, 1) := by decide +kernel
theorem dX11_even_1 : decode cX11_even 1 = .ok (.ifCond .lt 12, 3) := by decide +kernel
theorem dX11_even_4 : decode cX11_even 4 = .ok (.iload_n 2, 1) := by decide +kernel
theorem dX11_even_5 : decode cX11_even 5 = .ok (.ifCond .lt 8, 3) := by decide +kernel
theorem dX11_even_8 : decode cX11_even 8 = .ok (.iload_n 2, 1) := by decide +kernel
theorem dX11_even_9 : decode cX11_even 9 = .ok (.iconst 2, 1) := by decide +kernel
theorem dX11_even_10 : decode cX11_even 10 = .ok (.if_icmp .le 5, 3) := by decide +kernel
theorem dX11_even_13 : decode cX11_even 13 = .ok (.iconst (-1), 1) := by decide +kernel
theorem dX11_even_14 : decode cX11_even 14 = .ok (.ireturn, 1) := by decide +kernel
theorem dX11_even_15 : decode cX11_even 15 = .ok (.aload_n 0, 1) := by decide +kernel
theorem dX11_even_16 : decode cX11_even 16 = .ok (.getfield 40, 3) := by decide +kernel
theorem dX11_even_19 : decode cX11_even 19 = .ok (.aload_n 0, 1) := by decide +kernel
theorem dX11_even_20 : decode cX11_even 20 = .ok (.getfield 68, 3) := by decide +kernel
theorem dX11_even_23 : decode cX11_even 23 = .ok (.aload_n 0, 1) := by decide +kernel
theorem dX11_even_24 : decode cX11_even 24 = .ok (.getfield 26, 3) := by decide +kernel
theorem dX11_even_27 : decode cX11_even 27 = .ok (.iload_n 1, 1) := by decide +kernel
theorem dX11_even_28 : decode cX11_even 28 = .ok (.iload_n 2, 1) := by decide +kernel
theorem dX11_even_29 : decode cX11_even 29 = .ok (.invokevirtual 195, 3) := by decide +kernel
theorem dX11_even_32 : decode cX11_even 32 = .ok (.ireturn, 1) := by decide +kernel
theorem dX11_soonest_0 : decode cX11_soonest 0 = .ok (.iload_n 1, 1) := by decide +kernel
theorem dX11_soonest_1 : decode cX11_soonest 1 = .ok (.ifCond .ge 5, 3) := by decide +kernel
theorem dX11_soonest_4 : decode cX11_soonest 4 = .ok (.iconst (-1), 1) := by decide +kernel
theorem dX11_soonest_5 : decode cX11_soonest 5 = .ok (.ireturn, 1) := by decide +kernel
theorem dX11_soonest_6 : decode cX11_soonest 6 = .ok (.aload_n 0, 1) := by decide +kernel
theorem dX11_soonest_7 : decode cX11_soonest 7 = .ok (.getfield 40, 3) := by decide +kernel
theorem dX11_soonest_10 : decode cX11_soonest 10 = .ok (.aload_n 0, 1) := by decide +kernel
theorem dX11_soonest_11 : decode cX11_soonest 11 = .ok (.getfield 68, 3) := by decide +kernel
theorem dX11_soonest_14 : decode cX11_soonest 14 = .ok (.aload_n 0, 1) := by decide +kernel
theorem dX11_soonest_15 : decode cX11_soonest 15 = .ok (.getfield 26, 3) := by decide +kernel
theorem dX11_soonest_18 : decode cX11_soonest 18 = .ok (.iload_n 1, 1) := by decide +kernel
theorem dX11_soonest_19 : decode cX11_soonest 19 = .ok (.invokevirtual 199, 3) := by decide +kernel
theorem dX11_soonest_22 : decode cX11_soonest 22 = .ok (.ireturn, 1) := by decide +kernel
theorem dX11_start_0 : decode cX11_start 0 = .ok (.aload_n 0, 1) := by decide +kernel
theorem dX11_start_1 : decode cX11_start 1 = .ok (.getfield 26, 3) := by decide +kernel
theorem dX11_start_4 : decode cX11_start 4 = .ok (.iload_n 1, 1) := by decide +kernel
theorem dX11_start_5 : decode cX11_start 5 = .ok (.invokevirtual 104, 3) := by decide +kernel
theorem dX11_start_8 : decode cX11_start 8 = .ok (.ifCond .eq 12, 3) := by decide +kernel
theorem dX11_start_11 : decode cX11_start 11 = .ok (.iload_n 2, 1) := by decide +kernel
theorem dX11_start_12 : decode cX11_start 12 = .ok (.ifCond .lt 8, 3) := by decide +kernel
theorem dX11_start_15 : decode cX11_start 15 = .ok (.iload_n 2, 1) := by decide +kernel
theorem dX11_start_16 : decode cX11_start 16 = .ok (.iconst 1, 1) := by decide +kernel
theorem dX11_start_17 : decode cX11_start 17 = .ok (.if_icmp .le 5, 3) := by decide +kernel
theorem dX11_start_20 : decode cX11_start 20 = .ok (.iconst (-1), 1) := by decide +kernel
theorem dX11_start_21 : decode cX11_start 21 = .ok (.ireturn, 1) := by decide +kernel
theorem dX11_start_22 : decode cX11_start 22 = .ok (.aload_n 0, 1) := by decide +kernel
theorem dX11_start_23 : decode cX11_start 23 = .ok (.getfield 47, 3) := by decide +kernel
theorem dX11_start_26 : decode cX11_start 26 = .ok (.aload_n 0, 1) := by decide +kernel
theorem dX11_start_27 : decode cX11_start 27 = .ok (.getfield 68, 3) := by decide +kernel
theorem dX11_start_30 : decode cX11_start 30 = .ok (.aload_n 0, 1) := by decide +kernel
theorem dX11_start_31 : decode cX11_start 31 = .ok (.getfield 26, 3) := by decide +kernel
theorem dX11_start_34 : decode cX11_start 34 = .ok (.iload_n 1, 1) := by decide +kernel
theorem dX11_start_35 : decode cX11_start 35 = .ok (.invokevirtual 202, 3) := by decide +kernel
theorem dX11_start_38 : decode cX11_start 38 = .ok (.iload_n 2, 1) := by decide +kernel
theorem dX11_start_39 : decode cX11_start 39 = .ok (.ifCond .ne 13, 3) := by decide +kernel
theorem dX11_start_42 : decode cX11_start 42 = .ok (.aload_n 0, 1) := by decide +kernel
theorem dX11_start_43 : decode cX11_start 43 = .ok (.getfield 47, 3) := by decide +kernel
theorem dX11_start_46 : decode cX11_start 46 = .ok (.getfield 206, 3) := by decide +kernel
theorem dX11_start_49 : decode cX11_start 49 = .ok (.goto 10, 3) := by decide +kernel
theorem dX11_start_52 : decode cX11_start 52 = .ok (.aload_n 0, 1) := by decide +kernel
theorem dX11_start_53 : decode cX11_start 53 = .ok (.getfield 47, 3) := by decide +kernel
theorem dX11_start_56 : decode cX11_start 56 = .ok (.getfield 209, 3) := by decide +kernel
theorem dX11_start_59 : decode cX11_start 59 = .ok (.ireturn, 1) := by decide +kernel
theorem dX11_wealth_0 : decode cX11_wealth 0 = .ok (.aload_n 0, 1) := by decide +kernel
theorem dX11_wealth_1 : decode cX11_wealth 1 = .ok (.getfield 26, 3) := by decide +kernel
theorem dX11_wealth_4 : decode cX11_wealth 4 = .ok (.iload_n 1, 1) := by decide +kernel
theorem dX11_wealth_5 : decode cX11_wealth 5 = .ok (.invokevirtual 104, 3) := by decide +kernel
theorem dX11_wealth_8 : decode cX11_wealth 8 = .ok (.ifCond .eq 30, 3) := by decide +kernel
theorem dX11_wealth_11 : decode cX11_wealth 11 = .ok (.aload_n 0, 1) := by decide +kernel
theorem dX11_wealth_12 : decode cX11_wealth 12 = .ok (.getfield 26, 3) := by decide +kernel
theorem dX11_wealth_15 : decode cX11_wealth 15 = .ok (.iload_n 2, 1) := by decide +kernel
theorem dX11_wealth_16 : decode cX11_wealth 16 = .ok (.invokevirtual 104, 3) := by decide +kernel
theorem dX11_wealth_19 : decode cX11_wealth 19 = .ok (.ifCond .eq 19, 3) := by decide +kernel
theorem dX11_wealth_22 : decode cX11_wealth 22 = .ok (.iload_n 3, 1) := by decide +kernel
theorem dX11_wealth_23 : decode cX11_wealth 23 = .ok (.ifCond .lt 15, 3) := by decide +kernel
theorem dX11_wealth_26 : decode cX11_wealth 26 = .ok (.iload_n 3, 1) := by decide +kernel
theorem dX11_wealth_27 : decode cX11_wealth 27 = .ok (.aload_n 0, 1) := by decide +kernel
theorem dX11_wealth_28 : decode cX11_wealth 28 = .ok (.getfield 26, 3) := by decide +kernel
theorem dX11_wealth_31 : decode cX11_wealth 31 = .ok (.iload_n 1, 1) := by decide +kernel
theorem dX11_wealth_32 : decode cX11_wealth 32 = .ok (.invokevirtual 115, 3) := by decide +kernel
theorem dX11_wealth_35 : decode cX11_wealth 35 = .ok (.if_icmp .le 6, 3) := by decide +kernel
theorem dX11_wealth_38 : decode cX11_wealth 38 = .ok (.ldc 212, 2) := by decide +kernel
theorem dX11_wealth_40 : decode cX11_wealth 40 = .ok (.ireturn, 1) := by decide +kernel
theorem dX11_wealth_41 : decode cX11_wealth 41 = .ok (.aload_n 0, 1) := by decide +kernel
theorem dX11_wealth_42 : decode cX11_wealth 42 = .ok (.getfield 47, 3) := by decide +kernel
theorem dX11_wealth_45 : decode cX11_wealth 45 = .ok (.aload_n 0, 1) := by decide +kernel
theorem dX11_wealth_46 : decode cX11_wealth 46 = .ok (.getfield 68, 3) := by decide +kernel
theorem dX11_wealth_49 : decode cX11_wealth 49 = .ok (.aload_n 0, 1) := by decide +kernel
theorem dX11_wealth_50 : decode cX11_wealth 50 = .ok (.getfield 26, 3) := by decide +kernel
theorem dX11_wealth_53 : decode cX11_wealth 53 = .ok (.iload_n 1, 1) := by decide +kernel
theorem dX11_wealth_54 : decode cX11_wealth 54 = .ok (.iload_n 2, 1) := by decide +kernel
theorem dX11_wealth_55 : decode cX11_wealth 55 = .ok (.iload_n 3, 1) := by decide +kernel
theorem dX11_wealth_56 : decode cX11_wealth 56 = .ok (.invokevirtual 213, 3) := by decide +kernel
theorem dX11_wealth_59 : decode cX11_wealth 59 = .ok (.ireturn, 1) := by decide +kernel
theorem dX11_free_0 : decode cX11_free 0 = .ok (.aload_n 0, 1) := by decide +kernel
theorem dX11_free_1 : decode cX11_free 1 = .ok (.getfield 26, 3) := by decide +kernel
theorem dX11_free_4 : decode cX11_free 4 = .ok (.iload_n 1, 1) := by decide +kernel
theorem dX11_free_5 : decode cX11_free 5 = .ok (.invokevirtual 104, 3) := by decide +kernel
theorem dX11_free_8 : decode cX11_free 8 = .ok (.ifCond .eq 12, 3) := by decide +kernel
theorem dX11_free_11 : decode cX11_free 11 = .ok (.iload_n 2, 1) := by decide +kernel
theorem dX11_free_12 : decode cX11_free 12 = .ok (.ifCond .lt 8, 3) := by decide +kernel
theorem dX11_free_15 : decode cX11_free 15 = .ok (.iload_n 2, 1) := by decide +kernel
theorem dX11_free_16 : decode cX11_free 16 = .ok (.iconst 1, 1) := by decide +kernel
theorem dX11_free_17 : decode cX11_free 17 = .ok (.if_icmp .le 5, 3) := by decide +kernel
theorem dX11_free_20 : decode cX11_free 20 = .ok (.iconst (-1), 1) := by decide +kernel
theorem dX11_free_21 : decode cX11_free 21 = .ok (.ireturn, 1) := by decide +kernel
theorem dX11_free_22 : decode cX11_free 22 = .ok (.aload_n 0, 1) := by decide +kernel
theorem dX11_free_23 : decode cX11_free 23 = .ok (.getfield 47, 3) := by decide +kernel
theorem dX11_free_26 : decode cX11_free 26 = .ok (.aload_n 0, 1) := by decide +kernel
theorem dX11_free_27 : decode cX11_free 27 = .ok (.getfield 68, 3) := by decide +kernel
theorem dX11_free_30 : decode cX11_free 30 = .ok (.aload_n 0, 1) := by decide +kernel
theorem dX11_free_31 : decode cX11_free 31 = .ok (.getfield 26, 3) := by decide +kernel
theorem dX11_free_34 : decode cX11_free 34 = .ok (.iload_n 1, 1) := by decide +kernel
theorem dX11_free_35 : decode cX11_free 35 = .ok (.invokevirtual 217, 3) := by decide +kernel
theorem dX11_free_38 : decode cX11_free 38 = .ok (.iload_n 2, 1) := by decide +kernel
theorem dX11_free_39 : decode cX11_free 39 = .ok (.ifCond .ne 13, 3) := by decide +kernel
theorem dX11_free_42 : decode cX11_free 42 = .ok (.aload_n 0, 1) := by decide +kernel
theorem dX11_free_43 : decode cX11_free 43 = .ok (.getfield 47, 3) := by decide +kernel
theorem dX11_free_46 : decode cX11_free 46 = .ok (.getfield 220, 3) := by decide +kernel
theorem dX11_free_49 : decode cX11_free 49 = .ok (.goto 10, 3) := by decide +kernel
theorem dX11_free_52 : decode cX11_free 52 = .ok (.aload_n 0, 1) := by decide +kernel
theorem dX11_free_53 : decode cX11_free 53 = .ok (.getfield 47, 3) := by decide +kernel
theorem dX11_free_56 : decode cX11_free 56 = .ok (.getfield 206, 3) := by decide +kernel
theorem dX11_free_59 : decode cX11_free 59 = .ok (.ireturn, 1) := by decide +kernel
theorem dX11_best_0 : decode cX11_best 0 = .ok (.aload_n 0, 1) := by decide +kernel
theorem dX11_best_1 : decode cX11_best 1 = .ok (.getfield 26, 3) := by decide +kernel
theorem dX11_best_4 : decode cX11_best 4 = .ok (.iload_n 1, 1) := by decide +kernel
theorem dX11_best_5 : decode cX11_best 5 = .ok (.invokevirtual 104, 3) := by decide +kernel
theorem dX11_best_8 : decode cX11_best 8 = .ok (.ifCond .eq 21, 3) := by decide +kernel
theorem dX11_best_11 : decode cX11_best 11 = .ok (.iload_n 2, 1) := by decide +kernel
theorem dX11_best_12 : decode cX11_best 12 = .ok (.invokestatic 223, 3) := by decide +kernel
theorem dX11_best_15 : decode cX11_best 15 = .ok (.ifCond .eq 14, 3) := by decide +kernel
theorem dX11_best_18 : decode cX11_best 18 = .ok (.iload_n 3, 1) := by decide +kernel
theorem dX11_best_19 : decode cX11_best 19 = .ok (.iconst 1, 1) := by decide +kernel
theorem dX11_best_20 : decode cX11_best 20 = .ok (.if_icmp .lt 9, 3) := by decide +kernel
theorem dX11_best_23 : decode cX11_best 23 = .ok (.iload_n 3, 1) := by decide +kernel
theorem dX11_best_24 : decode cX11_best 24 = .ok (.bipush 30, 2) := by decide +kernel
theorem dX11_best_26 : decode cX11_best 26 = .ok (.if_icmp .le 5, 3) := by decide +kernel
theorem dX11_best_29 : decode cX11_best 29 = .ok (.iconst (-1), 1) := by decide +kernel
theorem dX11_best_30 : decode cX11_best 30 = .ok (.ireturn, 1) := by decide +kernel
theorem dX11_best_31 : decode cX11_best 31 = .ok (.iload 4, 2) := by decide +kernel
theorem dX11_best_33 : decode cX11_best 33 = .ok (.ifCond .lt 9, 3) := by decide +kernel
theorem dX11_best_36 : decode cX11_best 36 = .ok (.iload 4, 2) := by decide +kernel
theorem dX11_best_38 : decode cX11_best 38 = .ok (.iconst 2, 1) := by decide +kernel
theorem dX11_best_39 : decode cX11_best 39 = .ok (.if_icmp .le 5, 3) := by decide +kernel
theorem dX11_best_42 : decode cX11_best 42 = .ok (.iconst (-1), 1) := by decide +kernel
theorem dX11_best_43 : decode cX11_best 43 = .ok (.ireturn, 1) := by decide +kernel
theorem dX11_best_44 : decode cX11_best 44 = .ok (.aload_n 0, 1) := by decide +kernel
theorem dX11_best_45 : decode cX11_best 45 = .ok (.getfield 47, 3) := by decide +kernel
theorem dX11_best_48 : decode cX11_best 48 = .ok (.aload_n 0, 1) := by decide +kernel
theorem dX11_best_49 : decode cX11_best 49 = .ok (.getfield 68, 3) := by decide +kernel
theorem dX11_best_52 : decode cX11_best 52 = .ok (.aload_n 0, 1) := by decide +kernel
theorem dX11_best_53 : decode cX11_best 53 = .ok (.getfield 26, 3) := by decide +kernel
theorem dX11_best_56 : decode cX11_best 56 = .ok (.iload_n 1, 1) := by decide +kernel
theorem dX11_best_57 : decode cX11_best 57 = .ok (.iload_n 2, 1) := by decide +kernel
theorem dX11_best_58 : decode cX11_best 58 = .ok (.iload_n 3, 1) := by decide +kernel
theorem dX11_best_59 : decode cX11_best 59 = .ok (.invokevirtual 226, 3) := by decide +kernel
theorem dX11_best_62 : decode cX11_best 62 = .ok (.iload 4, 2) := by decide +kernel
theorem dX11_best_64 : decode cX11_best 64 = .ok (.ifCond .ne 11, 3) := by decide +kernel
theorem dX11_best_67 : decode cX11_best 67 = .ok (.aload_n 0, 1) := by decide +kernel
theorem dX11_best_68 : decode cX11_best 68 = .ok (.getfield 47, 3) := by decide +kernel
theorem dX11_best_71 : decode cX11_best 71 = .ok (.getfield 220, 3) := by decide +kernel
theorem dX11_best_74 : decode cX11_best 74 = .ok (.ireturn, 1) := by decide +kernel
theorem dX11_best_75 : decode cX11_best 75 = .ok (.iload 4, 2) := by decide +kernel
theorem dX11_best_77 : decode cX11_best 77 = .ok (.iconst 1, 1) := by decide +kernel
theorem dX11_best_78 : decode cX11_best 78 = .ok (.if_icmp .ne 13, 3) := by decide +kernel
theorem dX11_best_81 : decode cX11_best 81 = .ok (.aload_n 0, 1) := by decide +kernel
theorem dX11_best_82 : decode cX11_best 82 = .ok (.getfield 47, 3) := by decide +kernel
theorem dX11_best_85 : decode cX11_best 85 = .ok (.getfield 206, 3) := by decide +kernel
theorem dX11_best_88 : decode cX11_best 88 = .ok (.goto 10, 3) := by decide +kernel
theorem dX11_best_91 : decode cX11_best 91 = .ok (.aload_n 0, 1) := by decide +kernel
theorem dX11_best_92 : decode cX11_best 92 = .ok (.getfield 47, 3) := by decide +kernel
theorem dX11_best_95 : decode cX11_best 95 = .ok (.getfield 209, 3) := by decide +kernel
theorem dX11_best_98 : decode cX11_best 98 = .ok (.ireturn, 1) := by decide +kernel
theorem dX11_loan_0 : decode cX11_loan 0 = .ok (.aload_n 0, 1) := by decide +kernel
theorem dX11_loan_1 : decode cX11_loan 1 = .ok (.getfield 26, 3) := by decide +kernel
theorem dX11_loan_4 : decode cX11_loan 4 = .ok (.iload_n 1, 1) := by decide +kernel
theorem dX11_loan_5 : decode cX11_loan 5 = .ok (.invokevirtual 104, 3) := by decide +kernel
theorem dX11_loan_8 : decode cX11_loan 8 = .ok (.ifCond .eq 19, 3) := by decide +kernel
theorem dX11_loan_11 : decode cX11_loan 11 = .ok (.aload_n 0, 1) := by decide +kernel
theorem dX11_loan_12 : decode cX11_loan 12 = .ok (.getfield 26, 3) := by decide +kernel
theorem dX11_loan_15 : decode cX11_loan 15 = .ok (.iload_n 2, 1) := by decide +kernel
theorem dX11_loan_16 : decode cX11_loan 16 = .ok (.invokevirtual 104, 3) := by decide +kernel
theorem dX11_loan_19 : decode cX11_loan 19 = .ok (.ifCond .eq 8, 3) := by decide +kernel
theorem dX11_loan_22 : decode cX11_loan 22 = .ok (.iload_n 1, 1) := by decide +kernel
theorem dX11_loan_23 : decode cX11_loan 23 = .ok (.iload_n 2, 1) := by decide +kernel
theorem dX11_loan_24 : decode cX11_loan 24 = .ok (.if_icmp .ne 6, 3) := by decide +kernel
theorem dX11_loan_27 : decode cX11_loan 27 = .ok (.ldc 212, 2) := by decide +kernel
theorem dX11_loan_29 : decode cX11_loan 29 = .ok (.ireturn, 1) := by decide +kernel
theorem dX11_loan_30 : decode cX11_loan 30 = .ok (.iload_n 3, 1) := by decide +kernel
theorem dX11_loan_31 : decode cX11_loan 31 = .ok (.iconst 1, 1) := by decide +kernel
theorem dX11_loan_32 : decode cX11_loan 32 = .ok (.if_icmp .lt 15, 3) := by decide +kernel
theorem dX11_loan_35 : decode cX11_loan 35 = .ok (.iload_n 3, 1) := by decide +kernel
theorem dX11_loan_36 : decode cX11_loan 36 = .ok (.aload_n 0, 1) := by decide +kernel
theorem dX11_loan_37 : decode cX11_loan 37 = .ok (.getfield 26, 3) := by decide +kernel
theorem dX11_loan_40 : decode cX11_loan 40 = .ok (.iload_n 1, 1) := by decide +kernel
theorem dX11_loan_41 : decode cX11_loan 41 = .ok (.invokevirtual 115, 3) := by decide +kernel
theorem dX11_loan_44 : decode cX11_loan 44 = .ok (.if_icmp .le 6, 3) := by decide +kernel
theorem dX11_loan_47 : decode cX11_loan 47 = .ok (.ldc 212, 2) := by decide +kernel
theorem dX11_loan_49 : decode cX11_loan 49 = .ok (.ireturn, 1) := by decide +kernel
theorem dX11_loan_50 : decode cX11_loan 50 = .ok (.aload_n 0, 1) := by decide +kernel
theorem dX11_loan_51 : decode cX11_loan 51 = .ok (.getfield 47, 3) := by decide +kernel
theorem dX11_loan_54 : decode cX11_loan 54 = .ok (.aload_n 0, 1) := by decide +kernel
theorem dX11_loan_55 : decode cX11_loan 55 = .ok (.getfield 68, 3) := by decide +kernel
theorem dX11_loan_58 : decode cX11_loan 58 = .ok (.aload_n 0, 1) := by decide +kernel
theorem dX11_loan_59 : decode cX11_loan 59 = .ok (.getfield 26, 3) := by decide +kernel
theorem dX11_loan_62 : decode cX11_loan 62 = .ok (.iload_n 1, 1) := by decide +kernel
theorem dX11_loan_63 : decode cX11_loan 63 = .ok (.iload_n 2, 1) := by decide +kernel
theorem dX11_loan_64 : decode cX11_loan 64 = .ok (.iload_n 3, 1) := by decide +kernel
theorem dX11_loan_65 : decode cX11_loan 65 = .ok (.iload 4, 2) := by decide +kernel
theorem dX11_loan_67 : decode cX11_loan 67 = .ok (.invokevirtual 230, 3) := by decide +kernel
theorem dX11_loan_70 : decode cX11_loan 70 = .ok (.ireturn, 1) := by decide +kernel
theorem dX11_site_0 : decode cX11_site 0 = .ok (.iload_n 1, 1) := by decide +kernel
theorem dX11_site_1 : decode cX11_site 1 = .ok (.invokestatic 163, 3) := by decide +kernel
theorem dX11_site_4 : decode cX11_site 4 = .ok (.ifCond .ne 5, 3) := by decide +kernel
theorem dX11_site_7 : decode cX11_site 7 = .ok (.iconst (-1), 1) := by decide +kernel
theorem dX11_site_8 : decode cX11_site 8 = .ok (.ireturn, 1) := by decide +kernel
theorem dX11_site_9 : decode cX11_site 9 = .ok (.aload_n 0, 1) := by decide +kernel
theorem dX11_site_10 : decode cX11_site 10 = .ok (.getfield 26, 3) := by decide +kernel
theorem dX11_site_13 : decode cX11_site 13 = .ok (.invokevirtual 159, 3) := by decide +kernel
theorem dX11_site_16 : decode cX11_site 16 = .ok (.ifCond .eq 6, 3) := by decide +kernel
theorem dX11_site_19 : decode cX11_site 19 = .ok (.bipush (-2), 2) := by decide +kernel
theorem dX11_site_21 : decode cX11_site 21 = .ok (.ireturn, 1) := by decide +kernel
theorem dX11_site_22 : decode cX11_site 22 = .ok (.aload_n 0, 1) := by decide +kernel
theorem dX11_site_23 : decode cX11_site 23 = .ok (.getfield 47, 3) := by decide +kernel
theorem dX11_site_26 : decode cX11_site 26 = .ok (.aload_n 0, 1) := by decide +kernel
theorem dX11_site_27 : decode cX11_site 27 = .ok (.getfield 68, 3) := by decide +kernel
theorem dX11_site_30 : decode cX11_site 30 = .ok (.aload_n 0, 1) := by decide +kernel
theorem dX11_site_31 : decode cX11_site 31 = .ok (.getfield 26, 3) := by decide +kernel
theorem dX11_site_34 : decode cX11_site 34 = .ok (.iload_n 1, 1) := by decide +kernel
theorem dX11_site_35 : decode cX11_site 35 = .ok (.invokevirtual 234, 3) := by decide +kernel
theorem dX11_site_38 : decode cX11_site 38 = .ok (.ireturn, 1) := by decide +kernel
theorem dX11_rests_0 : decode cX11_rests 0 = .ok (.iload_n 1, 1) := by decide +kernel
theorem dX11_rests_1 : decode cX11_rests 1 = .ok (.invokestatic 223, 3) := by decide +kernel
theorem dX11_rests_4 : decode cX11_rests 4 = .ok (.ifCond .eq 8, 3) := by decide +kernel
theorem dX11_rests_7 : decode cX11_rests 7 = .ok (.iload_n 2, 1) := by decide +kernel
theorem dX11_rests_8 : decode cX11_rests 8 = .ok (.iconst (-1), 1) := by decide +kernel
theorem dX11_rests_9 : decode cX11_rests 9 = .ok (.if_icmp .ge 5, 3) := by decide +kernel
theorem dX11_rests_12 : decode cX11_rests 12 = .ok (.iconst (-1), 1) := by decide +kernel
theorem dX11_rests_13 : decode cX11_rests 13 = .ok (.ireturn, 1) := by decide +kernel
theorem dX11_rests_14 : decode cX11_rests 14 = .ok (.aload_n 0, 1) := by decide +kernel
theorem dX11_rests_15 : decode cX11_rests 15 = .ok (.getfield 26, 3) := by decide +kernel
theorem dX11_rests_18 : decode cX11_rests 18 = .ok (.getfield 156, 3) := by decide +kernel
theorem dX11_rests_21 : decode cX11_rests 21 = .ok (.bipush 8, 2) := by decide +kernel
theorem dX11_rests_23 : decode cX11_rests 23 = .ok (.if_icmp .le 6, 3) := by decide +kernel
theorem dX11_rests_26 : decode cX11_rests 26 = .ok (.bipush (-2), 2) := by decide +kernel
theorem dX11_rests_28 : decode cX11_rests 28 = .ok (.ireturn, 1) := by decide +kernel
theorem dX11_rests_29 : decode cX11_rests 29 = .ok (.aload_n 0, 1) := by decide +kernel
theorem dX11_rests_30 : decode cX11_rests 30 = .ok (.getfield 54, 3) := by decide +kernel
theorem dX11_rests_33 : decode cX11_rests 33 = .ok (.aload_n 0, 1) := by decide +kernel
theorem dX11_rests_34 : decode cX11_rests 34 = .ok (.getfield 68, 3) := by decide +kernel
theorem dX11_rests_37 : decode cX11_rests 37 = .ok (.aload_n 0, 1) := by decide +kernel
theorem dX11_rests_38 : decode cX11_rests 38 = .ok (.getfield 26, 3) := by decide +kernel
theorem dX11_rests_41 : decode cX11_rests 41 = .ok (.iload_n 1, 1) := by decide +kernel
theorem dX11_rests_42 : decode cX11_rests 42 = .ok (.iload_n 2, 1) := by decide +kernel
theorem dX11_rests_43 : decode cX11_rests 43 = .ok (.invokevirtual 237, 3) := by decide +kernel
theorem dX11_rests_46 : decode cX11_rests 46 = .ok (.ireturn, 1) := by decide +kernel
theorem dX11_tell_0 : decode cX11_tell 0 = .ok (.aload_n 0, 1) := by decide +kernel
theorem dX11_tell_1 : decode cX11_tell 1 = .ok (.getfield 26, 3) := by decide +kernel
theorem dX11_tell_4 : decode cX11_tell 4 = .ok (.iload_n 1, 1) := by decide +kernel
theorem dX11_tell_5 : decode cX11_tell 5 = .ok (.invokevirtual 104, 3) := by decide +kernel
theorem dX11_tell_8 : decode cX11_tell 8 = .ok (.ifCond .eq 14, 3) := by decide +kernel
theorem dX11_tell_11 : decode cX11_tell 11 = .ok (.iload_n 2, 1) := by decide +kernel
theorem dX11_tell_12 : decode cX11_tell 12 = .ok (.ifCond .lt 10, 3) := by decide +kernel
theorem dX11_tell_15 : decode cX11_tell 15 = .ok (.iload_n 2, 1) := by decide +kernel
theorem dX11_tell_16 : decode cX11_tell 16 = .ok (.sipush 9999, 3) := by decide +kernel
theorem dX11_tell_19 : decode cX11_tell 19 = .ok (.if_icmp .le 5, 3) := by decide +kernel
theorem dX11_tell_22 : decode cX11_tell 22 = .ok (.iconst (-1), 1) := by decide +kernel
theorem dX11_tell_23 : decode cX11_tell 23 = .ok (.ireturn, 1) := by decide +kernel
theorem dX11_tell_24 : decode cX11_tell 24 = .ok (.aload_n 0, 1) := by decide +kernel
theorem dX11_tell_25 : decode cX11_tell 25 = .ok (.getfield 61, 3) := by decide +kernel
theorem dX11_tell_28 : decode cX11_tell 28 = .ok (.iload_n 1, 1) := by decide +kernel
theorem dX11_tell_29 : decode cX11_tell 29 = .ok (.iload_n 2, 1) := by decide +kernel
theorem dX11_tell_30 : decode cX11_tell 30 = .ok (.invokevirtual 240, 3) := by decide +kernel
theorem dX11_tell_33 : decode cX11_tell 33 = .ok (.ireturn, 1) := by decide +kernel
theorem dX11_forget_0 : decode cX11_forget 0 = .ok (.aload_n 0, 1) := by decide +kernel
theorem dX11_forget_1 : decode cX11_forget 1 = .ok (.getfield 61, 3) := by decide +kernel
theorem dX11_forget_4 : decode cX11_forget 4 = .ok (.getfield 244, 3) := by decide +kernel
theorem dX11_forget_7 : decode cX11_forget 7 = .ok (.istore_n 1, 1) := by decide +kernel
theorem dX11_forget_8 : decode cX11_forget 8 = .ok (.aload_n 0, 1) := by decide +kernel
theorem dX11_forget_9 : decode cX11_forget 9 = .ok (.getfield 61, 3) := by decide +kernel
theorem dX11_forget_12 : decode cX11_forget 12 = .ok (.invokevirtual 103, 3) := by decide +kernel
theorem dX11_forget_15 : decode cX11_forget 15 = .ok (.iload_n 1, 1) := by decide +kernel
theorem dX11_forget_16 : decode cX11_forget 16 = .ok (.ireturn, 1) := by decide +kernel
theorem dX11_fits_0 : decode cX11_fits 0 = .ok (.iload_n 1, 1) := by decide +kernel
theorem dX11_fits_1 : decode cX11_fits 1 = .ok (.invokestatic 247, 3) := by decide +kernel
theorem dX11_fits_4 : decode cX11_fits 4 = .ok (.ifCond .eq 18, 3) := by decide +kernel
theorem dX11_fits_7 : decode cX11_fits 7 = .ok (.iload_n 2, 1) := by decide +kernel
theorem dX11_fits_8 : decode cX11_fits 8 = .ok (.ifCond .lt 14, 3) := by decide +kernel
theorem dX11_fits_11 : decode cX11_fits 11 = .ok (.iload_n 2, 1) := by decide +kernel
theorem dX11_fits_12 : decode cX11_fits 12 = .ok (.aload_n 0, 1) := by decide +kernel
theorem dX11_fits_13 : decode cX11_fits 13 = .ok (.getfield 61, 3) := by decide +kernel
theorem dX11_fits_16 : decode cX11_fits 16 = .ok (.getfield 244, 3) := by decide +kernel
theorem dX11_fits_19 : decode cX11_fits 19 = .ok (.if_icmp .le 5, 3) := by decide +kernel
theorem dX11_fits_22 : decode cX11_fits 22 = .ok (.iconst (-1), 1) := by decide +kernel
theorem dX11_fits_23 : decode cX11_fits 23 = .ok (.ireturn, 1) := by decide +kernel
theorem dX11_fits_24 : decode cX11_fits 24 = .ok (.aload_n 0, 1) := by decide +kernel
theorem dX11_fits_25 : decode cX11_fits 25 = .ok (.getfield 61, 3) := by decide +kernel
theorem dX11_fits_28 : decode cX11_fits 28 = .ok (.iload_n 1, 1) := by decide +kernel
theorem dX11_fits_29 : decode cX11_fits 29 = .ok (.aload_n 0, 1) := by decide +kernel
theorem dX11_fits_30 : decode cX11_fits 30 = .ok (.getfield 26, 3) := by decide +kernel
theorem dX11_fits_33 : decode cX11_fits 33 = .ok (.getfield 156, 3) := by decide +kernel
theorem dX11_fits_36 : decode cX11_fits 36 = .ok (.invokevirtual 250, 3) := by decide +kernel
theorem dX11_fits_39 : decode cX11_fits 39 = .ok (.ldc 253, 2) := by decide +kernel
theorem dX11_fits_41 : decode cX11_fits 41 = .ok (.if_icmp .le 6, 3) := by decide +kernel
theorem dX11_fits_44 : decode cX11_fits 44 = .ok (.bipush (-2), 2) := by decide +kernel
theorem dX11_fits_46 : decode cX11_fits 46 = .ok (.ireturn, 1) := by decide +kernel
theorem dX11_fits_47 : decode cX11_fits 47 = .ok (.aload_n 0, 1) := by decide +kernel
theorem dX11_fits_48 : decode cX11_fits 48 = .ok (.getfield 61, 3) := by decide +kernel
theorem dX11_fits_51 : decode cX11_fits 51 = .ok (.aload_n 0, 1) := by decide +kernel
theorem dX11_fits_52 : decode cX11_fits 52 = .ok (.getfield 68, 3) := by decide +kernel
theorem dX11_fits_55 : decode cX11_fits 55 = .ok (.aload_n 0, 1) := by decide +kernel
theorem dX11_fits_56 : decode cX11_fits 56 = .ok (.getfield 26, 3) := by decide +kernel
theorem dX11_fits_59 : decode cX11_fits 59 = .ok (.iload_n 1, 1) := by decide +kernel
theorem dX11_fits_60 : decode cX11_fits 60 = .ok (.iload_n 2, 1) := by decide +kernel
theorem dX11_fits_61 : decode cX11_fits 61 = .ok (.iconst 0, 1) := by decide +kernel
theorem dX11_fits_62 : decode cX11_fits 62 = .ok (.invokevirtual 254, 3) := by decide +kernel
theorem dX11_fits_65 : decode cX11_fits 65 = .ok (.aload_n 0, 1) := by decide +kernel
theorem dX11_fits_66 : decode cX11_fits 66 = .ok (.getfield 61, 3) := by decide +kernel
theorem dX11_fits_69 : decode cX11_fits 69 = .ok (.getfield 257, 3) := by decide +kernel
theorem dX11_fits_72 : decode cX11_fits 72 = .ok (.ireturn, 1) := by decide +kernel
theorem dX11_span_0 : decode cX11_span 0 = .ok (.iload_n 1, 1) := by decide +kernel
theorem dX11_span_1 : decode cX11_span 1 = .ok (.invokestatic 247, 3) := by decide +kernel
theorem dX11_span_4 : decode cX11_span 4 = .ok (.ifCond .eq 29, 3) := by decide +kernel
theorem dX11_span_7 : decode cX11_span 7 = .ok (.iload_n 2, 1) := by decide +kernel
theorem dX11_span_8 : decode cX11_span 8 = .ok (.ifCond .lt 25, 3) := by decide +kernel
theorem dX11_span_11 : decode cX11_span 11 = .ok (.iload_n 2, 1) := by decide +kernel
theorem dX11_span_12 : decode cX11_span 12 = .ok (.aload_n 0, 1) := by decide +kernel
theorem dX11_span_13 : decode cX11_span 13 = .ok (.getfield 61, 3) := by decide +kernel
theorem dX11_span_16 : decode cX11_span 16 = .ok (.getfield 244, 3) := by decide +kernel
theorem dX11_span_19 : decode cX11_span 19 = .ok (.if_icmp .gt 14, 3) := by decide +kernel
theorem dX11_span_22 : decode cX11_span 22 = .ok (.aload_n 0, 1) := by decide +kernel
theorem dX11_span_23 : decode cX11_span 23 = .ok (.getfield 26, 3) := by decide +kernel
theorem dX11_span_26 : decode cX11_span 26 = .ok (.iload_n 3, 1) := by decide +kernel
theorem dX11_span_27 : decode cX11_span 27 = .ok (.invokevirtual 104, 3) := by decide +kernel
theorem dX11_span_30 : decode cX11_span 30 = .ok (.ifCond .ne 5, 3) := by decide +kernel
theorem dX11_span_33 : decode cX11_span 33 = .ok (.iconst (-1), 1) := by decide +kernel
theorem dX11_span_34 : decode cX11_span 34 = .ok (.ireturn, 1) := by decide +kernel
theorem dX11_span_35 : decode cX11_span 35 = .ok (.aload_n 0, 1) := by decide +kernel
theorem dX11_span_36 : decode cX11_span 36 = .ok (.getfield 61, 3) := by decide +kernel
theorem dX11_span_39 : decode cX11_span 39 = .ok (.iload_n 1, 1) := by decide +kernel
theorem dX11_span_40 : decode cX11_span 40 = .ok (.aload_n 0, 1) := by decide +kernel
theorem dX11_span_41 : decode cX11_span 41 = .ok (.getfield 26, 3) := by decide +kernel
theorem dX11_span_44 : decode cX11_span 44 = .ok (.getfield 156, 3) := by decide +kernel
theorem dX11_span_47 : decode cX11_span 47 = .ok (.invokevirtual 250, 3) := by decide +kernel
theorem dX11_span_50 : decode cX11_span 50 = .ok (.ldc 253, 2) := by decide +kernel
theorem dX11_span_52 : decode cX11_span 52 = .ok (.if_icmp .le 6, 3) := by decide +kernel
theorem dX11_span_55 : decode cX11_span 55 = .ok (.bipush (-2), 2) := by decide +kernel
theorem dX11_span_57 : decode cX11_span 57 = .ok (.ireturn, 1) := by decide +kernel
theorem dX11_span_58 : decode cX11_span 58 = .ok (.aload_n 0, 1) := by decide +kernel
theorem dX11_span_59 : decode cX11_span 59 = .ok (.getfield 61, 3) := by decide +kernel
theorem dX11_span_62 : decode cX11_span 62 = .ok (.aload_n 0, 1) := by decide +kernel
theorem dX11_span_63 : decode cX11_span 63 = .ok (.getfield 68, 3) := by decide +kernel
theorem dX11_span_66 : decode cX11_span 66 = .ok (.aload_n 0, 1) := by decide +kernel
theorem dX11_span_67 : decode cX11_span 67 = .ok (.getfield 26, 3) := by decide +kernel
theorem dX11_span_70 : decode cX11_span 70 = .ok (.iload_n 1, 1) := by decide +kernel
theorem dX11_span_71 : decode cX11_span 71 = .ok (.iload_n 2, 1) := by decide +kernel
theorem dX11_span_72 : decode cX11_span 72 = .ok (.iload_n 3, 1) := by decide +kernel
theorem dX11_span_73 : decode cX11_span 73 = .ok (.invokevirtual 254, 3) := by decide +kernel
theorem dX11_span_76 : decode cX11_span 76 = .ok (.aload_n 0, 1) := by decide +kernel
theorem dX11_span_77 : decode cX11_span 77 = .ok (.getfield 61, 3) := by decide +kernel
theorem dX11_span_80 : decode cX11_span 80 = .ok (.getfield 257, 3) := by decide +kernel
theorem dX11_span_83 : decode cX11_span 83 = .ok (.ifCond .ne 8, 3) := by decide +kernel
theorem dX11_span_86 : decode cX11_span 86 = .ok (.bipush (-2), 2) := by decide +kernel
theorem dX11_span_88 : decode cX11_span 88 = .ok (.goto 21, 3) := by decide +kernel
theorem dX11_span_91 : decode cX11_span 91 = .ok (.bipush 100, 2) := by decide +kernel
theorem dX11_span_93 : decode cX11_span 93 = .ok (.aload_n 0, 1) := by decide +kernel
theorem dX11_span_94 : decode cX11_span 94 = .ok (.getfield 61, 3) := by decide +kernel
theorem dX11_span_97 : decode cX11_span 97 = .ok (.getfield 260, 3) := by decide +kernel
theorem dX11_span_100 : decode cX11_span 100 = .ok (.imul, 1) := by decide +kernel
theorem dX11_span_101 : decode cX11_span 101 = .ok (.aload_n 0, 1) := by decide +kernel
theorem dX11_span_102 : decode cX11_span 102 = .ok (.getfield 61, 3) := by decide +kernel
theorem dX11_span_105 : decode cX11_span 105 = .ok (.getfield 263, 3) := by decide +kernel
theorem dX11_span_108 : decode cX11_span 108 = .ok (.iadd, 1) := by decide +kernel
theorem dX11_span_109 : decode cX11_span 109 = .ok (.ireturn, 1) := by decide +kernel
theorem dX11_ago_0 : decode cX11_ago 0 = .ok (.iload_n 1, 1) := by decide +kernel
theorem dX11_ago_1 : decode cX11_ago 1 = .ok (.invokestatic 247, 3) := by decide +kernel
theorem dX11_ago_4 : decode cX11_ago 4 = .ok (.ifCond .ne 5, 3) := by decide +kernel
theorem dX11_ago_7 : decode cX11_ago 7 = .ok (.iconst (-1), 1) := by decide +kernel
theorem dX11_ago_8 : decode cX11_ago 8 = .ok (.ireturn, 1) := by decide +kernel
theorem dX11_ago_9 : decode cX11_ago 9 = .ok (.aload_n 0, 1) := by decide +kernel
theorem dX11_ago_10 : decode cX11_ago 10 = .ok (.getfield 61, 3) := by decide +kernel
theorem dX11_ago_13 : decode cX11_ago 13 = .ok (.iload_n 1, 1) := by decide +kernel
theorem dX11_ago_14 : decode cX11_ago 14 = .ok (.aload_n 0, 1) := by decide +kernel
theorem dX11_ago_15 : decode cX11_ago 15 = .ok (.getfield 26, 3) := by decide +kernel
theorem dX11_ago_18 : decode cX11_ago 18 = .ok (.getfield 156, 3) := by decide +kernel
theorem dX11_ago_21 : decode cX11_ago 21 = .ok (.invokevirtual 250, 3) := by decide +kernel
theorem dX11_ago_24 : decode cX11_ago 24 = .ok (.ldc 253, 2) := by decide +kernel
theorem dX11_ago_26 : decode cX11_ago 26 = .ok (.if_icmp .le 6, 3) := by decide +kernel
theorem dX11_ago_29 : decode cX11_ago 29 = .ok (.bipush (-2), 2) := by decide +kernel
theorem dX11_ago_31 : decode cX11_ago 31 = .ok (.ireturn, 1) := by decide +kernel
theorem dX11_ago_32 : decode cX11_ago 32 = .ok (.aload_n 0, 1) := by decide +kernel
theorem dX11_ago_33 : decode cX11_ago 33 = .ok (.getfield 61, 3) := by decide +kernel
theorem dX11_ago_36 : decode cX11_ago 36 = .ok (.aload_n 0, 1) := by decide +kernel
theorem dX11_ago_37 : decode cX11_ago 37 = .ok (.getfield 68, 3) := by decide +kernel
theorem dX11_ago_40 : decode cX11_ago 40 = .ok (.aload_n 0, 1) := by decide +kernel
theorem dX11_ago_41 : decode cX11_ago 41 = .ok (.getfield 26, 3) := by decide +kernel
theorem dX11_ago_44 : decode cX11_ago 44 = .ok (.iload_n 1, 1) := by decide +kernel
theorem dX11_ago_45 : decode cX11_ago 45 = .ok (.invokevirtual 266, 3) := by decide +kernel
theorem dX11_ago_48 : decode cX11_ago 48 = .ok (.aload_n 0, 1) := by decide +kernel
theorem dX11_ago_49 : decode cX11_ago 49 = .ok (.getfield 61, 3) := by decide +kernel
theorem dX11_ago_52 : decode cX11_ago 52 = .ok (.getfield 257, 3) := by decide +kernel
theorem dX11_ago_55 : decode cX11_ago 55 = .ok (.ireturn, 1) := by decide +kernel
theorem dX11_hold_0 : decode cX11_hold 0 = .ok (.aload_n 0, 1) := by decide +kernel
theorem dX11_hold_1 : decode cX11_hold 1 = .ok (.getfield 33, 3) := by decide +kernel
theorem dX11_hold_4 : decode cX11_hold 4 = .ok (.iload_n 1, 1) := by decide +kernel
theorem dX11_hold_5 : decode cX11_hold 5 = .ok (.aload_n 0, 1) := by decide +kernel
theorem dX11_hold_6 : decode cX11_hold 6 = .ok (.getfield 26, 3) := by decide +kernel
theorem dX11_hold_9 : decode cX11_hold 9 = .ok (.invokevirtual 269, 3) := by decide +kernel
theorem dX11_hold_12 : decode cX11_hold 12 = .ok (.ireturn, 1) := by decide +kernel
theorem dX11_restore_0 : decode cX11_restore 0 = .ok (.aload_n 0, 1) := by decide +kernel
theorem dX11_restore_1 : decode cX11_restore 1 = .ok (.getfield 33, 3) := by decide +kernel
theorem dX11_restore_4 : decode cX11_restore 4 = .ok (.iload_n 1, 1) := by decide +kernel
theorem dX11_restore_5 : decode cX11_restore 5 = .ok (.aload_n 0, 1) := by decide +kernel
theorem dX11_restore_6 : decode cX11_restore 6 = .ok (.getfield 26, 3) := by decide +kernel
theorem dX11_restore_9 : decode cX11_restore 9 = .ok (.invokevirtual 273, 3) := by decide +kernel
theorem dX11_restore_12 : decode cX11_restore 12 = .ok (.ifCond .ne 5, 3) := by decide +kernel
theorem dX11_restore_15 : decode cX11_restore 15 = .ok (.iconst 0, 1) := by decide +kernel
theorem dX11_restore_16 : decode cX11_restore 16 = .ok (.ireturn, 1) := by decide +kernel
theorem dX11_restore_17 : decode cX11_restore 17 = .ok (.aload_n 0, 1) := by decide +kernel
theorem dX11_restore_18 : decode cX11_restore 18 = .ok (.getfield 33, 3) := by decide +kernel
theorem dX11_restore_21 : decode cX11_restore 21 = .ok (.invokevirtual 276, 3) := by decide +kernel
theorem dX11_restore_24 : decode cX11_restore 24 = .ok (.iconst 1, 1) := by decide +kernel
theorem dX11_restore_25 : decode cX11_restore 25 = .ok (.ireturn, 1) := by decide +kernel
theorem dX11_count_0 : decode cX11_count 0 = .ok (.iload_n 1, 1) := by decide +kernel
theorem dX11_count_1 : decode cX11_count 1 = .ok (.tableswitch 187 0 12 #[67, 75, 91, 107, 115, 123, 131, 139, 147, 155, 163, 171, 179], 67) := by decide +kernel
theorem dX11_count_68 : decode cX11_count 68 = .ok (.aload_n 0, 1) := by decide +kernel
theorem dX11_count_69 : decode cX11_count 69 = .ok (.getfield 26, 3) := by decide +kernel
theorem dX11_count_72 : decode cX11_count 72 = .ok (.getfield 156, 3) := by decide +kernel
theorem dX11_count_75 : decode cX11_count 75 = .ok (.ireturn, 1) := by decide +kernel
theorem dX11_count_76 : decode cX11_count 76 = .ok (.aload_n 0, 1) := by decide +kernel
theorem dX11_count_77 : decode cX11_count 77 = .ok (.getfield 68, 3) := by decide +kernel
theorem dX11_count_80 : decode cX11_count 80 = .ok (.getfield 173, 3) := by decide +kernel
theorem dX11_count_83 : decode cX11_count 83 = .ok (.ifCond .eq 7, 3) := by decide +kernel
theorem dX11_count_86 : decode cX11_count 86 = .ok (.iconst 1, 1) := by decide +kernel
theorem dX11_count_87 : decode cX11_count 87 = .ok (.goto 4, 3) := by decide +kernel
theorem dX11_count_90 : decode cX11_count 90 = .ok (.iconst 0, 1) := by decide +kernel
theorem dX11_count_91 : decode cX11_count 91 = .ok (.ireturn, 1) := by decide +kernel
theorem dX11_count_92 : decode cX11_count 92 = .ok (.aload_n 0, 1) := by decide +kernel
theorem dX11_count_93 : decode cX11_count 93 = .ok (.getfield 68, 3) := by decide +kernel
theorem dX11_count_96 : decode cX11_count 96 = .ok (.getfield 279, 3) := by decide +kernel
theorem dX11_count_99 : decode cX11_count 99 = .ok (.ifCond .eq 7, 3) := by decide +kernel
theorem dX11_count_102 : decode cX11_count 102 = .ok (.iconst 1, 1) := by decide +kernel
theorem dX11_count_103 : decode cX11_count 103 = .ok (.goto 4, 3) := by decide +kernel
theorem dX11_count_106 : decode cX11_count 106 = .ok (.iconst 0, 1) := by decide +kernel
theorem dX11_count_107 : decode cX11_count 107 = .ok (.ireturn, 1) := by decide +kernel
theorem dX11_count_108 : decode cX11_count 108 = .ok (.aload_n 0, 1) := by decide +kernel
theorem dX11_count_109 : decode cX11_count 109 = .ok (.getfield 68, 3) := by decide +kernel
theorem dX11_count_112 : decode cX11_count 112 = .ok (.getfield 139, 3) := by decide +kernel
theorem dX11_count_115 : decode cX11_count 115 = .ok (.ireturn, 1) := by decide +kernel
theorem dX11_count_116 : decode cX11_count 116 = .ok (.aload_n 0, 1) := by decide +kernel
theorem dX11_count_117 : decode cX11_count 117 = .ok (.getfield 68, 3) := by decide +kernel
theorem dX11_count_120 : decode cX11_count 120 = .ok (.getfield 282, 3) := by decide +kernel
theorem dX11_count_123 : decode cX11_count 123 = .ok (.ireturn, 1) := by decide +kernel
theorem dX11_count_124 : decode cX11_count 124 = .ok (.aload_n 0, 1) := by decide +kernel
theorem dX11_count_125 : decode cX11_count 125 = .ok (.getfield 26, 3) := by decide +kernel
theorem dX11_count_128 : decode cX11_count 128 = .ok (.getfield 153, 3) := by decide +kernel
theorem dX11_count_131 : decode cX11_count 131 = .ok (.ireturn, 1) := by decide +kernel
theorem dX11_count_132 : decode cX11_count 132 = .ok (.aload_n 0, 1) := by decide +kernel
theorem dX11_count_133 : decode cX11_count 133 = .ok (.getfield 26, 3) := by decide +kernel
theorem dX11_count_136 : decode cX11_count 136 = .ok (.getfield 146, 3) := by decide +kernel
theorem dX11_count_139 : decode cX11_count 139 = .ok (.ireturn, 1) := by decide +kernel
theorem dX11_count_140 : decode cX11_count 140 = .ok (.aload_n 0, 1) := by decide +kernel
theorem dX11_count_141 : decode cX11_count 141 = .ok (.getfield 26, 3) := by decide +kernel
theorem dX11_count_144 : decode cX11_count 144 = .ok (.invokevirtual 285, 3) := by decide +kernel
theorem dX11_count_147 : decode cX11_count 147 = .ok (.ireturn, 1) := by decide +kernel
theorem dX11_count_148 : decode cX11_count 148 = .ok (.aload_n 0, 1) := by decide +kernel
theorem dX11_count_149 : decode cX11_count 149 = .ok (.getfield 26, 3) := by decide +kernel
theorem dX11_count_152 : decode cX11_count 152 = .ok (.getfield 288, 3) := by decide +kernel
theorem dX11_count_155 : decode cX11_count 155 = .ok (.ireturn, 1) := by decide +kernel
theorem dX11_count_156 : decode cX11_count 156 = .ok (.aload_n 0, 1) := by decide +kernel
theorem dX11_count_157 : decode cX11_count 157 = .ok (.getfield 10, 3) := by decide +kernel
theorem dX11_count_160 : decode cX11_count 160 = .ok (.getfield 83, 3) := by decide +kernel
theorem dX11_count_163 : decode cX11_count 163 = .ok (.ireturn, 1) := by decide +kernel
theorem dX11_count_164 : decode cX11_count 164 = .ok (.aload_n 0, 1) := by decide +kernel
theorem dX11_count_165 : decode cX11_count 165 = .ok (.getfield 33, 3) := by decide +kernel
theorem dX11_count_168 : decode cX11_count 168 = .ok (.getfield 291, 3) := by decide +kernel
theorem dX11_count_171 : decode cX11_count 171 = .ok (.ireturn, 1) := by decide +kernel
theorem dX11_count_172 : decode cX11_count 172 = .ok (.aload_n 0, 1) := by decide +kernel
theorem dX11_count_173 : decode cX11_count 173 = .ok (.getfield 61, 3) := by decide +kernel
theorem dX11_count_176 : decode cX11_count 176 = .ok (.getfield 244, 3) := by decide +kernel
theorem dX11_count_179 : decode cX11_count 179 = .ok (.ireturn, 1) := by decide +kernel
theorem dX11_count_180 : decode cX11_count 180 = .ok (.aload_n 0, 1) := by decide +kernel
theorem dX11_count_181 : decode cX11_count 181 = .ok (.getfield 33, 3) := by decide +kernel
theorem dX11_count_184 : decode cX11_count 184 = .ok (.invokevirtual 294, 3) := by decide +kernel
theorem dX11_count_187 : decode cX11_count 187 = .ok (.ireturn, 1) := by decide +kernel
theorem dX11_count_188 : decode cX11_count 188 = .ok (.iconst (-1), 1) := by decide +kernel
theorem dX11_count_189 : decode cX11_count 189 = .ok (.ireturn, 1) := by decide +kernel
theorem dX11_isEvenings_0 : decode cX11_isEvenings 0 = .ok (.iload_n 0, 1) := by decide +kernel
theorem dX11_isEvenings_1 : decode cX11_isEvenings 1 = .ok (.ifCond .lt 14, 3) := by decide +kernel
theorem dX11_isEvenings_4 : decode cX11_isEvenings 4 = .ok (.iload_n 0, 1) := by decide +kernel
theorem dX11_isEvenings_5 : decode cX11_isEvenings 5 = .ok (.sipush 300, 3) := by decide +kernel
theorem dX11_isEvenings_8 : decode cX11_isEvenings 8 = .ok (.if_icmp .gt 7, 3) := by decide +kernel
theorem dX11_isEvenings_11 : decode cX11_isEvenings 11 = .ok (.iconst 1, 1) := by decide +kernel
theorem dX11_isEvenings_12 : decode cX11_isEvenings 12 = .ok (.goto 4, 3) := by decide +kernel
theorem dX11_isEvenings_15 : decode cX11_isEvenings 15 = .ok (.iconst 0, 1) := by decide +kernel
theorem dX11_isEvenings_16 : decode cX11_isEvenings 16 = .ok (.ireturn, 1) := by decide +kernel
theorem dX11_isPurse_0 : decode cX11_isPurse 0 = .ok (.iload_n 0, 1) := by decide +kernel
theorem dX11_isPurse_1 : decode cX11_isPurse 1 = .ok (.ifCond .lt 14, 3) := by decide +kernel
theorem dX11_isPurse_4 : decode cX11_isPurse 4 = .ok (.iload_n 0, 1) := by decide +kernel
theorem dX11_isPurse_5 : decode cX11_isPurse 5 = .ok (.sipush 9999, 3) := by decide +kernel
theorem dX11_isPurse_8 : decode cX11_isPurse 8 = .ok (.if_icmp .gt 7, 3) := by decide +kernel
theorem dX11_isPurse_11 : decode cX11_isPurse 11 = .ok (.iconst 1, 1) := by decide +kernel
theorem dX11_isPurse_12 : decode cX11_isPurse 12 = .ok (.goto 4, 3) := by decide +kernel
theorem dX11_isPurse_15 : decode cX11_isPurse 15 = .ok (.iconst 0, 1) := by decide +kernel
theorem dX11_isPurse_16 : decode cX11_isPurse 16 = .ok (.ireturn, 1) := by decide +kernel
theorem dX11_isUnit_0 : decode cX11_isUnit 0 = .ok (.iload_n 0, 1) := by decide +kernel
theorem dX11_isUnit_1 : decode cX11_isUnit 1 = .ok (.iconst 1, 1) := by decide +kernel
theorem dX11_isUnit_2 : decode cX11_isUnit 2 = .ok (.if_icmp .lt 14, 3) := by decide +kernel
theorem dX11_isUnit_5 : decode cX11_isUnit 5 = .ok (.iload_n 0, 1) := by decide +kernel
theorem dX11_isUnit_6 : decode cX11_isUnit 6 = .ok (.sipush 999, 3) := by decide +kernel
theorem dX11_isUnit_9 : decode cX11_isUnit 9 = .ok (.if_icmp .gt 7, 3) := by decide +kernel
theorem dX11_isUnit_12 : decode cX11_isUnit 12 = .ok (.iconst 1, 1) := by decide +kernel
theorem dX11_isUnit_13 : decode cX11_isUnit 13 = .ok (.goto 4, 3) := by decide +kernel
theorem dX11_isUnit_16 : decode cX11_isUnit 16 = .ok (.iconst 0, 1) := by decide +kernel
theorem dX11_isUnit_17 : decode cX11_isUnit 17 = .ok (.ireturn, 1) := by decide +kernel
theorem dX11_isInRow_0 : decode cX11_isInRow 0 = .ok (.iload_n 0, 1) := by decide +kernel
theorem dX11_isInRow_1 : decode cX11_isInRow 1 = .ok (.iconst 1, 1) := by decide +kernel
theorem dX11_isInRow_2 : decode cX11_isInRow 2 = .ok (.if_icmp .lt 13, 3) := by decide +kernel
theorem dX11_isInRow_5 : decode cX11_isInRow 5 = .ok (.iload_n 0, 1) := by decide +kernel
theorem dX11_isInRow_6 : decode cX11_isInRow 6 = .ok (.bipush 20, 2) := by decide +kernel
theorem dX11_isInRow_8 : decode cX11_isInRow 8 = .ok (.if_icmp .gt 7, 3) := by decide +kernel
theorem dX11_isInRow_11 : decode cX11_isInRow 11 = .ok (.iconst 1, 1) := by decide +kernel
theorem dX11_isInRow_12 : decode cX11_isInRow 12 = .ok (.goto 4, 3) := by decide +kernel
theorem dX11_isInRow_15 : decode cX11_isInRow 15 = .ok (.iconst 0, 1) := by decide +kernel
theorem dX11_isInRow_16 : decode cX11_isInRow 16 = .ok (.ireturn, 1) := by decide +kernel
theorem dX12_init_0 : decode cX12_init 0 = .ok (.aload_n 0, 1) := by decide +kernel
theorem dX12_init_1 : decode cX12_init 1 = .ok (.invokespecial 7, 3) := by decide +kernel
theorem dX12_init_4 : decode cX12_init 4 = .ok (.aload_n 0, 1) := by decide +kernel
theorem dX12_init_5 : decode cX12_init 5 = .ok (.sipush 2000, 3) := by decide +kernel
theorem dX12_init_8 : decode cX12_init 8 = .ok (.newarray .byte, 2) := by decide +kernel
theorem dX12_init_10 : decode cX12_init 10 = .ok (.putfield 13, 3) := by decide +kernel
theorem dX12_init_13 : decode cX12_init 13 = .ok (.aload_n 0, 1) := by decide +kernel
theorem dX12_init_14 : decode cX12_init 14 = .ok (.sipush 2000, 3) := by decide +kernel
theorem dX12_init_17 : decode cX12_init 17 = .ok (.newarray .byte, 2) := by decide +kernel
theorem dX12_init_19 : decode cX12_init 19 = .ok (.putfield 17, 3) := by decide +kernel
theorem dX12_init_22 : decode cX12_init 22 = .ok (.aload_n 0, 1) := by decide +kernel
theorem dX12_init_23 : decode cX12_init 23 = .ok (.sipush 403, 3) := by decide +kernel
theorem dX12_init_26 : decode cX12_init 26 = .ok (.newarray .int, 2) := by decide +kernel
theorem dX12_init_28 : decode cX12_init 28 = .ok (.putfield 20, 3) := by decide +kernel
theorem dX12_init_31 : decode cX12_init 31 = .ok (.aload_n 0, 1) := by decide +kernel
theorem dX12_init_32 : decode cX12_init 32 = .ok (.sipush 403, 3) := by decide +kernel
theorem dX12_init_35 : decode cX12_init 35 = .ok (.newarray .int, 2) := by decide +kernel
theorem dX12_init_37 : decode cX12_init 37 = .ok (.putfield 24, 3) := by decide +kernel
theorem dX12_init_40 : decode cX12_init 40 = .ok (.aload_n 0, 1) := by decide +kernel
theorem dX12_init_41 : decode cX12_init 41 = .ok (.sipush 403, 3) := by decide +kernel
theorem dX12_init_44 : decode cX12_init 44 = .ok (.newarray .int, 2) := by decide +kernel
theorem dX12_init_46 : decode cX12_init 46 = .ok (.putfield 27, 3) := by decide +kernel
theorem dX12_init_49 : decode cX12_init 49 = .ok (.aload_n 0, 1) := by decide +kernel
theorem dX12_init_50 : decode cX12_init 50 = .ok (.sipush 403, 3) := by decide +kernel
theorem dX12_init_53 : decode cX12_init 53 = .ok (.newarray .long, 2) := by decide +kernel
theorem dX12_init_55 : decode cX12_init 55 = .ok (.putfield 30, 3) := by decide +kernel
theorem dX12_init_58 : decode cX12_init 58 = .ok (.aload_n 0, 1) := by decide +kernel
theorem dX12_init_59 : decode cX12_init 59 = .ok (.bipush 20, 2) := by decide +kernel
theorem dX12_init_61 : decode cX12_init 61 = .ok (.newarray .long, 2) := by decide +kernel
theorem dX12_init_63 : decode cX12_init 63 = .ok (.putfield 34, 3) := by decide +kernel
theorem dX12_init_66 : decode cX12_init 66 = .ok (.aload_n 0, 1) := by decide +kernel
theorem dX12_init_67 : decode cX12_init 67 = .ok (.iconst (-1), 1) := by decide +kernel
theorem dX12_init_68 : decode cX12_init 68 = .ok (.putfield 37, 3) := by decide +kernel
theorem dX12_init_71 : decode cX12_init 71 = .ok (.aload_n 0, 1) := by decide +kernel
theorem dX12_init_72 : decode cX12_init 72 = .ok (.bipush 10, 2) := by decide +kernel
theorem dX12_init_74 : decode cX12_init 74 = .ok (.newarray .long, 2) := by decide +kernel
theorem dX12_init_76 : decode cX12_init 76 = .ok (.putfield 40, 3) := by decide +kernel
theorem dX12_init_79 : decode cX12_init 79 = .ok (.aload_n 0, 1) := by decide +kernel
theorem dX12_init_80 : decode cX12_init 80 = .ok (.iconst 2, 1) := by decide +kernel
theorem dX12_init_81 : decode cX12_init 81 = .ok (.newarray .int, 2) := by decide +kernel
theorem dX12_init_83 : decode cX12_init 83 = .ok (.putfield 43, 3) := by decide +kernel
theorem dX12_init_86 : decode cX12_init 86 = .ok (.aload_n 0, 1) := by decide +kernel
theorem dX12_init_87 : decode cX12_init 87 = .ok (.bipush 20, 2) := by decide +kernel
theorem dX12_init_89 : decode cX12_init 89 = .ok (.newarray .int, 2) := by decide +kernel
theorem dX12_init_91 : decode cX12_init 91 = .ok (.putfield 46, 3) := by decide +kernel
theorem dX12_init_94 : decode cX12_init 94 = .ok (.aload_n 0, 1) := by decide +kernel
theorem dX12_init_95 : decode cX12_init 95 = .ok (.iconst 2, 1) := by decide +kernel
theorem dX12_init_96 : decode cX12_init 96 = .ok (.newarray .boolean, 2) := by decide +kernel
theorem dX12_init_98 : decode cX12_init 98 = .ok (.putfield 49, 3) := by decide +kernel
theorem dX12_init_101 : decode cX12_init 101 = .ok (.aload_n 0, 1) := by decide +kernel
theorem dX12_init_102 : decode cX12_init 102 = .ok (.iconst 2, 1) := by decide +kernel
theorem dX12_init_103 : decode cX12_init 103 = .ok (.newarray .boolean, 2) := by decide +kernel
theorem dX12_init_105 : decode cX12_init 105 = .ok (.putfield 53, 3) := by decide +kernel
theorem dX12_init_108 : decode cX12_init 108 = .ok (.aload_n 0, 1) := by decide +kernel
theorem dX12_init_109 : decode cX12_init 109 = .ok (.iconst 2, 1) := by decide +kernel
theorem dX12_init_110 : decode cX12_init 110 = .ok (.newarray .int, 2) := by decide +kernel
theorem dX12_init_112 : decode cX12_init 112 = .ok (.putfield 56, 3) := by decide +kernel
theorem dX12_init_115 : decode cX12_init 115 = .ok (.aload_n 0, 1) := by decide +kernel
theorem dX12_init_116 : decode cX12_init 116 = .ok (.iconst 2, 1) := by decide +kernel
theorem dX12_init_117 : decode cX12_init 117 = .ok (.newarray .int, 2) := by decide +kernel
theorem dX12_init_119 : decode cX12_init 119 = .ok (.putfield 59, 3) := by decide +kernel
theorem dX12_init_122 : decode cX12_init 122 = .ok (.aload_n 0, 1) := by decide +kernel
theorem dX12_init_123 : decode cX12_init 123 = .ok (.iconst 2, 1) := by decide +kernel
theorem dX12_init_124 : decode cX12_init 124 = .ok (.newarray .int, 2) := by decide +kernel
theorem dX12_init_126 : decode cX12_init 126 = .ok (.putfield 62, 3) := by decide +kernel
theorem dX12_init_129 : decode cX12_init 129 = .ok (.aload_n 0, 1) := by decide +kernel
theorem dX12_init_130 : decode cX12_init 130 = .ok (.iconst 4, 1) := by decide +kernel
theorem dX12_init_131 : decode cX12_init 131 = .ok (.newarray .int, 2) := by decide +kernel
theorem dX12_init_133 : decode cX12_init 133 = .ok (.putfield 65, 3) := by decide +kernel
theorem dX12_init_136 : decode cX12_init 136 = .ok (.aload_n 0, 1) := by decide +kernel
theorem dX12_init_137 : decode cX12_init 137 = .ok (.iconst 4, 1) := by decide +kernel
theorem dX12_init_138 : decode cX12_init 138 = .ok (.newarray .int, 2) := by decide +kernel
theorem dX12_init_140 : decode cX12_init 140 = .ok (.putfield 68, 3) := by decide +kernel
theorem dX12_init_143 : decode cX12_init 143 = .ok (.aload_n 0, 1) := by decide +kernel
theorem dX12_init_144 : decode cX12_init 144 = .ok (.sipush 260, 3) := by decide +kernel
theorem dX12_init_147 : decode cX12_init 147 = .ok (.newarray .boolean, 2) := by decide +kernel
theorem dX12_init_149 : decode cX12_init 149 = .ok (.putfield 71, 3) := by decide +kernel
theorem dX12_init_152 : decode cX12_init 152 = .ok (.aload_n 0, 1) := by decide +kernel
theorem dX12_init_153 : decode cX12_init 153 = .ok (.sipush 260, 3) := by decide +kernel
theorem dX12_init_156 : decode cX12_init 156 = .ok (.newarray .int, 2) := by decide +kernel
theorem dX12_init_158 : decode cX12_init 158 = .ok (.putfield 74, 3) := by decide +kernel
theorem dX12_init_161 : decode cX12_init 161 = .ok (.aload_n 0, 1) := by decide +kernel
theorem dX12_init_162 : decode cX12_init 162 = .ok (.sipush 260, 3) := by decide +kernel
theorem dX12_init_165 : decode cX12_init 165 = .ok (.newarray .int, 2) := by decide +kernel
theorem dX12_init_167 : decode cX12_init 167 = .ok (.putfield 77, 3) := by decide +kernel
theorem dX12_init_170 : decode cX12_init 170 = .ok (.aload_n 0, 1) := by decide +kernel
theorem dX12_init_171 : decode cX12_init 171 = .ok (.sipush 260, 3) := by decide +kernel
theorem dX12_init_174 : decode cX12_init 174 = .ok (.newarray .int, 2) := by decide +kernel
theorem dX12_init_176 : decode cX12_init 176 = .ok (.putfield 80, 3) := by decide +kernel
theorem dX12_init_179 : decode cX12_init 179 = .ok (.aload_n 0, 1) := by decide +kernel
theorem dX12_init_180 : decode cX12_init 180 = .ok (.sipush 260, 3) := by decide +kernel
theorem dX12_init_183 : decode cX12_init 183 = .ok (.newarray .int, 2) := by decide +kernel
theorem dX12_init_185 : decode cX12_init 185 = .ok (.putfield 83, 3) := by decide +kernel
theorem dX12_init_188 : decode cX12_init 188 = .ok (.aload_n 0, 1) := by decide +kernel
theorem dX12_init_189 : decode cX12_init 189 = .ok (.sipush 840, 3) := by decide +kernel
theorem dX12_init_192 : decode cX12_init 192 = .ok (.newarray .int, 2) := by decide +kernel
theorem dX12_init_194 : decode cX12_init 194 = .ok (.putfield 86, 3) := by decide +kernel
theorem dX12_init_197 : decode cX12_init 197 = .ok (.aload_n 0, 1) := by decide +kernel
theorem dX12_init_198 : decode cX12_init 198 = .ok (.sipush 840, 3) := by decide +kernel
theorem dX12_init_201 : decode cX12_init 201 = .ok (.newarray .int, 2) := by decide +kernel
theorem dX12_init_203 : decode cX12_init 203 = .ok (.putfield 89, 3) := by decide +kernel
theorem dX12_init_206 : decode cX12_init 206 = .ok (.aload_n 0, 1) := by decide +kernel
theorem dX12_init_207 : decode cX12_init 207 = .ok (.bipush 64, 2) := by decide +kernel
theorem dX12_init_209 : decode cX12_init 209 = .ok (.newarray .int, 2) := by decide +kernel
theorem dX12_init_211 : decode cX12_init 211 = .ok (.putfield 92, 3) := by decide +kernel
theorem dX12_init_214 : decode cX12_init 214 = .ok (.aload_n 0, 1) := by decide +kernel
theorem dX12_init_215 : decode cX12_init 215 = .ok (.bipush 7, 2) := by decide +kernel
theorem dX12_init_217 : decode cX12_init 217 = .ok (.newarray .int, 2) := by decide +kernel
theorem dX12_init_219 : decode cX12_init 219 = .ok (.putfield 95, 3) := by decide +kernel
theorem dX12_init_222 : decode cX12_init 222 = .ok (.aload_n 0, 1) := by decide +kernel
theorem dX12_init_223 : decode cX12_init 223 = .ok (.sipush 400, 3) := by decide +kernel
theorem dX12_init_226 : decode cX12_init 226 = .ok (.newarray .int, 2) := by decide +kernel
theorem dX12_init_228 : decode cX12_init 228 = .ok (.putfield 98, 3) := by decide +kernel
theorem dX12_init_231 : decode cX12_init 231 = .ok (.aload_n 0, 1) := by decide +kernel
theorem dX12_init_232 : decode cX12_init 232 = .ok (.bipush 60, 2) := by decide +kernel
theorem dX12_init_234 : decode cX12_init 234 = .ok (.newarray .int, 2) := by decide +kernel
theorem dX12_init_236 : decode cX12_init 236 = .ok (.putfield 101, 3) := by decide +kernel
theorem dX12_init_239 : decode cX12_init 239 = .ok (.aload_n 0, 1) := by decide +kernel
theorem dX12_init_240 : decode cX12_init 240 = .ok (.bipush 60, 2) := by decide +kernel
theorem dX12_init_242 : decode cX12_init 242 = .ok (.newarray .int, 2) := by decide +kernel
theorem dX12_init_244 : decode cX12_init 244 = .ok (.putfield 104, 3) := by decide +kernel
theorem dX12_init_247 : decode cX12_init 247 = .ok (.aload_n 0, 1) := by decide +kernel
theorem dX12_init_248 : decode cX12_init 248 = .ok (.bipush 10, 2) := by decide +kernel
theorem dX12_init_250 : decode cX12_init 250 = .ok (.newarray .int, 2) := by decide +kernel
theorem dX12_init_252 : decode cX12_init 252 = .ok (.putfield 107, 3) := by decide +kernel
theorem dX12_init_255 : decode cX12_init 255 = .ok (.aload_n 0, 1) := by decide +kernel
theorem dX12_init_256 : decode cX12_init 256 = .ok (.sipush 1800, 3) := by decide +kernel
theorem dX12_init_259 : decode cX12_init 259 = .ok (.newarray .int, 2) := by decide +kernel
theorem dX12_init_261 : decode cX12_init 261 = .ok (.putfield 110, 3) := by decide +kernel
theorem dX12_init_264 : decode cX12_init 264 = .ok (.aload_n 0, 1) := by decide +kernel
theorem dX12_init_265 : decode cX12_init 265 = .ok (.sipush 6321, 3) := by decide +kernel
theorem dX12_init_268 : decode cX12_init 268 = .ok (.newarray .int, 2) := by decide +kernel
theorem dX12_init_270 : decode cX12_init 270 = .ok (.putfield 113, 3) := by decide +kernel
theorem dX12_init_273 : decode cX12_init 273 = .ok (.aload_n 0, 1) := by decide +kernel
theorem dX12_init_274 : decode cX12_init 274 = .ok (.sipush 2560, 3) := by decide +kernel
theorem dX12_init_277 : decode cX12_init 277 = .ok (.newarray .int, 2) := by decide +kernel
theorem dX12_init_279 : decode cX12_init 279 = .ok (.putfield 116, 3) := by decide +kernel
theorem dX12_init_282 : decode cX12_init 282 = .ok (.aload_n 0, 1) := by decide +kernel
theorem dX12_init_283 : decode cX12_init 283 = .ok (.bipush 20, 2) := by decide +kernel
theorem dX12_init_285 : decode cX12_init 285 = .ok (.newarray .int, 2) := by decide +kernel
theorem dX12_init_287 : decode cX12_init 287 = .ok (.putfield 119, 3) := by decide +kernel
theorem dX12_init_290 : decode cX12_init 290 = .ok (.aload_n 0, 1) := by decide +kernel
theorem dX12_init_291 : decode cX12_init 291 = .ok (.bipush 20, 2) := by decide +kernel
theorem dX12_init_293 : decode cX12_init 293 = .ok (.newarray .int, 2) := by decide +kernel
theorem dX12_init_295 : decode cX12_init 295 = .ok (.putfield 122, 3) := by decide +kernel
theorem dX12_init_298 : decode cX12_init 298 = .ok (.aload_n 0, 1) := by decide +kernel
theorem dX12_init_299 : decode cX12_init 299 = .ok (.bipush 10, 2) := by decide +kernel
theorem dX12_init_301 : decode cX12_init 301 = .ok (.newarray .int, 2) := by decide +kernel
theorem dX12_init_303 : decode cX12_init 303 = .ok (.putfield 125, 3) := by decide +kernel
theorem dX12_init_306 : decode cX12_init 306 = .ok (.aload_n 0, 1) := by decide +kernel
theorem dX12_init_307 : decode cX12_init 307 = .ok (.bipush 10, 2) := by decide +kernel
theorem dX12_init_309 : decode cX12_init 309 = .ok (.newarray .int, 2) := by decide +kernel
theorem dX12_init_311 : decode cX12_init 311 = .ok (.putfield 128, 3) := by decide +kernel
theorem dX12_init_314 : decode cX12_init 314 = .ok (.aload_n 0, 1) := by decide +kernel
theorem dX12_init_315 : decode cX12_init 315 = .ok (.bipush 10, 2) := by decide +kernel
theorem dX12_init_317 : decode cX12_init 317 = .ok (.newarray .int, 2) := by decide +kernel
theorem dX12_init_319 : decode cX12_init 319 = .ok (.putfield 131, 3) := by decide +kernel
theorem dX12_init_322 : decode cX12_init 322 = .ok (.aload_n 0, 1) := by decide +kernel
theorem dX12_init_323 : decode cX12_init 323 = .ok (.iconst 3, 1) := by decide +kernel
theorem dX12_init_324 : decode cX12_init 324 = .ok (.newarray .boolean, 2) := by decide +kernel
theorem dX12_init_326 : decode cX12_init 326 = .ok (.putfield 134, 3) := by decide +kernel
theorem dX12_init_329 : decode cX12_init 329 = .ok (.aload_n 0, 1) := by decide +kernel
theorem dX12_init_330 : decode cX12_init 330 = .ok (.sipush 180, 3) := by decide +kernel
theorem dX12_init_333 : decode cX12_init 333 = .ok (.newarray .int, 2) := by decide +kernel
theorem dX12_init_335 : decode cX12_init 335 = .ok (.putfield 137, 3) := by decide +kernel
theorem dX12_init_338 : decode cX12_init 338 = .ok (.aload_n 0, 1) := by decide +kernel
theorem dX12_init_339 : decode cX12_init 339 = .ok (.getfield 59, 3) := by decide +kernel
theorem dX12_init_342 : decode cX12_init 342 = .ok (.iconst 0, 1) := by decide +kernel
theorem dX12_init_343 : decode cX12_init 343 = .ok (.bipush 7, 2) := by decide +kernel
theorem dX12_init_345 : decode cX12_init 345 = .ok (.iastore, 1) := by decide +kernel
theorem dX12_init_346 : decode cX12_init 346 = .ok (.aload_n 0, 1) := by decide +kernel
theorem dX12_init_347 : decode cX12_init 347 = .ok (.getfield 34, 3) := by decide +kernel
theorem dX12_init_350 : decode cX12_init 350 = .ok (.iconst 0, 1) := by decide +kernel
theorem dX12_init_351 : decode cX12_init 351 = .ok (.bipush 104, 2) := by decide +kernel
theorem dX12_init_353 : decode cX12_init 353 = .ok (.bipush 111, 2) := by decide +kernel
theorem dX12_init_355 : decode cX12_init 355 = .ok (.bipush 117, 2) := by decide +kernel
theorem dX12_init_357 : decode cX12_init 357 = .ok (.bipush 115, 2) := by decide +kernel
theorem dX12_init_359 : decode cX12_init 359 = .ok (.bipush 101, 2) := by decide +kernel
theorem dX12_init_361 : decode cX12_init 361 = .ok (.iconst 0, 1) := by decide +kernel
theorem dX12_init_362 : decode cX12_init 362 = .ok (.iconst 0, 1) := by decide +kernel
theorem dX12_init_363 : decode cX12_init 363 = .ok (.invokestatic 140, 3) := by decide +kernel
theorem dX12_init_366 : decode cX12_init 366 = .ok (.lastore, 1) := by decide +kernel
theorem dX12_init_367 : decode cX12_init 367 = .ok (.aload_n 0, 1) := by decide +kernel
theorem dX12_init_368 : decode cX12_init 368 = .ok (.getfield 34, 3) := by decide +kernel
theorem dX12_init_371 : decode cX12_init 371 = .ok (.iconst 1, 1) := by decide +kernel
theorem dX12_init_372 : decode cX12_init 372 = .ok (.bipush 115, 2) := by decide +kernel
theorem dX12_init_374 : decode cX12_init 374 = .ok (.bipush 116, 2) := by decide +kernel
theorem dX12_init_376 : decode cX12_init 376 = .ok (.bipush 114, 2) := by decide +kernel
theorem dX12_init_378 : decode cX12_init 378 = .ok (.bipush 101, 2) := by decide +kernel
theorem dX12_init_380 : decode cX12_init 380 = .ok (.bipush 101, 2) := by decide +kernel
theorem dX12_init_382 : decode cX12_init 382 = .ok (.bipush 116, 2) := by decide +kernel
theorem dX12_init_384 : decode cX12_init 384 = .ok (.iconst 0, 1) := by decide +kernel
theorem dX12_init_385 : decode cX12_init 385 = .ok (.invokestatic 140, 3) := by decide +kernel
theorem dX12_init_388 : decode cX12_init 388 = .ok (.lastore, 1) := by decide +kernel
theorem dX12_init_389 : decode cX12_init 389 = .ok (.aload_n 0, 1) := by decide +kernel
theorem dX12_init_390 : decode cX12_init 390 = .ok (.getfield 34, 3) := by decide +kernel
theorem dX12_init_393 : decode cX12_init 393 = .ok (.iconst 2, 1) := by decide +kernel
theorem dX12_init_394 : decode cX12_init 394 = .ok (.bipush 116, 2) := by decide +kernel
theorem dX12_init_396 : decode cX12_init 396 = .ok (.bipush 117, 2) := by decide +kernel
theorem dX12_init_398 : decode cX12_init 398 = .ok (.bipush 114, 2) := by decide +kernel
theorem dX12_init_400 : decode cX12_init 400 = .ok (.bipush 110, 2) := by decide +kernel
theorem dX12_init_402 : decode cX12_init 402 = .ok (.bipush 115, 2) := by decide +kernel
theorem dX12_init_404 : decode cX12_init 404 = .ok (.iconst 0, 1) := by decide +kernel
theorem dX12_init_405 : decode cX12_init 405 = .ok (.iconst 0, 1) := by decide +kernel
theorem dX12_init_406 : decode cX12_init 406 = .ok (.invokestatic 140, 3) := by decide +kernel
theorem dX12_init_409 : decode cX12_init 409 = .ok (.lastore, 1) := by decide +kernel
theorem dX12_init_410 : decode cX12_init 410 = .ok (.aload_n 0, 1) := by decide +kernel
theorem dX12_init_411 : decode cX12_init 411 = .ok (.getfield 34, 3) := by decide +kernel
theorem dX12_init_414 : decode cX12_init 414 = .ok (.iconst 3, 1) := by decide +kernel
theorem dX12_init_415 : decode cX12_init 415 = .ok (.bipush 112, 2) := by decide +kernel
theorem dX12_init_417 : decode cX12_init 417 = .ok (.bipush 97, 2) := by decide +kernel
theorem dX12_init_419 : decode cX12_init 419 = .ok (.bipush 121, 2) := by decide +kernel
theorem dX12_init_421 : decode cX12_init 421 = .ok (.bipush 115, 2) := by decide +kernel
theorem dX12_init_423 : decode cX12_init 423 = .ok (.iconst 0, 1) := by decide +kernel
theorem dX12_init_424 : decode cX12_init 424 = .ok (.iconst 0, 1) := by decide +kernel
theorem dX12_init_425 : decode cX12_init 425 = .ok (.iconst 0, 1) := by decide +kernel
theorem dX12_init_426 : decode cX12_init 426 = .ok (.invokestatic 140, 3) := by decide +kernel
theorem dX12_init_429 : decode cX12_init 429 = .ok (.lastore, 1) := by decide +kernel
theorem dX12_init_430 : decode cX12_init 430 = .ok (.aload_n 0, 1) := by decide +kernel
theorem dX12_init_431 : decode cX12_init 431 = .ok (.getfield 34, 3) := by decide +kernel
theorem dX12_init_434 : decode cX12_init 434 = .ok (.iconst 4, 1) := by decide +kernel
theorem dX12_init_435 : decode cX12_init 435 = .ok (.bipush 101, 2) := by decide +kernel
theorem dX12_init_437 : decode cX12_init 437 = .ok (.bipush 97, 2) := by decide +kernel
theorem dX12_init_439 : decode cX12_init 439 = .ok (.bipush 114, 2) := by decide +kernel
theorem dX12_init_441 : decode cX12_init 441 = .ok (.bipush 110, 2) := by decide +kernel
theorem dX12_init_443 : decode cX12_init 443 = .ok (.bipush 115, 2) := by decide +kernel
theorem dX12_init_445 : decode cX12_init 445 = .ok (.iconst 0, 1) := by decide +kernel
theorem dX12_init_446 : decode cX12_init 446 = .ok (.iconst 0, 1) := by decide +kernel
theorem dX12_init_447 : decode cX12_init 447 = .ok (.invokestatic 140, 3) := by decide +kernel
theorem dX12_init_450 : decode cX12_init 450 = .ok (.lastore, 1) := by decide +kernel
theorem dX12_init_451 : decode cX12_init 451 = .ok (.aload_n 0, 1) := by decide +kernel
theorem dX12_init_452 : decode cX12_init 452 = .ok (.getfield 34, 3) := by decide +kernel
theorem dX12_init_455 : decode cX12_init 455 = .ok (.iconst 5, 1) := by decide +kernel
theorem dX12_init_456 : decode cX12_init 456 = .ok (.bipush 115, 2) := by decide +kernel
theorem dX12_init_458 : decode cX12_init 458 = .ok (.bipush 104, 2) := by decide +kernel
theorem dX12_init_460 : decode cX12_init 460 = .ok (.bipush 97, 2) := by decide +kernel
theorem dX12_init_462 : decode cX12_init 462 = .ok (.bipush 114, 2) := by decide +kernel
theorem dX12_init_464 : decode cX12_init 464 = .ok (.bipush 101, 2) := by decide +kernel
theorem dX12_init_466 : decode cX12_init 466 = .ok (.bipush 100, 2) := by decide +kernel
theorem dX12_init_468 : decode cX12_init 468 = .ok (.iconst 0, 1) := by decide +kernel
theorem dX12_init_469 : decode cX12_init 469 = .ok (.invokestatic 140, 3) := by decide +kernel
theorem dX12_init_472 : decode cX12_init 472 = .ok (.lastore, 1) := by decide +kernel
theorem dX12_init_473 : decode cX12_init 473 = .ok (.aload_n 0, 1) := by decide +kernel
theorem dX12_init_474 : decode cX12_init 474 = .ok (.getfield 34, 3) := by decide +kernel
theorem dX12_init_477 : decode cX12_init 477 = .ok (.bipush 6, 2) := by decide +kernel
theorem dX12_init_479 : decode cX12_init 479 = .ok (.bipush 97, 2) := by decide +kernel
theorem dX12_init_481 : decode cX12_init 481 = .ok (.bipush 108, 2) := by decide +kernel
theorem dX12_init_483 : decode cX12_init 483 = .ok (.bipush 105, 2) := by decide +kernel
theorem dX12_init_485 : decode cX12_init 485 = .ok (.bipush 107, 2) := by decide +kernel
theorem dX12_init_487 : decode cX12_init 487 = .ok (.bipush 101, 2) := by decide +kernel
theorem dX12_init_489 : decode cX12_init 489 = .ok (.iconst 0, 1) := by decide +kernel
theorem dX12_init_490 : decode cX12_init 490 = .ok (.iconst 0, 1) := by decide +kernel
theorem dX12_init_491 : decode cX12_init 491 = .ok (.invokestatic 140, 3) := by decide +kernel
theorem dX12_init_494 : decode cX12_init 494 = .ok (.lastore, 1) := by decide +kernel
theorem dX12_init_495 : decode cX12_init 495 = .ok (.aload_n 0, 1) := by decide +kernel
theorem dX12_init_496 : decode cX12_init 496 = .ok (.getfield 34, 3) := by decide +kernel
theorem dX12_init_499 : decode cX12_init 499 = .ok (.bipush 7, 2) := by decide +kernel
theorem dX12_init_501 : decode cX12_init 501 = .ok (.bipush 109, 2) := by decide +kernel
theorem dX12_init_503 : decode cX12_init 503 = .ok (.bipush 111, 2) := by decide +kernel
theorem dX12_init_505 : decode cX12_init 505 = .ok (.bipush 115, 2) := by decide +kernel
theorem dX12_init_507 : decode cX12_init 507 = .ok (.bipush 116, 2) := by decide +kernel
theorem dX12_init_509 : decode cX12_init 509 = .ok (.iconst 0, 1) := by decide +kernel
theorem dX12_init_510 : decode cX12_init 510 = .ok (.iconst 0, 1) := by decide +kernel
theorem dX12_init_511 : decode cX12_init 511 = .ok (.iconst 0, 1) := by decide +kernel
theorem dX12_init_512 : decode cX12_init 512 = .ok (.invokestatic 140, 3) := by decide +kernel
theorem dX12_init_515 : decode cX12_init 515 = .ok (.lastore, 1) := by decide +kernel
theorem dX12_init_516 : decode cX12_init 516 = .ok (.aload_n 0, 1) := by decide +kernel
theorem dX12_init_517 : decode cX12_init 517 = .ok (.getfield 34, 3) := by decide +kernel
theorem dX12_init_520 : decode cX12_init 520 = .ok (.bipush 8, 2) := by decide +kernel
theorem dX12_init_522 : decode cX12_init 522 = .ok (.bipush 114, 2) := by decide +kernel
theorem dX12_init_524 : decode cX12_init 524 = .ok (.bipush 111, 2) := by decide +kernel
theorem dX12_init_526 : decode cX12_init 526 = .ok (.bipush 117, 2) := by decide +kernel
theorem dX12_init_528 : decode cX12_init 528 = .ok (.bipush 110, 2) := by decide +kernel
theorem dX12_init_530 : decode cX12_init 530 = .ok (.bipush 100, 2) := by decide +kernel
theorem dX12_init_532 : decode cX12_init 532 = .ok (.iconst 0, 1) := by decide +kernel
theorem dX12_init_533 : decode cX12_init 533 = .ok (.iconst 0, 1) := by decide +kernel
theorem dX12_init_534 : decode cX12_init 534 = .ok (.invokestatic 140, 3) := by decide +kernel
theorem dX12_init_537 : decode cX12_init 537 = .ok (.lastore, 1) := by decide +kernel
theorem dX12_init_538 : decode cX12_init 538 = .ok (.aload_n 0, 1) := by decide +kernel
theorem dX12_init_539 : decode cX12_init 539 = .ok (.getfield 34, 3) := by decide +kernel
theorem dX12_init_542 : decode cX12_init 542 = .ok (.bipush 9, 2) := by decide +kernel
theorem dX12_init_544 : decode cX12_init 544 = .ok (.bipush 115, 2) := by decide +kernel
theorem dX12_init_546 : decode cX12_init 546 = .ok (.bipush 101, 2) := by decide +kernel
theorem dX12_init_548 : decode cX12_init 548 = .ok (.bipush 101, 2) := by decide +kernel
theorem dX12_init_550 : decode cX12_init 550 = .ok (.bipush 100, 2) := by decide +kernel
theorem dX12_init_552 : decode cX12_init 552 = .ok (.iconst 0, 1) := by decide +kernel
theorem dX12_init_553 : decode cX12_init 553 = .ok (.iconst 0, 1) := by decide +kernel
theorem dX12_init_554 : decode cX12_init 554 = .ok (.iconst 0, 1) := by decide +kernel
theorem dX12_init_555 : decode cX12_init 555 = .ok (.invokestatic 140, 3) := by decide +kernel
theorem dX12_init_558 : decode cX12_init 558 = .ok (.lastore, 1) := by decide +kernel
theorem dX12_init_559 : decode cX12_init 559 = .ok (.aload_n 0, 1) := by decide +kernel
theorem dX12_init_560 : decode cX12_init 560 = .ok (.getfield 34, 3) := by decide +kernel
theorem dX12_init_563 : decode cX12_init 563 = .ok (.bipush 10, 2) := by decide +kernel
theorem dX12_init_565 : decode cX12_init 565 = .ok (.bipush 105, 2) := by decide +kernel
theorem dX12_init_567 : decode cX12_init 567 = .ok (.bipush 102, 2) := by decide +kernel
theorem dX12_init_569 : decode cX12_init 569 = .ok (.iconst 0, 1) := by decide +kernel
theorem dX12_init_570 : decode cX12_init 570 = .ok (.iconst 0, 1) := by decide +kernel
theorem dX12_init_571 : decode cX12_init 571 = .ok (.iconst 0, 1) := by decide +kernel
theorem dX12_init_572 : decode cX12_init 572 = .ok (.iconst 0, 1) := by decide +kernel
theorem dX12_init_573 : decode cX12_init 573 = .ok (.iconst 0, 1) := by decide +kernel
theorem dX12_init_574 : decode cX12_init 574 = .ok (.invokestatic 140, 3) := by decide +kernel
theorem dX12_init_577 : decode cX12_init 577 = .ok (.lastore, 1) := by decide +kernel
theorem dX12_init_578 : decode cX12_init 578 = .ok (.aload_n 0, 1) := by decide +kernel
theorem dX12_init_579 : decode cX12_init 579 = .ok (.getfield 34, 3) := by decide +kernel
theorem dX12_init_582 : decode cX12_init 582 = .ok (.bipush 11, 2) := by decide +kernel
theorem dX12_init_584 : decode cX12_init 584 = .ok (.bipush 116, 2) := by decide +kernel
theorem dX12_init_586 : decode cX12_init 586 = .ok (.bipush 104, 2) := by decide +kernel
theorem dX12_init_588 : decode cX12_init 588 = .ok (.bipush 101, 2) := by decide +kernel
theorem dX12_init_590 : decode cX12_init 590 = .ok (.bipush 110, 2) := by decide +kernel
theorem dX12_init_592 : decode cX12_init 592 = .ok (.iconst 0, 1) := by decide +kernel
theorem dX12_init_593 : decode cX12_init 593 = .ok (.iconst 0, 1) := by decide +kernel
theorem dX12_init_594 : decode cX12_init 594 = .ok (.iconst 0, 1) := by decide +kernel
theorem dX12_init_595 : decode cX12_init 595 = .ok (.invokestatic 140, 3) := by decide +kernel
theorem dX12_init_598 : decode cX12_init 598 = .ok (.lastore, 1) := by decide +kernel
theorem dX12_init_599 : decode cX12_init 599 = .ok (.aload_n 0, 1) := by decide +kernel
theorem dX12_init_600 : decode cX12_init 600 = .ok (.getfield 34, 3) := by decide +kernel
theorem dX12_init_603 : decode cX12_init 603 = .ok (.bipush 12, 2) := by decide +kernel
theorem dX12_init_605 : decode cX12_init 605 = .ok (.bipush 101, 2) := by decide +kernel
theorem dX12_init_607 : decode cX12_init 607 = .ok (.bipush 108, 2) := by decide +kernel
theorem dX12_init_609 : decode cX12_init 609 = .ok (.bipush 115, 2) := by decide +kernel
theorem dX12_init_611 : decode cX12_init 611 = .ok (.bipush 101, 2) := by decide +kernel
theorem dX12_init_613 : decode cX12_init 613 = .ok (.iconst 0, 1) := by decide +kernel
theorem dX12_init_614 : decode cX12_init 614 = .ok (.iconst 0, 1) := by decide +kernel
theorem dX12_init_615 : decode cX12_init 615 = .ok (.iconst 0, 1) := by decide +kernel
theorem dX12_init_616 : decode cX12_init 616 = .ok (.invokestatic 140, 3) := by decide +kernel
theorem dX12_init_619 : decode cX12_init 619 = .ok (.lastore, 1) := by decide +kernel
theorem dX12_init_620 : decode cX12_init 620 = .ok (.aload_n 0, 1) := by decide +kernel
theorem dX12_init_621 : decode cX12_init 621 = .ok (.getfield 34, 3) := by decide +kernel
theorem dX12_init_624 : decode cX12_init 624 = .ok (.bipush 13, 2) := by decide +kernel
theorem dX12_init_626 : decode cX12_init 626 = .ok (.bipush 108, 2) := by decide +kernel
theorem dX12_init_628 : decode cX12_init 628 = .ok (.bipush 101, 2) := by decide +kernel
theorem dX12_init_630 : decode cX12_init 630 = .ok (.bipush 102, 2) := by decide +kernel
theorem dX12_init_632 : decode cX12_init 632 = .ok (.bipush 116, 2) := by decide +kernel
theorem dX12_init_634 : decode cX12_init 634 = .ok (.iconst 0, 1) := by decide +kernel
theorem dX12_init_635 : decode cX12_init 635 = .ok (.iconst 0, 1) := by decide +kernel
theorem dX12_init_636 : decode cX12_init 636 = .ok (.iconst 0, 1) := by decide +kernel
theorem dX12_init_637 : decode cX12_init 637 = .ok (.invokestatic 140, 3) := by decide +kernel
theorem dX12_init_640 : decode cX12_init 640 = .ok (.lastore, 1) := by decide +kernel
theorem dX12_init_641 : decode cX12_init 641 = .ok (.aload_n 0, 1) := by decide +kernel
theorem dX12_init_642 : decode cX12_init 642 = .ok (.getfield 34, 3) := by decide +kernel
theorem dX12_init_645 : decode cX12_init 645 = .ok (.bipush 14, 2) := by decide +kernel
theorem dX12_init_647 : decode cX12_init 647 = .ok (.bipush 114, 2) := by decide +kernel
theorem dX12_init_649 : decode cX12_init 649 = .ok (.bipush 105, 2) := by decide +kernel
theorem dX12_init_651 : decode cX12_init 651 = .ok (.bipush 103, 2) := by decide +kernel
theorem dX12_init_653 : decode cX12_init 653 = .ok (.bipush 104, 2) := by decide +kernel
theorem dX12_init_655 : decode cX12_init 655 = .ok (.bipush 116, 2) := by decide +kernel
theorem dX12_init_657 : decode cX12_init 657 = .ok (.iconst 0, 1) := by decide +kernel
theorem dX12_init_658 : decode cX12_init 658 = .ok (.iconst 0, 1) := by decide +kernel
theorem dX12_init_659 : decode cX12_init 659 = .ok (.invokestatic 140, 3) := by decide +kernel
theorem dX12_init_662 : decode cX12_init 662 = .ok (.lastore, 1) := by decide +kernel
theorem dX12_init_663 : decode cX12_init 663 = .ok (.aload_n 0, 1) := by decide +kernel
theorem dX12_init_664 : decode cX12_init 664 = .ok (.getfield 34, 3) := by decide +kernel
theorem dX12_init_667 : decode cX12_init 667 = .ok (.bipush 15, 2) := by decide +kernel
theorem dX12_init_669 : decode cX12_init 669 = .ok (.bipush 111, 2) := by decide +kernel
theorem dX12_init_671 : decode cX12_init 671 = .ok (.bipush 119, 2) := by decide +kernel
theorem dX12_init_673 : decode cX12_init 673 = .ok (.bipush 110, 2) := by decide +kernel
theorem dX12_init_675 : decode cX12_init 675 = .ok (.iconst 0, 1) := by decide +kernel
theorem dX12_init_676 : decode cX12_init 676 = .ok (.iconst 0, 1) := by decide +kernel
theorem dX12_init_677 : decode cX12_init 677 = .ok (.iconst 0, 1) := by decide +kernel
theorem dX12_init_678 : decode cX12_init 678 = .ok (.iconst 0, 1) := by decide +kernel
theorem dX12_init_679 : decode cX12_init 679 = .ok (.invokestatic 140, 3) := by decide +kernel
theorem dX12_init_682 : decode cX12_init 682 = .ok (.lastore, 1) := by decide +kernel
theorem dX12_init_683 : decode cX12_init 683 = .ok (.aload_n 0, 1) := by decide +kernel
theorem dX12_init_684 : decode cX12_init 684 = .ok (.getfield 34, 3) := by decide +kernel
theorem dX12_init_687 : decode cX12_init 687 = .ok (.bipush 16, 2) := by decide +kernel
theorem dX12_init_689 : decode cX12_init 689 = .ok (.bipush 103, 2) := by decide +kernel
theorem dX12_init_691 : decode cX12_init 691 = .ok (.bipush 97, 2) := by decide +kernel
theorem dX12_init_693 : decode cX12_init 693 = .ok (.bipush 112, 2) := by decide +kernel
theorem dX12_init_695 : decode cX12_init 695 = .ok (.iconst 0, 1) := by decide +kernel
theorem dX12_init_696 : decode cX12_init 696 = .ok (.iconst 0, 1) := by decide +kernel
theorem dX12_init_697 : decode cX12_init 697 = .ok (.iconst 0, 1) := by decide +kernel
theorem dX12_init_698 : decode cX12_init 698 = .ok (.iconst 0, 1) := by decide +kernel
theorem dX12_init_699 : decode cX12_init 699 = .ok (.invokestatic 140, 3) := by decide +kernel
theorem dX12_init_702 : decode cX12_init 702 = .ok (.lastore, 1) := by decide +kernel
theorem dX12_init_703 : decode cX12_init 703 = .ok (.aload_n 0, 1) := by decide +kernel
theorem dX12_init_704 : decode cX12_init 704 = .ok (.getfield 34, 3) := by decide +kernel
theorem dX12_init_707 : decode cX12_init 707 = .ok (.bipush 17, 2) := by decide +kernel
theorem dX12_init_709 : decode cX12_init 709 = .ok (.bipush 100, 2) := by decide +kernel
theorem dX12_init_711 : decode cX12_init 711 = .ok (.bipush 97, 2) := by decide +kernel
theorem dX12_init_713 : decode cX12_init 713 = .ok (.bipush 121, 2) := by decide +kernel
theorem dX12_init_715 : decode cX12_init 715 = .ok (.iconst 0, 1) := by decide +kernel
theorem dX12_init_716 : decode cX12_init 716 = .ok (.iconst 0, 1) := by decide +kernel
theorem dX12_init_717 : decode cX12_init 717 = .ok (.iconst 0, 1) := by decide +kernel
theorem dX12_init_718 : decode cX12_init 718 = .ok (.iconst 0, 1) := by decide +kernel
theorem dX12_init_719 : decode cX12_init 719 = .ok (.invokestatic 140, 3) := by decide +kernel
theorem dX12_init_722 : decode cX12_init 722 = .ok (.lastore, 1) := by decide +kernel
theorem dX12_init_723 : decode cX12_init 723 = .ok (.aload_n 0, 1) := by decide +kernel
theorem dX12_init_724 : decode cX12_init 724 = .ok (.getfield 34, 3) := by decide +kernel
theorem dX12_init_727 : decode cX12_init 727 = .ok (.bipush 18, 2) := by decide +kernel
theorem dX12_init_729 : decode cX12_init 729 = .ok (.bipush 108, 2) := by decide +kernel
theorem dX12_init_731 : decode cX12_init 731 = .ok (.bipush 111, 2) := by decide +kernel
theorem dX12_init_733 : decode cX12_init 733 = .ok (.bipush 116, 2) := by decide +kernel
theorem dX12_init_735 : decode cX12_init 735 = .ok (.iconst 0, 1) := by decide +kernel
theorem dX12_init_736 : decode cX12_init 736 = .ok (.iconst 0, 1) := by decide +kernel
theorem dX12_init_737 : decode cX12_init 737 = .ok (.iconst 0, 1) := by decide +kernel
theorem dX12_init_738 : decode cX12_init 738 = .ok (.iconst 0, 1) := by decide +kernel
theorem dX12_init_739 : decode cX12_init 739 = .ok (.invokestatic 140, 3) := by decide +kernel
theorem dX12_init_742 : decode cX12_init 742 = .ok (.lastore, 1) := by decide +kernel
theorem dX12_init_743 : decode cX12_init 743 = .ok (.aload_n 0, 1) := by decide +kernel
theorem dX12_init_744 : decode cX12_init 744 = .ok (.getfield 34, 3) := by decide +kernel
theorem dX12_init_747 : decode cX12_init 747 = .ok (.bipush 19, 2) := by decide +kernel
theorem dX12_init_749 : decode cX12_init 749 = .ok (.bipush 112, 2) := by decide +kernel
theorem dX12_init_751 : decode cX12_init 751 = .ok (.bipush 111, 2) := by decide +kernel
theorem dX12_init_753 : decode cX12_init 753 = .ok (.bipush 116, 2) := by decide +kernel
theorem dX12_init_755 : decode cX12_init 755 = .ok (.iconst 0, 1) := by decide +kernel
theorem dX12_init_756 : decode cX12_init 756 = .ok (.iconst 0, 1) := by decide +kernel
theorem dX12_init_757 : decode cX12_init 757 = .ok (.iconst 0, 1) := by decide +kernel
theorem dX12_init_758 : decode cX12_init 758 = .ok (.iconst 0, 1) := by decide +kernel
theorem dX12_init_759 : decode cX12_init 759 = .ok (.invokestatic 140, 3) := by decide +kernel
theorem dX12_init_762 : decode cX12_init 762 = .ok (.lastore, 1) := by decide +kernel
theorem dX12_init_763 : decode cX12_init 763 = .ok (.return_, 1) := by decide +kernel
theorem dX12_feed_0 : decode cX12_feed 0 = .ok (.aload_n 0, 1) := by decide +kernel
theorem dX12_feed_1 : decode cX12_feed 1 = .ok (.getfield 144, 3) := by decide +kernel
theorem dX12_feed_4 : decode cX12_feed 4 = .ok (.bipush 20, 2) := by decide +kernel
theorem dX12_feed_6 : decode cX12_feed 6 = .ok (.iadd, 1) := by decide +kernel
theorem dX12_feed_7 : decode cX12_feed 7 = .ok (.sipush 2000, 3) := by decide +kernel
theorem dX12_feed_10 : decode cX12_feed 10 = .ok (.if_icmp .le 5, 3) := by decide +kernel
theorem dX12_feed_13 : decode cX12_feed 13 = .ok (.iconst (-1), 1) := by decide +kernel
theorem dX12_feed_14 : decode cX12_feed 14 = .ok (.ireturn, 1) := by decide +kernel
theorem dX12_feed_15 : decode cX12_feed 15 = .ok (.aload_n 0, 1) := by decide +kernel
theorem dX12_feed_16 : decode cX12_feed 16 = .ok (.iload_n 1, 1) := by decide +kernel
theorem dX12_feed_17 : decode cX12_feed 17 = .ok (.invokevirtual 147, 3) := by decide +kernel
theorem dX12_feed_20 : decode cX12_feed 20 = .ok (.aload_n 0, 1) := by decide +kernel
theorem dX12_feed_21 : decode cX12_feed 21 = .ok (.iload_n 2, 1) := by decide +kernel
theorem dX12_feed_22 : decode cX12_feed 22 = .ok (.invokevirtual 147, 3) := by decide +kernel
theorem dX12_feed_25 : decode cX12_feed 25 = .ok (.aload_n 0, 1) := by decide +kernel
theorem dX12_feed_26 : decode cX12_feed 26 = .ok (.iload_n 3, 1) := by decide +kernel
theorem dX12_feed_27 : decode cX12_feed 27 = .ok (.invokevirtual 147, 3) := by decide +kernel
theorem dX12_feed_30 : decode cX12_feed 30 = .ok (.aload_n 0, 1) := by decide +kernel
theorem dX12_feed_31 : decode cX12_feed 31 = .ok (.iload 4, 2) := by decide +kernel
theorem dX12_feed_33 : decode cX12_feed 33 = .ok (.invokevirtual 147, 3) := by decide +kernel
theorem dX12_feed_36 : decode cX12_feed 36 = .ok (.aload_n 0, 1) := by decide +kernel
theorem dX12_feed_37 : decode cX12_feed 37 = .ok (.iload 5, 2) := by decide +kernel
theorem dX12_feed_39 : decode cX12_feed 39 = .ok (.invokevirtual 147, 3) := by decide +kernel
theorem dX12_feed_42 : decode cX12_feed 42 = .ok (.aload_n 0, 1) := by decide +kernel
theorem dX12_feed_43 : decode cX12_feed 43 = .ok (.getfield 144, 3) := by decide +kernel
theorem dX12_feed_46 : decode cX12_feed 46 = .ok (.ireturn, 1) := by decide +kernel
theorem dX12_put_0 : decode cX12_put 0 = .ok (.bipush 24, 2) := by decide +kernel
theorem dX12_put_2 : decode cX12_put 2 = .ok (.istore_n 2, 1) := by decide +kernel
theorem dX12_put_3 : decode cX12_put 3 = .ok (.iload_n 2, 1) := by decide +kernel
theorem dX12_put_4 : decode cX12_put 4 = .ok (.ifCond .lt 32, 3) := by decide +kernel
theorem dX12_put_7 : decode cX12_put 7 = .ok (.aload_n 0, 1) := by decide +kernel
theorem dX12_put_8 : decode cX12_put 8 = .ok (.getfield 13, 3) := by decide +kernel
theorem dX12_put_11 : decode cX12_put 11 = .ok (.aload_n 0, 1) := by decide +kernel
theorem dX12_put_12 : decode cX12_put 12 = .ok (.getfield 144, 3) := by decide +kernel
theorem dX12_put_15 : decode cX12_put 15 = .ok (.iload_n 1, 1) := by decide +kernel
theorem dX12_put_16 : decode cX12_put 16 = .ok (.iload_n 2, 1) := by decide +kernel
theorem dX12_put_17 : decode cX12_put 17 = .ok (.ishr, 1) := by decide +kernel
theorem dX12_put_18 : decode cX12_put 18 = .ok (.i2b, 1) := by decide +kernel
theorem dX12_put_19 : decode cX12_put 19 = .ok (.bastore, 1) := by decide +kernel
theorem dX12_put_20 : decode cX12_put 20 = .ok (.aload_n 0, 1) := by decide +kernel
theorem dX12_put_21 : decode cX12_put 21 = .ok (.dup, 1) := by decide +kernel
theorem dX12_put_22 : decode cX12_put 22 = .ok (.getfield 144, 3) := by decide +kernel
theorem dX12_put_25 : decode cX12_put 25 = .ok (.iconst 1, 1) := by decide +kernel
theorem dX12_put_26 : decode cX12_put 26 = .ok (.iadd, 1) := by decide +kernel
theorem dX12_put_27 : decode cX12_put 27 = .ok (.putfield 144, 3) := by decide +kernel
theorem dX12_put_30 : decode cX12_put 30 = .ok (.iinc 2 (-8), 3) := by decide +kernel
theorem dX12_put_33 : decode cX12_put 33 = .ok (.goto (-30), 3) := by decide +kernel
theorem dX12_put_36 : decode cX12_put 36 = .ok (.return_, 1) := by decide +kernel
theorem dX12_back_0 : decode cX12_back 0 = .ok (.iload_n 1, 1) := by decide +kernel
theorem dX12_back_1 : decode cX12_back 1 = .ok (.ifCond .lt 11, 3) := by decide +kernel
theorem dX12_back_4 : decode cX12_back 4 = .ok (.iload_n 1, 1) := by decide +kernel
theorem dX12_back_5 : decode cX12_back 5 = .ok (.aload_n 0, 1) := by decide +kernel
theorem dX12_back_6 : decode cX12_back 6 = .ok (.getfield 144, 3) := by decide +kernel
theorem dX12_back_9 : decode cX12_back 9 = .ok (.if_icmp .le 5, 3) := by decide +kernel
theorem dX12_back_12 : decode cX12_back 12 = .ok (.iconst (-1), 1) := by decide +kernel
theorem dX12_back_13 : decode cX12_back 13 = .ok (.ireturn, 1) := by decide +kernel
theorem dX12_back_14 : decode cX12_back 14 = .ok (.aload_n 0, 1) := by decide +kernel
theorem dX12_back_15 : decode cX12_back 15 = .ok (.dup, 1) := by decide +kernel
theorem dX12_back_16 : decode cX12_back 16 = .ok (.getfield 144, 3) := by decide +kernel
theorem dX12_back_19 : decode cX12_back 19 = .ok (.iload_n 1, 1) := by decide +kernel
theorem dX12_back_20 : decode cX12_back 20 = .ok (.isub, 1) := by decide +kernel
theorem dX12_back_21 : decode cX12_back 21 = .ok (.putfield 144, 3) := by decide +kernel
theorem dX12_back_24 : decode cX12_back 24 = .ok (.aload_n 0, 1) := by decide +kernel
theorem dX12_back_25 : decode cX12_back 25 = .ok (.getfield 144, 3) := by decide +kernel
theorem dX12_back_28 : decode cX12_back 28 = .ok (.ireturn, 1) := by decide +kernel
theorem dX12_byteAt_0 : decode cX12_byteAt 0 = .ok (.iload_n 1, 1) := by decide +kernel
theorem dX12_byteAt_1 : decode cX12_byteAt 1 = .ok (.aload_n 0, 1) := by decide +kernel
theorem dX12_byteAt_2 : decode cX12_byteAt 2 = .ok (.getfield 151, 3) := by decide +kernel
theorem dX12_byteAt_5 : decode cX12_byteAt 5 = .ok (.if_icmp .ge 16, 3) := by decide +kernel
theorem dX12_byteAt_8 : decode cX12_byteAt 8 = .ok (.aload_n 0, 1) := by decide +kernel
theorem dX12_byteAt_9 : decode cX12_byteAt 9 = .ok (.getfield 17, 3) := by decide +kernel
theorem dX12_byteAt_12 : decode cX12_byteAt 12 = .ok (.iload_n 1, 1) := by decide +kernel
theorem dX12_byteAt_13 : decode cX12_byteAt 13 = .ok (.baload, 1) := by decide +kernel
theorem dX12_byteAt_14 : decode cX12_byteAt 14 = .ok (.sipush 255, 3) := by decide +kernel
theorem dX12_byteAt_17 : decode cX12_byteAt 17 = .ok (.iand, 1) := by decide +kernel
theorem dX12_byteAt_18 : decode cX12_byteAt 18 = .ok (.goto 4, 3) := by decide +kernel
theorem dX12_byteAt_21 : decode cX12_byteAt 21 = .ok (.iconst 0, 1) := by decide +kernel
theorem dX12_byteAt_22 : decode cX12_byteAt 22 = .ok (.ireturn, 1) := by decide +kernel
theorem dX12_isDigit_0 : decode cX12_isDigit 0 = .ok (.iload_n 0, 1) := by decide +kernel
theorem dX12_isDigit_1 : decode cX12_isDigit 1 = .ok (.bipush 48, 2) := by decide +kernel
theorem dX12_isDigit_3 : decode cX12_isDigit 3 = .ok (.if_icmp .lt 13, 3) := by decide +kernel
theorem dX12_isDigit_6 : decode cX12_isDigit 6 = .ok (.iload_n 0, 1) := by decide +kernel
theorem dX12_isDigit_7 : decode cX12_isDigit 7 = .ok (.bipush 57, 2) := by decide +kernel
theorem dX12_isDigit_9 : decode cX12_isDigit 9 = .ok (.if_icmp .gt 7, 3) := by decide +kernel
theorem dX12_isDigit_12 : decode cX12_isDigit 12 = .ok (.iconst 1, 1) := by decide +kernel
theorem dX12_isDigit_13 : decode cX12_isDigit 13 = .ok (.goto 4, 3) := by decide +kernel
theorem dX12_isDigit_16 : decode cX12_isDigit 16 = .ok (.iconst 0, 1) := by decide +kernel
theorem dX12_isDigit_17 : decode cX12_isDigit 17 = .ok (.ireturn, 1) := by decide +kernel
theorem dX12_isLetter_0 : decode cX12_isLetter 0 = .ok (.iload_n 0, 1) := by decide +kernel
theorem dX12_isLetter_1 : decode cX12_isLetter 1 = .ok (.bipush 97, 2) := by decide +kernel
theorem dX12_isLetter_3 : decode cX12_isLetter 3 = .ok (.if_icmp .lt 13, 3) := by decide +kernel
theorem dX12_isLetter_6 : decode cX12_isLetter 6 = .ok (.iload_n 0, 1) := by decide +kernel
theorem dX12_isLetter_7 : decode cX12_isLetter 7 = .ok (.bipush 122, 2) := by decide +kernel
theorem dX12_isLetter_9 : decode cX12_isLetter 9 = .ok (.if_icmp .gt 7, 3) := by decide +kernel
theorem dX12_isLetter_12 : decode cX12_isLetter 12 = .ok (.iconst 1, 1) := by decide +kernel
theorem dX12_isLetter_13 : decode cX12_isLetter 13 = .ok (.goto 4, 3) := by decide +kernel
theorem dX12_isLetter_16 : decode cX12_isLetter 16 = .ok (.iconst 0, 1) := by decide +kernel
theorem dX12_isLetter_17 : decode cX12_isLetter 17 = .ok (.ireturn, 1) := by decide +kernel
theorem dX12_appends_0 : decode cX12_appends 0 = .ok (.iload_n 2, 1) := by decide +kernel
theorem dX12_appends_1 : decode cX12_appends 1 = .ok (.ifCond .ne 7, 3) := by decide +kernel
theorem dX12_appends_4 : decode cX12_appends 4 = .ok (.lload_n 0, 1) := by decide +kernel
theorem dX12_appends_5 : decode cX12_appends 5 = .ok (.goto 16, 3) := by decide +kernel
theorem dX12_appends_8 : decode cX12_appends 8 = .ok (.ldc2_w 154, 3) := by decide +kernel
theorem dX12_appends_11 : decode cX12_appends 11 = .ok (.lload_n 0, 1) := by decide +kernel
theorem dX12_appends_12 : decode cX12_appends 12 = .ok (.lmul, 1) := by decide +kernel
theorem dX12_appends_13 : decode cX12_appends 13 = .ok (.iload_n 2, 1) := by decide +kernel
theorem dX12_appends_14 : decode cX12_appends 14 = .ok (.bipush 97, 2) := by decide +kernel
theorem dX12_appends_16 : decode cX12_appends 16 = .ok (.isub, 1) := by decide +kernel
theorem dX12_appends_17 : decode cX12_appends 17 = .ok (.iconst 1, 1) := by decide +kernel
theorem dX12_appends_18 : decode cX12_appends 18 = .ok (.iadd, 1) := by decide +kernel
theorem dX12_appends_19 : decode cX12_appends 19 = .ok (.i2l, 1) := by decide +kernel
theorem dX12_appends_20 : decode cX12_appends 20 = .ok (.ladd, 1) := by decide +kernel
theorem dX12_appends_21 : decode cX12_appends 21 = .ok (.lreturn, 1) := by decide +kernel
theorem dX12_word_0 : decode cX12_word 0 = .ok (.lconst 0, 1) := by decide +kernel
theorem dX12_word_1 : decode cX12_word 1 = .ok (.iload_n 0, 1) := by decide +kernel
theorem dX12_word_2 : decode cX12_word 2 = .ok (.invokestatic 156, 3) := by decide +kernel
theorem dX12_word_5 : decode cX12_word 5 = .ok (.iload_n 1, 1) := by decide +kernel
theorem dX12_word_6 : decode cX12_word 6 = .ok (.invokestatic 156, 3) := by decide +kernel
theorem dX12_word_9 : decode cX12_word 9 = .ok (.iload_n 2, 1) := by decide +kernel
theorem dX12_word_10 : decode cX12_word 10 = .ok (.invokestatic 156, 3) := by decide +kernel
theorem dX12_word_13 : decode cX12_word 13 = .ok (.iload_n 3, 1) := by decide +kernel
theorem dX12_word_14 : decode cX12_word 14 = .ok (.invokestatic 156, 3) := by decide +kernel
theorem dX12_word_17 : decode cX12_word 17 = .ok (.iload 4, 2) := by decide +kernel
theorem dX12_word_19 : decode cX12_word 19 = .ok (.invokestatic 156, 3) := by decide +kernel
theorem dX12_word_22 : decode cX12_word 22 = .ok (.iload 5, 2) := by decide +kernel
theorem dX12_word_24 : decode cX12_word 24 = .ok (.invokestatic 156, 3) := by decide +kernel
theorem dX12_word_27 : decode cX12_word 27 = .ok (.iload 6, 2) := by decide +kernel
theorem dX12_word_29 : decode cX12_word 29 = .ok (.invokestatic 156, 3) := by decide +kernel
theorem dX12_word_32 : decode cX12_word 32 = .ok (.lreturn, 1) := by decide +kernel
theorem dX12_token_0 : decode cX12_token 0 = .ok (.aload_n 0, 1) := by decide +kernel
theorem dX12_token_1 : decode cX12_token 1 = .ok (.getfield 20, 3) := by decide +kernel
theorem dX12_token_4 : decode cX12_token 4 = .ok (.aload_n 0, 1) := by decide +kernel
theorem dX12_token_5 : decode cX12_token 5 = .ok (.getfield 160, 3) := by decide +kernel
theorem dX12_token_8 : decode cX12_token 8 = .ok (.iload_n 1, 1) := by decide +kernel
theorem dX12_token_9 : decode cX12_token 9 = .ok (.iastore, 1) := by decide +kernel
theorem dX12_token_10 : decode cX12_token 10 = .ok (.aload_n 0, 1) := by decide +kernel
theorem dX12_token_11 : decode cX12_token 11 = .ok (.getfield 24, 3) := by decide +kernel
theorem dX12_token_14 : decode cX12_token 14 = .ok (.aload_n 0, 1) := by decide +kernel
theorem dX12_token_15 : decode cX12_token 15 = .ok (.getfield 160, 3) := by decide +kernel
theorem dX12_token_18 : decode cX12_token 18 = .ok (.iload_n 2, 1) := by decide +kernel
theorem dX12_token_19 : decode cX12_token 19 = .ok (.iastore, 1) := by decide +kernel
theorem dX12_token_20 : decode cX12_token 20 = .ok (.aload_n 0, 1) := by decide +kernel
theorem dX12_token_21 : decode cX12_token 21 = .ok (.getfield 27, 3) := by decide +kernel
theorem dX12_token_24 : decode cX12_token 24 = .ok (.aload_n 0, 1) := by decide +kernel
theorem dX12_token_25 : decode cX12_token 25 = .ok (.getfield 160, 3) := by decide +kernel
theorem dX12_token_28 : decode cX12_token 28 = .ok (.iload_n 3, 1) := by decide +kernel
theorem dX12_token_29 : decode cX12_token 29 = .ok (.iastore, 1) := by decide +kernel
theorem dX12_token_30 : decode cX12_token 30 = .ok (.aload_n 0, 1) := by decide +kernel
theorem dX12_token_31 : decode cX12_token 31 = .ok (.getfield 30, 3) := by decide +kernel
theorem dX12_token_34 : decode cX12_token 34 = .ok (.aload_n 0, 1) := by decide +kernel
theorem dX12_token_35 : decode cX12_token 35 = .ok (.getfield 160, 3) := by decide +kernel
theorem dX12_token_38 : decode cX12_token 38 = .ok (.lload 4, 2) := by decide +kernel
theorem dX12_token_40 : decode cX12_token 40 = .ok (.lastore, 1) := by decide +kernel
theorem dX12_token_41 : decode cX12_token 41 = .ok (.aload_n 0, 1) := by decide +kernel
theorem dX12_token_42 : decode cX12_token 42 = .ok (.dup, 1) := by decide +kernel
theorem dX12_token_43 : decode cX12_token 43 = .ok (.getfield 160, 3) := by decide +kernel
theorem dX12_token_46 : decode cX12_token 46 = .ok (.iconst 1, 1) := by decide +kernel
theorem dX12_token_47 : decode cX12_token 47 = .ok (.iadd, 1) := by decide +kernel
theorem dX12_token_48 : decode cX12_token 48 = .ok (.putfield 160, 3) := by decide +kernel
theorem dX12_token_51 : decode cX12_token 51 = .ok (.return_, 1) := by decide +kernel
theorem dX12_cut_0 : decode cX12_cut 0 = .ok (.aload_n 0, 1) := by decide +kernel
theorem dX12_cut_1 : decode cX12_cut 1 = .ok (.iconst 0, 1) := by decide +kernel
theorem dX12_cut_2 : decode cX12_cut 2 = .ok (.putfield 160, 3) := by decide +kernel
theorem dX12_cut_5 : decode cX12_cut 5 = .ok (.iconst 0, 1) := by decide +kernel
theorem dX12_cut_6 : decode cX12_cut 6 = .ok (.istore_n 1, 1) := by decide +kernel
theorem dX12_cut_7 : decode cX12_cut 7 = .ok (.aload_n 0, 1) := by decide +kernel
theorem dX12_cut_8 : decode cX12_cut 8 = .ok (.getfield 160, 3) := by decide +kernel
theorem dX12_cut_11 : decode cX12_cut 11 = .ok (.sipush 400, 3) := by decide +kernel
theorem dX12_cut_14 : decode cX12_cut 14 = .ok (.if_icmp .gt 280, 3) := by decide +kernel
theorem dX12_cut_17 : decode cX12_cut 17 = .ok (.aload_n 0, 1) := by decide +kernel
theorem dX12_cut_18 : decode cX12_cut 18 = .ok (.iload_n 1, 1) := by decide +kernel
theorem dX12_cut_19 : decode cX12_cut 19 = .ok (.invokevirtual 163, 3) := by decide +kernel
theorem dX12_cut_22 : decode cX12_cut 22 = .ok (.istore_n 2, 1) := by decide +kernel
theorem dX12_cut_23 : decode cX12_cut 23 = .ok (.iload_n 1, 1) := by decide +kernel
theorem dX12_cut_24 : decode cX12_cut 24 = .ok (.aload_n 0, 1) := by decide +kernel
theorem dX12_cut_25 : decode cX12_cut 25 = .ok (.getfield 151, 3) := by decide +kernel
theorem dX12_cut_28 : decode cX12_cut 28 = .ok (.if_icmp .lt 15, 3) := by decide +kernel
theorem dX12_cut_31 : decode cX12_cut 31 = .ok (.aload_n 0, 1) := by decide +kernel
theorem dX12_cut_32 : decode cX12_cut 32 = .ok (.iconst 0, 1) := by decide +kernel
theorem dX12_cut_33 : decode cX12_cut 33 = .ok (.aload_n 0, 1) := by decide +kernel
theorem dX12_cut_34 : decode cX12_cut 34 = .ok (.getfield 151, 3) := by decide +kernel
theorem dX12_cut_37 : decode cX12_cut 37 = .ok (.iconst 0, 1) := by decide +kernel
theorem dX12_cut_38 : decode cX12_cut 38 = .ok (.lconst 0, 1) := by decide +kernel
theorem dX12_cut_39 : decode cX12_cut 39 = .ok (.invokevirtual 167, 3) := by decide +kernel
theorem dX12_cut_42 : decode cX12_cut 42 = .ok (.return_, 1) := by decide +kernel
theorem dX12_cut_43 : decode cX12_cut 43 = .ok (.iload_n 2, 1) := by decide +kernel
theorem dX12_cut_44 : decode cX12_cut 44 = .ok (.bipush 9, 2) := by decide +kernel
theorem dX12_cut_46 : decode cX12_cut 46 = .ok (.if_icmp .eq 21, 3) := by decide +kernel
theorem dX12_cut_49 : decode cX12_cut 49 = .ok (.iload_n 2, 1) := by decide +kernel
theorem dX12_cut_50 : decode cX12_cut 50 = .ok (.bipush 10, 2) := by decide +kernel
theorem dX12_cut_52 : decode cX12_cut 52 = .ok (.if_icmp .eq 15, 3) := by decide +kernel
theorem dX12_cut_55 : decode cX12_cut 55 = .ok (.iload_n 2, 1) := by decide +kernel
theorem dX12_cut_56 : decode cX12_cut 56 = .ok (.bipush 13, 2) := by decide +kernel
theorem dX12_cut_58 : decode cX12_cut 58 = .ok (.if_icmp .eq 9, 3) := by decide +kernel
theorem dX12_cut_61 : decode cX12_cut 61 = .ok (.iload_n 2, 1) := by decide +kernel
theorem dX12_cut_62 : decode cX12_cut 62 = .ok (.bipush 32, 2) := by decide +kernel
theorem dX12_cut_64 : decode cX12_cut 64 = .ok (.if_icmp .ne 9, 3) := by decide +kernel
theorem dX12_cut_67 : decode cX12_cut 67 = .ok (.iinc 1 1, 3) := by decide +kernel
theorem dX12_cut_70 : decode cX12_cut 70 = .ok (.goto 221, 3) := by decide +kernel
theorem dX12_cut_73 : decode cX12_cut 73 = .ok (.iload_n 2, 1) := by decide +kernel
theorem dX12_cut_74 : decode cX12_cut 74 = .ok (.invokestatic 171, 3) := by decide +kernel
theorem dX12_cut_77 : decode cX12_cut 77 = .ok (.ifCond .eq 119, 3) := by decide +kernel
theorem dX12_cut_80 : decode cX12_cut 80 = .ok (.iconst 0, 1) := by decide +kernel
theorem dX12_cut_81 : decode cX12_cut 81 = .ok (.istore_n 3, 1) := by decide +kernel
theorem dX12_cut_82 : decode cX12_cut 82 = .ok (.lconst 0, 1) := by decide +kernel
theorem dX12_cut_83 : decode cX12_cut 83 = .ok (.lstore 4, 2) := by decide +kernel
theorem dX12_cut_85 : decode cX12_cut 85 = .ok (.aload_n 0, 1) := by decide +kernel
theorem dX12_cut_86 : decode cX12_cut 86 = .ok (.iload_n 1, 1) := by decide +kernel
theorem dX12_cut_87 : decode cX12_cut 87 = .ok (.iload_n 3, 1) := by decide +kernel
theorem dX12_cut_88 : decode cX12_cut 88 = .ok (.iadd, 1) := by decide +kernel
theorem dX12_cut_89 : decode cX12_cut 89 = .ok (.invokevirtual 163, 3) := by decide +kernel
theorem dX12_cut_92 : decode cX12_cut 92 = .ok (.invokestatic 171, 3) := by decide +kernel
theorem dX12_cut_95 : decode cX12_cut 95 = .ok (.ifCond .eq 29, 3) := by decide +kernel
theorem dX12_cut_98 : decode cX12_cut 98 = .ok (.iload_n 3, 1) := by decide +kernel
theorem dX12_cut_99 : decode cX12_cut 99 = .ok (.bipush 8, 2) := by decide +kernel
theorem dX12_cut_101 : decode cX12_cut 101 = .ok (.if_icmp .ge 17, 3) := by decide +kernel
theorem dX12_cut_104 : decode cX12_cut 104 = .ok (.lload 4, 2) := by decide +kernel
theorem dX12_cut_106 : decode cX12_cut 106 = .ok (.aload_n 0, 1) := by decide +kernel
theorem dX12_cut_107 : decode cX12_cut 107 = .ok (.iload_n 1, 1) := by decide +kernel
theorem dX12_cut_108 : decode cX12_cut 108 = .ok (.iload_n 3, 1) := by decide +kernel
theorem dX12_cut_109 : decode cX12_cut 109 = .ok (.iadd, 1) := by decide +kernel
theorem dX12_cut_110 : decode cX12_cut 110 = .ok (.invokevirtual 163, 3) := by decide +kernel
theorem dX12_cut_113 : decode cX12_cut 113 = .ok (.invokestatic 156, 3) := by decide +kernel
theorem dX12_cut_116 : decode cX12_cut 116 = .ok (.lstore 4, 2) := by decide +kernel
theorem dX12_cut_118 : decode cX12_cut 118 = .ok (.iinc 3 1, 3) := by decide +kernel
theorem dX12_cut_121 : decode cX12_cut 121 = .ok (.goto (-36), 3) := by decide +kernel
theorem dX12_cut_124 : decode cX12_cut 124 = .ok (.iload_n 3, 1) := by decide +kernel
theorem dX12_cut_125 : decode cX12_cut 125 = .ok (.bipush 8, 2) := by decide +kernel
theorem dX12_cut_127 : decode cX12_cut 127 = .ok (.if_icmp .le 7, 3) := by decide +kernel
theorem dX12_cut_130 : decode cX12_cut 130 = .ok (.iconst 3, 1) := by decide +kernel
theorem dX12_cut_131 : decode cX12_cut 131 = .ok (.goto 4, 3) := by decide +kernel
theorem dX12_cut_134 : decode cX12_cut 134 = .ok (.iconst 1, 1) := by decide +kernel
theorem dX12_cut_135 : decode cX12_cut 135 = .ok (.istore 6, 2) := by decide +kernel
theorem dX12_cut_137 : decode cX12_cut 137 = .ok (.iload_n 3, 1) := by decide +kernel
theorem dX12_cut_138 : decode cX12_cut 138 = .ok (.bipush 7, 2) := by decide +kernel
theorem dX12_cut_140 : decode cX12_cut 140 = .ok (.if_icmp .gt 39, 3) := by decide +kernel
theorem dX12_cut_143 : decode cX12_cut 143 = .ok (.iconst 0, 1) := by decide +kernel
theorem dX12_cut_144 : decode cX12_cut 144 = .ok (.istore 7, 2) := by decide +kernel
theorem dX12_cut_146 : decode cX12_cut 146 = .ok (.iload 7, 2) := by decide +kernel
theorem dX12_cut_148 : decode cX12_cut 148 = .ok (.bipush 20, 2) := by decide +kernel
theorem dX12_cut_150 : decode cX12_cut 150 = .ok (.if_icmp .ge 29, 3) := by decide +kernel
theorem dX12_cut_153 : decode cX12_cut 153 = .ok (.aload_n 0, 1) := by decide +kernel
theorem dX12_cut_154 : decode cX12_cut 154 = .ok (.getfield 34, 3) := by decide +kernel
theorem dX12_cut_157 : decode cX12_cut 157 = .ok (.iload 7, 2) := by decide +kernel
theorem dX12_cut_159 : decode cX12_cut 159 = .ok (.laload, 1) := by decide +kernel
theorem dX12_cut_160 : decode cX12_cut 160 = .ok (.lload 4, 2) := by decide +kernel
theorem dX12_cut_162 : decode cX12_cut 162 = .ok (.lcmp, 1) := by decide +kernel
theorem dX12_cut_163 : decode cX12_cut 163 = .ok (.ifCond .ne 10, 3) := by decide +kernel
theorem dX12_cut_166 : decode cX12_cut 166 = .ok (.bipush 20, 2) := by decide +kernel
theorem dX12_cut_168 : decode cX12_cut 168 = .ok (.iload 7, 2) := by decide +kernel
theorem dX12_cut_170 : decode cX12_cut 170 = .ok (.iadd, 1) := by decide +kernel
theorem dX12_cut_171 : decode cX12_cut 171 = .ok (.istore 6, 2) := by decide +kernel
theorem dX12_cut_173 : decode cX12_cut 173 = .ok (.iinc 7 1, 3) := by decide +kernel
theorem dX12_cut_176 : decode cX12_cut 176 = .ok (.goto (-30), 3) := by decide +kernel
theorem dX12_cut_179 : decode cX12_cut 179 = .ok (.aload_n 0, 1) := by decide +kernel
theorem dX12_cut_180 : decode cX12_cut 180 = .ok (.iload 6, 2) := by decide +kernel
theorem dX12_cut_182 : decode cX12_cut 182 = .ok (.iload_n 1, 1) := by decide +kernel
theorem dX12_cut_183 : decode cX12_cut 183 = .ok (.iconst 0, 1) := by decide +kernel
theorem dX12_cut_184 : decode cX12_cut 184 = .ok (.lload 4, 2) := by decide +kernel
theorem dX12_cut_186 : decode cX12_cut 186 = .ok (.invokevirtual 167, 3) := by decide +kernel
theorem dX12_cut_189 : decode cX12_cut 189 = .ok (.iload_n 1, 1) := by decide +kernel
theorem dX12_cut_190 : decode cX12_cut 190 = .ok (.iload_n 3, 1) := by decide +kernel
theorem dX12_cut_191 : decode cX12_cut 191 = .ok (.iadd, 1) := by decide +kernel
theorem dX12_cut_192 : decode cX12_cut 192 = .ok (.istore_n 1, 1) := by decide +kernel
theorem dX12_cut_193 : decode cX12_cut 193 = .ok (.goto 98, 3) := by decide +kernel
theorem dX12_cut_196 : decode cX12_cut 196 = .ok (.iload_n 2, 1) := by decide +kernel
theorem dX12_cut_197 : decode cX12_cut 197 = .ok (.invokestatic 175, 3) := by decide +kernel
theorem dX12_cut_200 : decode cX12_cut 200 = .ok (.ifCond .eq 75, 3) := by decide +kernel
theorem dX12_cut_203 : decode cX12_cut 203 = .ok (.iconst 0, 1) := by decide +kernel
theorem dX12_cut_204 : decode cX12_cut 204 = .ok (.istore_n 3, 1) := by decide +kernel
theorem dX12_cut_205 : decode cX12_cut 205 = .ok (.iconst 0, 1) := by decide +kernel
theorem dX12_cut_206 : decode cX12_cut 206 = .ok (.istore 4, 2) := by decide +kernel
theorem dX12_cut_208 : decode cX12_cut 208 = .ok (.aload_n 0, 1) := by decide +kernel
theorem dX12_cut_209 : decode cX12_cut 209 = .ok (.iload_n 1, 1) := by decide +kernel
theorem dX12_cut_210 : decode cX12_cut 210 = .ok (.iload_n 3, 1) := by decide +kernel
theorem dX12_cut_211 : decode cX12_cut 211 = .ok (.iadd, 1) := by decide +kernel
theorem dX12_cut_212 : decode cX12_cut 212 = .ok (.invokevirtual 163, 3) := by decide +kernel
theorem dX12_cut_215 : decode cX12_cut 215 = .ok (.invokestatic 175, 3) := by decide +kernel
theorem dX12_cut_218 : decode cX12_cut 218 = .ok (.ifCond .eq 32, 3) := by decide +kernel
theorem dX12_cut_221 : decode cX12_cut 221 = .ok (.iload_n 3, 1) := by decide +kernel
theorem dX12_cut_222 : decode cX12_cut 222 = .ok (.iconst 4, 1) := by decide +kernel
theorem dX12_cut_223 : decode cX12_cut 223 = .ok (.if_icmp .ge 21, 3) := by decide +kernel
theorem dX12_cut_226 : decode cX12_cut 226 = .ok (.bipush 10, 2) := by decide +kernel
theorem dX12_cut_228 : decode cX12_cut 228 = .ok (.iload 4, 2) := by decide +kernel
theorem dX12_cut_230 : decode cX12_cut 230 = .ok (.imul, 1) := by decide +kernel
theorem dX12_cut_231 : decode cX12_cut 231 = .ok (.aload_n 0, 1) := by decide +kernel
theorem dX12_cut_232 : decode cX12_cut 232 = .ok (.iload_n 1, 1) := by decide +kernel
theorem dX12_cut_233 : decode cX12_cut 233 = .ok (.iload_n 3, 1) := by decide +kernel
theorem dX12_cut_234 : decode cX12_cut 234 = .ok (.iadd, 1) := by decide +kernel
theorem dX12_cut_235 : decode cX12_cut 235 = .ok (.invokevirtual 163, 3) := by decide +kernel
theorem dX12_cut_238 : decode cX12_cut 238 = .ok (.iadd, 1) := by decide +kernel
theorem dX12_cut_239 : decode cX12_cut 239 = .ok (.bipush 48, 2) := by decide +kernel
theorem dX12_cut_241 : decode cX12_cut 241 = .ok (.isub, 1) := by decide +kernel
theorem dX12_cut_242 : decode cX12_cut 242 = .ok (.istore 4, 2) := by decide +kernel
theorem dX12_cut_244 : decode cX12_cut 244 = .ok (.iinc 3 1, 3) := by decide +kernel
theorem dX12_cut_247 : decode cX12_cut 247 = .ok (.goto (-39), 3) := by decide +kernel
theorem dX12_cut_250 : decode cX12_cut 250 = .ok (.aload_n 0, 1) := by decide +kernel
theorem dX12_cut_251 : decode cX12_cut 251 = .ok (.iload_n 3, 1) := by decide +kernel
theorem dX12_cut_252 : decode cX12_cut 252 = .ok (.iconst 4, 1) := by decide +kernel
theorem dX12_cut_253 : decode cX12_cut 253 = .ok (.if_icmp .le 7, 3) := by decide +kernel
theorem dX12_cut_256 : decode cX12_cut 256 = .ok (.iconst 3, 1) := by decide +kernel
theorem dX12_cut_257 : decode cX12_cut 257 = .ok (.goto 4, 3) := by decide +kernel
theorem dX12_cut_260 : decode cX12_cut 260 = .ok (.iconst 2, 1) := by decide +kernel
theorem dX12_cut_261 : decode cX12_cut 261 = .ok (.iload_n 1, 1) := by decide +kernel
theorem dX12_cut_262 : decode cX12_cut 262 = .ok (.iload 4, 2) := by decide +kernel
theorem dX12_cut_264 : decode cX12_cut 264 = .ok (.lconst 0, 1) := by decide +kernel
theorem dX12_cut_265 : decode cX12_cut 265 = .ok (.invokevirtual 167, 3) := by decide +kernel
theorem dX12_cut_268 : decode cX12_cut 268 = .ok (.iload_n 1, 1) := by decide +kernel
theorem dX12_cut_269 : decode cX12_cut 269 = .ok (.iload_n 3, 1) := by decide +kernel
theorem dX12_cut_270 : decode cX12_cut 270 = .ok (.iadd, 1) := by decide +kernel
theorem dX12_cut_271 : decode cX12_cut 271 = .ok (.istore_n 1, 1) := by decide +kernel
theorem dX12_cut_272 : decode cX12_cut 272 = .ok (.goto 19, 3) := by decide +kernel
theorem dX12_cut_275 : decode cX12_cut 275 = .ok (.iload_n 1, 1) := by decide +kernel
theorem dX12_cut_276 : decode cX12_cut 276 = .ok (.aload_n 0, 1) := by decide +kernel
theorem dX12_cut_277 : decode cX12_cut 277 = .ok (.iload_n 1, 1) := by decide +kernel
theorem dX12_cut_278 : decode cX12_cut 278 = .ok (.iload_n 2, 1) := by decide +kernel
theorem dX12_cut_279 : decode cX12_cut 279 = .ok (.aload_n 0, 1) := by decide +kernel
theorem dX12_cut_280 : decode cX12_cut 280 = .ok (.iload_n 1, 1) := by decide +kernel
theorem dX12_cut_281 : decode cX12_cut 281 = .ok (.iconst 1, 1) := by decide +kernel
theorem dX12_cut_282 : decode cX12_cut 282 = .ok (.iadd, 1) := by decide +kernel
theorem dX12_cut_283 : decode cX12_cut 283 = .ok (.invokevirtual 163, 3) := by decide +kernel
theorem dX12_cut_286 : decode cX12_cut 286 = .ok (.invokevirtual 178, 3) := by decide +kernel
theorem dX12_cut_289 : decode cX12_cut 289 = .ok (.iadd, 1) := by decide +kernel
theorem dX12_cut_290 : decode cX12_cut 290 = .ok (.istore_n 1, 1) := by decide +kernel
theorem dX12_cut_291 : decode cX12_cut 291 = .ok (.goto (-284), 3) := by decide +kernel
theorem dX12_cut_294 : decode cX12_cut 294 = .ok (.return_, 1) := by decide +kernel
theorem dX12_sign_0 : decode cX12_sign 0 = .ok (.iload_n 2, 1) := by decide +kernel
theorem dX12_sign_1 : decode cX12_sign 1 = .ok (.bipush 59, 2) := by decide +kernel
theorem dX12_sign_3 : decode cX12_sign 3 = .ok (.if_icmp .ne 7, 3) := by decide +kernel
theorem dX12_sign_6 : decode cX12_sign 6 = .ok (.iconst 4, 1) := by decide +kernel
theorem dX12_sign_7 : decode cX12_sign 7 = .ok (.goto 36, 3) := by decide +kernel
theorem dX12_sign_10 : decode cX12_sign 10 = .ok (.iload_n 2, 1) := by decide +kernel
theorem dX12_sign_11 : decode cX12_sign 11 = .ok (.bipush 61, 2) := by decide +kernel
theorem dX12_sign_13 : decode cX12_sign 13 = .ok (.if_icmp .ne 7, 3) := by decide +kernel
theorem dX12_sign_16 : decode cX12_sign 16 = .ok (.iconst 5, 1) := by decide +kernel
theorem dX12_sign_17 : decode cX12_sign 17 = .ok (.goto 26, 3) := by decide +kernel
theorem dX12_sign_20 : decode cX12_sign 20 = .ok (.iload_n 2, 1) := by decide +kernel
theorem dX12_sign_21 : decode cX12_sign 21 = .ok (.bipush 40, 2) := by decide +kernel
theorem dX12_sign_23 : decode cX12_sign 23 = .ok (.if_icmp .ne 8, 3) := by decide +kernel
theorem dX12_sign_26 : decode cX12_sign 26 = .ok (.bipush 6, 2) := by decide +kernel
theorem dX12_sign_28 : decode cX12_sign 28 = .ok (.goto 15, 3) := by decide +kernel
theorem dX12_sign_31 : decode cX12_sign 31 = .ok (.iload_n 2, 1) := by decide +kernel
theorem dX12_sign_32 : decode cX12_sign 32 = .ok (.bipush 41, 2) := by decide +kernel
theorem dX12_sign_34 : decode cX12_sign 34 = .ok (.if_icmp .ne 8, 3) := by decide +kernel
theorem dX12_sign_37 : decode cX12_sign 37 = .ok (.bipush 7, 2) := by decide +kernel
theorem dX12_sign_39 : decode cX12_sign 39 = .ok (.goto 4, 3) := by decide +kernel
theorem dX12_sign_42 : decode cX12_sign 42 = .ok (.iconst 3, 1) := by decide +kernel
theorem dX12_sign_43 : decode cX12_sign 43 = .ok (.istore 4, 2) := by decide +kernel
theorem dX12_sign_45 : decode cX12_sign 45 = .ok (.iload_n 2, 1) := by decide +kernel
theorem dX12_sign_46 : decode cX12_sign 46 = .ok (.bipush 43, 2) := by decide +kernel
theorem dX12_sign_48 : decode cX12_sign 48 = .ok (.if_icmp .ne 7, 3) := by decide +kernel
theorem dX12_sign_51 : decode cX12_sign 51 = .ok (.bipush 8, 2) := by decide +kernel
theorem dX12_sign_53 : decode cX12_sign 53 = .ok (.istore 4, 2) := by decide +kernel
theorem dX12_sign_55 : decode cX12_sign 55 = .ok (.iload_n 2, 1) := by decide +kernel
theorem dX12_sign_56 : decode cX12_sign 56 = .ok (.bipush 45, 2) := by decide +kernel
theorem dX12_sign_58 : decode cX12_sign 58 = .ok (.if_icmp .ne 7, 3) := by decide +kernel
theorem dX12_sign_61 : decode cX12_sign 61 = .ok (.bipush 9, 2) := by decide +kernel
theorem dX12_sign_63 : decode cX12_sign 63 = .ok (.istore 4, 2) := by decide +kernel
theorem dX12_sign_65 : decode cX12_sign 65 = .ok (.iload_n 2, 1) := by decide +kernel
theorem dX12_sign_66 : decode cX12_sign 66 = .ok (.bipush 42, 2) := by decide +kernel
theorem dX12_sign_68 : decode cX12_sign 68 = .ok (.if_icmp .ne 7, 3) := by decide +kernel
theorem dX12_sign_71 : decode cX12_sign 71 = .ok (.bipush 10, 2) := by decide +kernel
theorem dX12_sign_73 : decode cX12_sign 73 = .ok (.istore 4, 2) := by decide +kernel
theorem dX12_sign_75 : decode cX12_sign 75 = .ok (.iload_n 2, 1) := by decide +kernel
theorem dX12_sign_76 : decode cX12_sign 76 = .ok (.bipush 47, 2) := by decide +kernel
theorem dX12_sign_78 : decode cX12_sign 78 = .ok (.if_icmp .ne 7, 3) := by decide +kernel
theorem dX12_sign_81 : decode cX12_sign 81 = .ok (.bipush 15, 2) := by decide +kernel
theorem dX12_sign_83 : decode cX12_sign 83 = .ok (.istore 4, 2) := by decide +kernel
theorem dX12_sign_85 : decode cX12_sign 85 = .ok (.iload_n 2, 1) := by decide +kernel
theorem dX12_sign_86 : decode cX12_sign 86 = .ok (.bipush 60, 2) := by decide +kernel
theorem dX12_sign_88 : decode cX12_sign 88 = .ok (.if_icmp .ne 7, 3) := by decide +kernel
theorem dX12_sign_91 : decode cX12_sign 91 = .ok (.bipush 13, 2) := by decide +kernel
theorem dX12_sign_93 : decode cX12_sign 93 = .ok (.istore 4, 2) := by decide +kernel
theorem dX12_sign_95 : decode cX12_sign 95 = .ok (.aload_n 0, 1) := by decide +kernel
theorem dX12_sign_96 : decode cX12_sign 96 = .ok (.iload 4, 2) := by decide +kernel
theorem dX12_sign_98 : decode cX12_sign 98 = .ok (.iload_n 1, 1) := by decide +kernel
theorem dX12_sign_99 : decode cX12_sign 99 = .ok (.iconst 0, 1) := by decide +kernel
theorem dX12_sign_100 : decode cX12_sign 100 = .ok (.lconst 0, 1) := by decide +kernel
theorem dX12_sign_101 : decode cX12_sign 101 = .ok (.invokevirtual 167, 3) := by decide +kernel
theorem dX12_sign_104 : decode cX12_sign 104 = .ok (.iconst 1, 1) := by decide +kernel
theorem dX12_sign_105 : decode cX12_sign 105 = .ok (.ireturn, 1) := by decide +kernel
theorem dX12_is_0 : decode cX12_is 0 = .ok (.aload_n 0, 1) := by decide +kernel
theorem dX12_is_1 : decode cX12_is 1 = .ok (.getfield 182, 3) := by decide +kernel
theorem dX12_is_4 : decode cX12_is 4 = .ok (.ifCond .ne 20, 3) := by decide +kernel
theorem dX12_is_7 : decode cX12_is 7 = .ok (.aload_n 0, 1) := by decide +kernel
theorem dX12_is_8 : decode cX12_is 8 = .ok (.getfield 20, 3) := by decide +kernel
theorem dX12_is_11 : decode cX12_is 11 = .ok (.aload_n 0, 1) := by decide +kernel
theorem dX12_is_12 : decode cX12_is 12 = .ok (.getfield 185, 3) := by decide +kernel
theorem dX12_is_15 : decode cX12_is 15 = .ok (.iaload, 1) := by decide +kernel
theorem dX12_is_16 : decode cX12_is 16 = .ok (.iload_n 1, 1) := by decide +kernel
theorem dX12_is_17 : decode cX12_is 17 = .ok (.if_icmp .ne 7, 3) := by decide +kernel
theorem dX12_is_20 : decode cX12_is 20 = .ok (.iconst 1, 1) := by decide +kernel
theorem dX12_is_21 : decode cX12_is 21 = .ok (.goto 4, 3) := by decide +kernel
theorem dX12_is_24 : decode cX12_is 24 = .ok (.iconst 0, 1) := by decide +kernel
theorem dX12_is_25 : decode cX12_is 25 = .ok (.ireturn, 1) := by decide +kernel
theorem dX12_fail_0 : decode cX12_fail 0 = .ok (.aload_n 0, 1) := by decide +kernel
theorem dX12_fail_1 : decode cX12_fail 1 = .ok (.getfield 182, 3) := by decide +kernel
theorem dX12_fail_4 : decode cX12_fail 4 = .ok (.ifCond .le 4, 3) := by decide +kernel
theorem dX12_fail_7 : decode cX12_fail 7 = .ok (.return_, 1) := by decide +kernel
theorem dX12_fail_8 : decode cX12_fail 8 = .ok (.aload_n 0, 1) := by decide +kernel
theorem dX12_fail_9 : decode cX12_fail 9 = .ok (.iload_n 1, 1) := by decide +kernel
theorem dX12_fail_10 : decode cX12_fail 10 = .ok (.putfield 182, 3) := by decide +kernel
theorem dX12_fail_13 : decode cX12_fail 13 = .ok (.aload_n 0, 1) := by decide +kernel
theorem dX12_fail_14 : decode cX12_fail 14 = .ok (.aload_n 0, 1) := by decide +kernel
theorem dX12_fail_15 : decode cX12_fail 15 = .ok (.getfield 24, 3) := by decide +kernel
theorem dX12_fail_18 : decode cX12_fail 18 = .ok (.aload_n 0, 1) := by decide +kernel
theorem dX12_fail_19 : decode cX12_fail 19 = .ok (.getfield 185, 3) := by decide +kernel
theorem dX12_fail_22 : decode cX12_fail 22 = .ok (.iaload, 1) := by decide +kernel
theorem dX12_fail_23 : decode cX12_fail 23 = .ok (.putfield 188, 3) := by decide +kernel
theorem dX12_fail_26 : decode cX12_fail 26 = .ok (.return_, 1) := by decide +kernel
theorem dX12_wrong_0 : decode cX12_wrong 0 = .ok (.aload_n 0, 1) := by decide +kernel
theorem dX12_wrong_1 : decode cX12_wrong 1 = .ok (.getfield 24, 3) := by decide +kernel
theorem dX12_wrong_4 : decode cX12_wrong 4 = .ok (.iload_n 2, 1) := by decide +kernel
theorem dX12_wrong_5 : decode cX12_wrong 5 = .ok (.iaload, 1) := by decide +kernel
theorem dX12_wrong_6 : decode cX12_wrong 6 = .ok (.istore_n 3, 1) := by decide +kernel
theorem dX12_wrong_7 : decode cX12_wrong 7 = .ok (.aload_n 0, 1) := by decide +kernel
theorem dX12_wrong_8 : decode cX12_wrong 8 = .ok (.getfield 182, 3) := by decide +kernel
theorem dX12_wrong_11 : decode cX12_wrong 11 = .ok (.ifCond .gt 34, 3) := by decide +kernel
theorem dX12_wrong_14 : decode cX12_wrong 14 = .ok (.aload_n 0, 1) := by decide +kernel
theorem dX12_wrong_15 : decode cX12_wrong 15 = .ok (.getfield 191, 3) := by decide +kernel
theorem dX12_wrong_18 : decode cX12_wrong 18 = .ok (.ifCond .eq 28, 3) := by decide +kernel
theorem dX12_wrong_21 : decode cX12_wrong 21 = .ok (.iload_n 3, 1) := by decide +kernel
theorem dX12_wrong_22 : decode cX12_wrong 22 = .ok (.aload_n 0, 1) := by decide +kernel
theorem dX12_wrong_23 : decode cX12_wrong 23 = .ok (.getfield 194, 3) := by decide +kernel
theorem dX12_wrong_26 : decode cX12_wrong 26 = .ok (.if_icmp .gt 19, 3) := by decide +kernel
theorem dX12_wrong_29 : decode cX12_wrong 29 = .ok (.iload_n 3, 1) := by decide +kernel
theorem dX12_wrong_30 : decode cX12_wrong 30 = .ok (.aload_n 0, 1) := by decide +kernel
theorem dX12_wrong_31 : decode cX12_wrong 31 = .ok (.getfield 194, 3) := by decide +kernel
theorem dX12_wrong_34 : decode cX12_wrong 34 = .ok (.if_icmp .ne 12, 3) := by decide +kernel
theorem dX12_wrong_37 : decode cX12_wrong 37 = .ok (.iload_n 1, 1) := by decide +kernel
theorem dX12_wrong_38 : decode cX12_wrong 38 = .ok (.aload_n 0, 1) := by decide +kernel
theorem dX12_wrong_39 : decode cX12_wrong 39 = .ok (.getfield 191, 3) := by decide +kernel
theorem dX12_wrong_42 : decode cX12_wrong 42 = .ok (.if_icmp .lt 4, 3) := by decide +kernel
theorem dX12_wrong_45 : decode cX12_wrong 45 = .ok (.return_, 1) := by decide +kernel
theorem dX12_wrong_46 : decode cX12_wrong 46 = .ok (.aload_n 0, 1) := by decide +kernel
theorem dX12_wrong_47 : decode cX12_wrong 47 = .ok (.iload_n 1, 1) := by decide +kernel
theorem dX12_wrong_48 : decode cX12_wrong 48 = .ok (.putfield 191, 3) := by decide +kernel
theorem dX12_wrong_51 : decode cX12_wrong 51 = .ok (.aload_n 0, 1) := by decide +kernel
theorem dX12_wrong_52 : decode cX12_wrong 52 = .ok (.iload_n 3, 1) := by decide +kernel
theorem dX12_wrong_53 : decode cX12_wrong 53 = .ok (.putfield 194, 3) := by decide +kernel
theorem dX12_wrong_56 : decode cX12_wrong 56 = .ok (.return_, 1) := by decide +kernel
theorem dX12_goesOn_0 : decode cX12_goesOn 0 = .ok (.aload_n 0, 1) := by decide +kernel
theorem dX12_goesOn_1 : decode cX12_goesOn 1 = .ok (.getfield 185, 3) := by decide +kernel
theorem dX12_goesOn_4 : decode cX12_goesOn 4 = .ok (.sipush 400, 3) := by decide +kernel
theorem dX12_goesOn_7 : decode cX12_goesOn 7 = .ok (.if_icmp .ne 11, 3) := by decide +kernel
theorem dX12_goesOn_10 : decode cX12_goesOn 10 = .ok (.aload_n 0, 1) := by decide +kernel
theorem dX12_goesOn_11 : decode cX12_goesOn 11 = .ok (.iconst 2, 1) := by decide +kernel
theorem dX12_goesOn_12 : decode cX12_goesOn 12 = .ok (.invokevirtual 197, 3) := by decide +kernel
theorem dX12_goesOn_15 : decode cX12_goesOn 15 = .ok (.goto 13, 3) := by decide +kernel
theorem dX12_goesOn_18 : decode cX12_goesOn 18 = .ok (.aload_n 0, 1) := by decide +kernel
theorem dX12_goesOn_19 : decode cX12_goesOn 19 = .ok (.dup, 1) := by decide +kernel
theorem dX12_goesOn_20 : decode cX12_goesOn 20 = .ok (.getfield 185, 3) := by decide +kernel
theorem dX12_goesOn_23 : decode cX12_goesOn 23 = .ok (.iconst 1, 1) := by decide +kernel
theorem dX12_goesOn_24 : decode cX12_goesOn 24 = .ok (.iadd, 1) := by decide +kernel
theorem dX12_goesOn_25 : decode cX12_goesOn 25 = .ok (.putfield 185, 3) := by decide +kernel
theorem dX12_goesOn_28 : decode cX12_goesOn 28 = .ok (.return_, 1) := by decide +kernel
theorem dX12_must_0 : decode cX12_must 0 = .ok (.aload_n 0, 1) := by decide +kernel
theorem dX12_must_1 : decode cX12_must 1 = .ok (.iload_n 1, 1) := by decide +kernel
theorem dX12_must_2 : decode cX12_must 2 = .ok (.invokevirtual 200, 3) := by decide +kernel
theorem dX12_must_5 : decode cX12_must 5 = .ok (.ifCond .eq 10, 3) := by decide +kernel
theorem dX12_must_8 : decode cX12_must 8 = .ok (.aload_n 0, 1) := by decide +kernel
theorem dX12_must_9 : decode cX12_must 9 = .ok (.invokevirtual 203, 3) := by decide +kernel
theorem dX12_must_12 : decode cX12_must 12 = .ok (.goto 8, 3) := by decide +kernel
theorem dX12_must_15 : decode cX12_must 15 = .ok (.aload_n 0, 1) := by decide +kernel
theorem dX12_must_16 : decode cX12_must 16 = .ok (.iconst 1, 1) := by decide +kernel
theorem dX12_must_17 : decode cX12_must 17 = .ok (.invokevirtual 197, 3) := by decide +kernel
theorem dX12_must_20 : decode cX12_must 20 = .ok (.return_, 1) := by decide +kernel
theorem dX12_read_0 : decode cX12_read 0 = .ok (.aload_n 0, 1) := by decide +kernel
theorem dX12_read_1 : decode cX12_read 1 = .ok (.aload_n 0, 1) := by decide +kernel
theorem dX12_read_2 : decode cX12_read 2 = .ok (.getfield 144, 3) := by decide +kernel
theorem dX12_read_5 : decode cX12_read 5 = .ok (.putfield 151, 3) := by decide +kernel
theorem dX12_read_8 : decode cX12_read 8 = .ok (.iconst 0, 1) := by decide +kernel
theorem dX12_read_9 : decode cX12_read 9 = .ok (.istore_n 1, 1) := by decide +kernel
theorem dX12_read_10 : decode cX12_read 10 = .ok (.iload_n 1, 1) := by decide +kernel
theorem dX12_read_11 : decode cX12_read 11 = .ok (.aload_n 0, 1) := by decide +kernel
theorem dX12_read_12 : decode cX12_read 12 = .ok (.getfield 151, 3) := by decide +kernel
theorem dX12_read_15 : decode cX12_read 15 = .ok (.if_icmp .ge 21, 3) := by decide +kernel
theorem dX12_read_18 : decode cX12_read 18 = .ok (.aload_n 0, 1) := by decide +kernel
theorem dX12_read_19 : decode cX12_read 19 = .ok (.getfield 17, 3) := by decide +kernel
theorem dX12_read_22 : decode cX12_read 22 = .ok (.iload_n 1, 1) := by decide +kernel
theorem dX12_read_23 : decode cX12_read 23 = .ok (.aload_n 0, 1) := by decide +kernel
theorem dX12_read_24 : decode cX12_read 24 = .ok (.getfield 13, 3) := by decide +kernel
theorem dX12_read_27 : decode cX12_read 27 = .ok (.iload_n 1, 1) := by decide +kernel
theorem dX12_read_28 : decode cX12_read 28 = .ok (.baload, 1) := by decide +kernel
theorem dX12_read_29 : decode cX12_read 29 = .ok (.bastore, 1) := by decide +kernel
theorem dX12_read_30 : decode cX12_read 30 = .ok (.iinc 1 1, 3) := by decide +kernel
theorem dX12_read_33 : decode cX12_read 33 = .ok (.goto (-23), 3) := by decide +kernel
theorem dX12_read_36 : decode cX12_read 36 = .ok (.aload_n 0, 1) := by decide +kernel
theorem dX12_read_37 : decode cX12_read 37 = .ok (.iconst 0, 1) := by decide +kernel
theorem dX12_read_38 : decode cX12_read 38 = .ok (.putfield 144, 3) := by decide +kernel
theorem dX12_read_41 : decode cX12_read 41 = .ok (.aload_n 0, 1) := by decide +kernel
theorem dX12_read_42 : decode cX12_read 42 = .ok (.invokevirtual 206, 3) := by decide +kernel
theorem dX12_read_45 : decode cX12_read 45 = .ok (.aload_n 0, 1) := by decide +kernel
theorem dX12_read_46 : decode cX12_read 46 = .ok (.iconst 0, 1) := by decide +kernel
theorem dX12_read_47 : decode cX12_read 47 = .ok (.putfield 185, 3) := by decide +kernel
theorem dX12_read_50 : decode cX12_read 50 = .ok (.aload_n 0, 1) := by decide +kernel
theorem dX12_read_51 : decode cX12_read 51 = .ok (.iconst 0, 1) := by decide +kernel
theorem dX12_read_52 : decode cX12_read 52 = .ok (.putfield 209, 3) := by decide +kernel
theorem dX12_read_55 : decode cX12_read 55 = .ok (.aload_n 0, 1) := by decide +kernel
theorem dX12_read_56 : decode cX12_read 56 = .ok (.iconst 0, 1) := by decide +kernel
theorem dX12_read_57 : decode cX12_read 57 = .ok (.putfield 182, 3) := by decide +kernel
theorem dX12_read_60 : decode cX12_read 60 = .ok (.aload_n 0, 1) := by decide +kernel
theorem dX12_read_61 : decode cX12_read 61 = .ok (.iconst 0, 1) := by decide +kernel
theorem dX12_read_62 : decode cX12_read 62 = .ok (.putfield 191, 3) := by decide +kernel
theorem dX12_read_65 : decode cX12_read 65 = .ok (.aload_n 0, 1) := by decide +kernel
theorem dX12_read_66 : decode cX12_read 66 = .ok (.iconst 1, 1) := by decide +kernel
theorem dX12_read_67 : decode cX12_read 67 = .ok (.aload_n 0, 1) := by decide +kernel
theorem dX12_read_68 : decode cX12_read 68 = .ok (.getfield 212, 3) := by decide +kernel
theorem dX12_read_71 : decode cX12_read 71 = .ok (.isub, 1) := by decide +kernel
theorem dX12_read_72 : decode cX12_read 72 = .ok (.putfield 215, 3) := by decide +kernel
theorem dX12_read_75 : decode cX12_read 75 = .ok (.aload_n 0, 1) := by decide +kernel
theorem dX12_read_76 : decode cX12_read 76 = .ok (.iconst 0, 1) := by decide +kernel
theorem dX12_read_77 : decode cX12_read 77 = .ok (.putfield 218, 3) := by decide +kernel
theorem dX12_read_80 : decode cX12_read 80 = .ok (.aload_n 0, 1) := by decide +kernel
theorem dX12_read_81 : decode cX12_read 81 = .ok (.getfield 43, 3) := by decide +kernel
theorem dX12_read_84 : decode cX12_read 84 = .ok (.aload_n 0, 1) := by decide +kernel
theorem dX12_read_85 : decode cX12_read 85 = .ok (.getfield 215, 3) := by decide +kernel
theorem dX12_read_88 : decode cX12_read 88 = .ok (.iconst 0, 1) := by decide +kernel
theorem dX12_read_89 : decode cX12_read 89 = .ok (.iastore, 1) := by decide +kernel
theorem dX12_read_90 : decode cX12_read 90 = .ok (.aload_n 0, 1) := by decide +kernel
theorem dX12_read_91 : decode cX12_read 91 = .ok (.getfield 49, 3) := by decide +kernel
theorem dX12_read_94 : decode cX12_read 94 = .ok (.aload_n 0, 1) := by decide +kernel
theorem dX12_read_95 : decode cX12_read 95 = .ok (.getfield 215, 3) := by decide +kernel
theorem dX12_read_98 : decode cX12_read 98 = .ok (.iconst 0, 1) := by decide +kernel
theorem dX12_read_99 : decode cX12_read 99 = .ok (.bastore, 1) := by decide +kernel
theorem dX12_read_100 : decode cX12_read 100 = .ok (.aload_n 0, 1) := by decide +kernel
theorem dX12_read_101 : decode cX12_read 101 = .ok (.getfield 53, 3) := by decide +kernel
theorem dX12_read_104 : decode cX12_read 104 = .ok (.aload_n 0, 1) := by decide +kernel
theorem dX12_read_105 : decode cX12_read 105 = .ok (.getfield 215, 3) := by decide +kernel
theorem dX12_read_108 : decode cX12_read 108 = .ok (.iconst 0, 1) := by decide +kernel
theorem dX12_read_109 : decode cX12_read 109 = .ok (.bastore, 1) := by decide +kernel
theorem dX12_read_110 : decode cX12_read 110 = .ok (.aload_n 0, 1) := by decide +kernel
theorem dX12_read_111 : decode cX12_read 111 = .ok (.getfield 56, 3) := by decide +kernel
theorem dX12_read_114 : decode cX12_read 114 = .ok (.aload_n 0, 1) := by decide +kernel
theorem dX12_read_115 : decode cX12_read 115 = .ok (.getfield 215, 3) := by decide +kernel
theorem dX12_read_118 : decode cX12_read 118 = .ok (.iconst 0, 1) := by decide +kernel
theorem dX12_read_119 : decode cX12_read 119 = .ok (.iastore, 1) := by decide +kernel
theorem dX12_read_120 : decode cX12_read 120 = .ok (.aload_n 0, 1) := by decide +kernel
theorem dX12_read_121 : decode cX12_read 121 = .ok (.getfield 59, 3) := by decide +kernel
theorem dX12_read_124 : decode cX12_read 124 = .ok (.aload_n 0, 1) := by decide +kernel
theorem dX12_read_125 : decode cX12_read 125 = .ok (.getfield 215, 3) := by decide +kernel
theorem dX12_read_128 : decode cX12_read 128 = .ok (.bipush 7, 2) := by decide +kernel
theorem dX12_read_130 : decode cX12_read 130 = .ok (.iastore, 1) := by decide +kernel
theorem dX12_read_131 : decode cX12_read 131 = .ok (.aload_n 0, 1) := by decide +kernel
theorem dX12_read_132 : decode cX12_read 132 = .ok (.getfield 62, 3) := by decide +kernel
theorem dX12_read_135 : decode cX12_read 135 = .ok (.aload_n 0, 1) := by decide +kernel
theorem dX12_read_136 : decode cX12_read 136 = .ok (.getfield 215, 3) := by decide +kernel
theorem dX12_read_139 : decode cX12_read 139 = .ok (.iconst 0, 1) := by decide +kernel
theorem dX12_read_140 : decode cX12_read 140 = .ok (.iastore, 1) := by decide +kernel
theorem dX12_read_141 : decode cX12_read 141 = .ok (.aload_n 0, 1) := by decide +kernel
theorem dX12_read_142 : decode cX12_read 142 = .ok (.sipush 130, 3) := by decide +kernel
theorem dX12_read_145 : decode cX12_read 145 = .ok (.aload_n 0, 1) := by decide +kernel
theorem dX12_read_146 : decode cX12_read 146 = .ok (.getfield 215, 3) := by decide +kernel
theorem dX12_read_149 : decode cX12_read 149 = .ok (.imul, 1) := by decide +kernel
theorem dX12_read_150 : decode cX12_read 150 = .ok (.putfield 221, 3) := by decide +kernel
theorem dX12_read_153 : decode cX12_read 153 = .ok (.aload_n 0, 1) := by decide +kernel
theorem dX12_read_154 : decode cX12_read 154 = .ok (.sipush 420, 3) := by decide +kernel
theorem dX12_read_157 : decode cX12_read 157 = .ok (.aload_n 0, 1) := by decide +kernel
theorem dX12_read_158 : decode cX12_read 158 = .ok (.getfield 215, 3) := by decide +kernel
theorem dX12_read_161 : decode cX12_read 161 = .ok (.imul, 1) := by decide +kernel
theorem dX12_read_162 : decode cX12_read 162 = .ok (.putfield 224, 3) := by decide +kernel
theorem dX12_read_165 : decode cX12_read 165 = .ok (.iconst 0, 1) := by decide +kernel
theorem dX12_read_166 : decode cX12_read 166 = .ok (.istore_n 1, 1) := by decide +kernel
theorem dX12_read_167 : decode cX12_read 167 = .ok (.iload_n 1, 1) := by decide +kernel
theorem dX12_read_168 : decode cX12_read 168 = .ok (.iconst 2, 1) := by decide +kernel
theorem dX12_read_169 : decode cX12_read 169 = .ok (.if_icmp .ge 37, 3) := by decide +kernel
theorem dX12_read_172 : decode cX12_read 172 = .ok (.aload_n 0, 1) := by decide +kernel
theorem dX12_read_173 : decode cX12_read 173 = .ok (.getfield 65, 3) := by decide +kernel
theorem dX12_read_176 : decode cX12_read 176 = .ok (.iconst 2, 1) := by decide +kernel
theorem dX12_read_177 : decode cX12_read 177 = .ok (.aload_n 0, 1) := by decide +kernel
theorem dX12_read_178 : decode cX12_read 178 = .ok (.getfield 215, 3) := by decide +kernel
theorem dX12_read_181 : decode cX12_read 181 = .ok (.imul, 1) := by decide +kernel
theorem dX12_read_182 : decode cX12_read 182 = .ok (.iload_n 1, 1) := by decide +kernel
theorem dX12_read_183 : decode cX12_read 183 = .ok (.iadd, 1) := by decide +kernel
theorem dX12_read_184 : decode cX12_read 184 = .ok (.iconst 0, 1) := by decide +kernel
theorem dX12_read_185 : decode cX12_read 185 = .ok (.iastore, 1) := by decide +kernel
theorem dX12_read_186 : decode cX12_read 186 = .ok (.aload_n 0, 1) := by decide +kernel
theorem dX12_read_187 : decode cX12_read 187 = .ok (.getfield 68, 3) := by decide +kernel
theorem dX12_read_190 : decode cX12_read 190 = .ok (.iconst 2, 1) := by decide +kernel
theorem dX12_read_191 : decode cX12_read 191 = .ok (.aload_n 0, 1) := by decide +kernel
theorem dX12_read_192 : decode cX12_read 192 = .ok (.getfield 215, 3) := by decide +kernel
theorem dX12_read_195 : decode cX12_read 195 = .ok (.imul, 1) := by decide +kernel
theorem dX12_read_196 : decode cX12_read 196 = .ok (.iload_n 1, 1) := by decide +kernel
theorem dX12_read_197 : decode cX12_read 197 = .ok (.iadd, 1) := by decide +kernel
theorem dX12_read_198 : decode cX12_read 198 = .ok (.iconst 0, 1) := by decide +kernel
theorem dX12_read_199 : decode cX12_read 199 = .ok (.iastore, 1) := by decide +kernel
theorem dX12_read_200 : decode cX12_read 200 = .ok (.iinc 1 1, 3) := by decide +kernel
theorem dX12_read_203 : decode cX12_read 203 = .ok (.goto (-36), 3) := by decide +kernel
theorem dX12_read_206 : decode cX12_read 206 = .ok (.aload_n 0, 1) := by decide +kernel
theorem dX12_read_207 : decode cX12_read 207 = .ok (.getfield 182, 3) := by decide +kernel
theorem dX12_read_210 : decode cX12_read 210 = .ok (.ifCond .ne 18, 3) := by decide +kernel
theorem dX12_read_213 : decode cX12_read 213 = .ok (.aload_n 0, 1) := by decide +kernel
theorem dX12_read_214 : decode cX12_read 214 = .ok (.iconst 0, 1) := by decide +kernel
theorem dX12_read_215 : decode cX12_read 215 = .ok (.invokevirtual 200, 3) := by decide +kernel
theorem dX12_read_218 : decode cX12_read 218 = .ok (.ifCond .ne 10, 3) := by decide +kernel
theorem dX12_read_221 : decode cX12_read 221 = .ok (.aload_n 0, 1) := by decide +kernel
theorem dX12_read_222 : decode cX12_read 222 = .ok (.invokevirtual 227, 3) := by decide +kernel
theorem dX12_read_225 : decode cX12_read 225 = .ok (.goto (-19), 3) := by decide +kernel
theorem dX12_read_228 : decode cX12_read 228 = .ok (.aload_n 0, 1) := by decide +kernel
theorem dX12_read_229 : decode cX12_read 229 = .ok (.aload_n 0, 1) := by decide +kernel
theorem dX12_read_230 : decode cX12_read 230 = .ok (.getfield 182, 3) := by decide +kernel
theorem dX12_read_233 : decode cX12_read 233 = .ok (.ifCond .le 10, 3) := by decide +kernel
theorem dX12_read_236 : decode cX12_read 236 = .ok (.aload_n 0, 1) := by decide +kernel
theorem dX12_read_237 : decode cX12_read 237 = .ok (.getfield 188, 3) := by decide +kernel
theorem dX12_read_240 : decode cX12_read 240 = .ok (.goto 18, 3) := by decide +kernel
theorem dX12_read_243 : decode cX12_read 243 = .ok (.aload_n 0, 1) := by decide +kernel
theorem dX12_read_244 : decode cX12_read 244 = .ok (.getfield 191, 3) := by decide +kernel
theorem dX12_read_247 : decode cX12_read 247 = .ok (.ifCond .le 10, 3) := by decide +kernel
theorem dX12_read_250 : decode cX12_read 250 = .ok (.aload_n 0, 1) := by decide +kernel
theorem dX12_read_251 : decode cX12_read 251 = .ok (.getfield 194, 3) := by decide +kernel
theorem dX12_read_254 : decode cX12_read 254 = .ok (.goto 4, 3) := by decide +kernel
theorem dX12_read_257 : decode cX12_read 257 = .ok (.iconst (-1), 1) := by decide +kernel
theorem dX12_read_258 : decode cX12_read 258 = .ok (.putfield 37, 3) := by decide +kernel
theorem dX12_read_261 : decode cX12_read 261 = .ok (.aload_n 0, 1) := by decide +kernel
theorem dX12_read_262 : decode cX12_read 262 = .ok (.getfield 182, 3) := by decide +kernel
theorem dX12_read_265 : decode cX12_read 265 = .ok (.ifCond .le 8, 3) := by decide +kernel
theorem dX12_read_268 : decode cX12_read 268 = .ok (.aload_n 0, 1) := by decide +kernel
theorem dX12_read_269 : decode cX12_read 269 = .ok (.getfield 182, 3) := by decide +kernel
theorem dX12_read_272 : decode cX12_read 272 = .ok (.ireturn, 1) := by decide +kernel
theorem dX12_read_273 : decode cX12_read 273 = .ok (.aload_n 0, 1) := by decide +kernel
theorem dX12_read_274 : decode cX12_read 274 = .ok (.getfield 191, 3) := by decide +kernel
theorem dX12_read_277 : decode cX12_read 277 = .ok (.ifCond .le 8, 3) := by decide +kernel
theorem dX12_read_280 : decode cX12_read 280 = .ok (.aload_n 0, 1) := by decide +kernel
theorem dX12_read_281 : decode cX12_read 281 = .ok (.getfield 191, 3) := by decide +kernel
theorem dX12_read_284 : decode cX12_read 284 = .ok (.ireturn, 1) := by decide +kernel
theorem dX12_read_285 : decode cX12_read 285 = .ok (.aload_n 0, 1) := by decide +kernel
theorem dX12_read_286 : decode cX12_read 286 = .ok (.aload_n 0, 1) := by decide +kernel
theorem dX12_read_287 : decode cX12_read 287 = .ok (.getfield 215, 3) := by decide +kernel
theorem dX12_read_290 : decode cX12_read 290 = .ok (.putfield 212, 3) := by decide +kernel
theorem dX12_read_293 : decode cX12_read 293 = .ok (.iconst 0, 1) := by decide +kernel
theorem dX12_read_294 : decode cX12_read 294 = .ok (.istore_n 1, 1) := by decide +kernel
theorem dX12_read_295 : decode cX12_read 295 = .ok (.iload_n 1, 1) := by decide +kernel
theorem dX12_read_296 : decode cX12_read 296 = .ok (.bipush 60, 2) := by decide +kernel
theorem dX12_read_298 : decode cX12_read 298 = .ok (.if_icmp .ge 16, 3) := by decide +kernel
theorem dX12_read_301 : decode cX12_read 301 = .ok (.aload_n 0, 1) := by decide +kernel
theorem dX12_read_302 : decode cX12_read 302 = .ok (.getfield 101, 3) := by decide +kernel
theorem dX12_read_305 : decode cX12_read 305 = .ok (.iload_n 1, 1) := by decide +kernel
theorem dX12_read_306 : decode cX12_read 306 = .ok (.iconst 0, 1) := by decide +kernel
theorem dX12_read_307 : decode cX12_read 307 = .ok (.iastore, 1) := by decide +kernel
theorem dX12_read_308 : decode cX12_read 308 = .ok (.iinc 1 1, 3) := by decide +kernel
theorem dX12_read_311 : decode cX12_read 311 = .ok (.goto (-16), 3) := by decide +kernel
theorem dX12_read_314 : decode cX12_read 314 = .ok (.aload_n 0, 1) := by decide +kernel
theorem dX12_read_315 : decode cX12_read 315 = .ok (.getfield 101, 3) := by decide +kernel
theorem dX12_read_318 : decode cX12_read 318 = .ok (.bipush 40, 2) := by decide +kernel
theorem dX12_read_320 : decode cX12_read 320 = .ok (.aload_n 0, 1) := by decide +kernel
theorem dX12_read_321 : decode cX12_read 321 = .ok (.getfield 43, 3) := by decide +kernel
theorem dX12_read_324 : decode cX12_read 324 = .ok (.aload_n 0, 1) := by decide +kernel
theorem dX12_read_325 : decode cX12_read 325 = .ok (.getfield 212, 3) := by decide +kernel
theorem dX12_read_328 : decode cX12_read 328 = .ok (.iaload, 1) := by decide +kernel
theorem dX12_read_329 : decode cX12_read 329 = .ok (.iastore, 1) := by decide +kernel
theorem dX12_read_330 : decode cX12_read 330 = .ok (.iconst 0, 1) := by decide +kernel
theorem dX12_read_331 : decode cX12_read 331 = .ok (.istore_n 1, 1) := by decide +kernel
theorem dX12_read_332 : decode cX12_read 332 = .ok (.iload_n 1, 1) := by decide +kernel
theorem dX12_read_333 : decode cX12_read 333 = .ok (.aload_n 0, 1) := by decide +kernel
theorem dX12_read_334 : decode cX12_read 334 = .ok (.getfield 43, 3) := by decide +kernel
theorem dX12_read_337 : decode cX12_read 337 = .ok (.aload_n 0, 1) := by decide +kernel
theorem dX12_read_338 : decode cX12_read 338 = .ok (.getfield 212, 3) := by decide +kernel
theorem dX12_read_341 : decode cX12_read 341 = .ok (.iaload, 1) := by decide +kernel
theorem dX12_read_342 : decode cX12_read 342 = .ok (.if_icmp .ge 29, 3) := by decide +kernel
theorem dX12_read_345 : decode cX12_read 345 = .ok (.aload_n 0, 1) := by decide +kernel
theorem dX12_read_346 : decode cX12_read 346 = .ok (.getfield 101, 3) := by decide +kernel
theorem dX12_read_349 : decode cX12_read 349 = .ok (.iload_n 1, 1) := by decide +kernel
theorem dX12_read_350 : decode cX12_read 350 = .ok (.aload_n 0, 1) := by decide +kernel
theorem dX12_read_351 : decode cX12_read 351 = .ok (.getfield 46, 3) := by decide +kernel
theorem dX12_read_354 : decode cX12_read 354 = .ok (.bipush 10, 2) := by decide +kernel
theorem dX12_read_356 : decode cX12_read 356 = .ok (.aload_n 0, 1) := by decide +kernel
theorem dX12_read_357 : decode cX12_read 357 = .ok (.getfield 212, 3) := by decide +kernel
theorem dX12_read_360 : decode cX12_read 360 = .ok (.imul, 1) := by decide +kernel
theorem dX12_read_361 : decode cX12_read 361 = .ok (.iload_n 1, 1) := by decide +kernel
theorem dX12_read_362 : decode cX12_read 362 = .ok (.iadd, 1) := by decide +kernel
theorem dX12_read_363 : decode cX12_read 363 = .ok (.iaload, 1) := by decide +kernel
theorem dX12_read_364 : decode cX12_read 364 = .ok (.iastore, 1) := by decide +kernel
theorem dX12_read_365 : decode cX12_read 365 = .ok (.iinc 1 1, 3) := by decide +kernel
theorem dX12_read_368 : decode cX12_read 368 = .ok (.goto (-36), 3) := by decide +kernel
theorem dX12_read_371 : decode cX12_read 371 = .ok (.aload_n 0, 1) := by decide +kernel
theorem dX12_read_372 : decode cX12_read 372 = .ok (.iconst 0, 1) := by decide +kernel
theorem dX12_read_373 : decode cX12_read 373 = .ok (.putfield 230, 3) := by decide +kernel
theorem dX12_read_376 : decode cX12_read 376 = .ok (.aload_n 0, 1) := by decide +kernel
theorem dX12_read_377 : decode cX12_read 377 = .ok (.iconst 0, 1) := by decide +kernel
theorem dX12_read_378 : decode cX12_read 378 = .ok (.putfield 233, 3) := by decide +kernel
theorem dX12_read_381 : decode cX12_read 381 = .ok (.iconst 0, 1) := by decide +kernel
theorem dX12_read_382 : decode cX12_read 382 = .ok (.istore_n 1, 1) := by decide +kernel
theorem dX12_read_383 : decode cX12_read 383 = .ok (.iload_n 1, 1) := by decide +kernel
theorem dX12_read_384 : decode cX12_read 384 = .ok (.iconst 3, 1) := by decide +kernel
theorem dX12_read_385 : decode cX12_read 385 = .ok (.if_icmp .ge 16, 3) := by decide +kernel
theorem dX12_read_388 : decode cX12_read 388 = .ok (.aload_n 0, 1) := by decide +kernel
theorem dX12_read_389 : decode cX12_read 389 = .ok (.getfield 134, 3) := by decide +kernel
theorem dX12_read_392 : decode cX12_read 392 = .ok (.iload_n 1, 1) := by decide +kernel
theorem dX12_read_393 : decode cX12_read 393 = .ok (.iconst 0, 1) := by decide +kernel
theorem dX12_read_394 : decode cX12_read 394 = .ok (.bastore, 1) := by decide +kernel
theorem dX12_read_395 : decode cX12_read 395 = .ok (.iinc 1 1, 3) := by decide +kernel
theorem dX12_read_398 : decode cX12_read 398 = .ok (.goto (-15), 3) := by decide +kernel
theorem dX12_read_401 : decode cX12_read 401 = .ok (.iconst 0, 1) := by decide +kernel
theorem dX12_read_402 : decode cX12_read 402 = .ok (.ireturn, 1) := by decide +kernel
theorem dX12_place_0 : decode cX12_place 0 = .ok (.aload_n 0, 1) := by decide +kernel
theorem dX12_place_1 : decode cX12_place 1 = .ok (.getfield 37, 3) := by decide +kernel
theorem dX12_place_4 : decode cX12_place 4 = .ok (.ireturn, 1) := by decide +kernel
theorem dX12_tell_0 : decode cX12_tell 0 = .ok (.aload_n 0, 1) := by decide +kernel
theorem dX12_tell_1 : decode cX12_tell 1 = .ok (.getfield 20, 3) := by decide +kernel
theorem dX12_tell_4 : decode cX12_tell 4 = .ok (.aload_n 0, 1) := by decide +kernel
theorem dX12_tell_5 : decode cX12_tell 5 = .ok (.getfield 185, 3) := by decide +kernel
theorem dX12_tell_8 : decode cX12_tell 8 = .ok (.iaload, 1) := by decide +kernel
theorem dX12_tell_9 : decode cX12_tell 9 = .ok (.tableswitch 274 20 29 #[55, 88, 110, 132, 132, 157, 274, 274, 274, 245], 55) := by decide +kernel
theorem dX12_tell_64 : decode cX12_tell 64 = .ok (.aload_n 0, 1) := by decide +kernel
theorem dX12_tell_65 : decode cX12_tell 65 = .ok (.getfield 43, 3) := by decide +kernel
theorem dX12_tell_68 : decode cX12_tell 68 = .ok (.aload_n 0, 1) := by decide +kernel
theorem dX12_tell_69 : decode cX12_tell 69 = .ok (.getfield 215, 3) := by decide +kernel
theorem dX12_tell_72 : decode cX12_tell 72 = .ok (.iaload, 1) := by decide +kernel
theorem dX12_tell_73 : decode cX12_tell 73 = .ok (.bipush 10, 2) := by decide +kernel
theorem dX12_tell_75 : decode cX12_tell 75 = .ok (.if_icmp .ne 8, 3) := by decide +kernel
theorem dX12_tell_78 : decode cX12_tell 78 = .ok (.aload_n 0, 1) := by decide +kernel
theorem dX12_tell_79 : decode cX12_tell 79 = .ok (.iconst 2, 1) := by decide +kernel
theorem dX12_tell_80 : decode cX12_tell 80 = .ok (.invokevirtual 197, 3) := by decide +kernel
theorem dX12_tell_83 : decode cX12_tell 83 = .ok (.aload_n 0, 1) := by decide +kernel
theorem dX12_tell_84 : decode cX12_tell 84 = .ok (.getfield 182, 3) := by decide +kernel
theorem dX12_tell_87 : decode cX12_tell 87 = .ok (.ifCond .ne 201, 3) := by decide +kernel
theorem dX12_tell_90 : decode cX12_tell 90 = .ok (.aload_n 0, 1) := by decide +kernel
theorem dX12_tell_91 : decode cX12_tell 91 = .ok (.invokevirtual 236, 3) := by decide +kernel
theorem dX12_tell_94 : decode cX12_tell 94 = .ok (.goto 194, 3) := by decide +kernel
theorem dX12_tell_97 : decode cX12_tell 97 = .ok (.aload_n 0, 1) := by decide +kernel
theorem dX12_tell_98 : decode cX12_tell 98 = .ok (.invokevirtual 203, 3) := by decide +kernel
theorem dX12_tell_101 : decode cX12_tell 101 = .ok (.aload_n 0, 1) := by decide +kernel
theorem dX12_tell_102 : decode cX12_tell 102 = .ok (.getfield 49, 3) := by decide +kernel
theorem dX12_tell_105 : decode cX12_tell 105 = .ok (.aload_n 0, 1) := by decide +kernel
theorem dX12_tell_106 : decode cX12_tell 106 = .ok (.getfield 215, 3) := by decide +kernel
theorem dX12_tell_109 : decode cX12_tell 109 = .ok (.iconst 1, 1) := by decide +kernel
theorem dX12_tell_110 : decode cX12_tell 110 = .ok (.bastore, 1) := by decide +kernel
theorem dX12_tell_111 : decode cX12_tell 111 = .ok (.aload_n 0, 1) := by decide +kernel
theorem dX12_tell_112 : decode cX12_tell 112 = .ok (.iconst 4, 1) := by decide +kernel
theorem dX12_tell_113 : decode cX12_tell 113 = .ok (.invokevirtual 239, 3) := by decide +kernel
theorem dX12_tell_116 : decode cX12_tell 116 = .ok (.goto 172, 3) := by decide +kernel
theorem dX12_tell_119 : decode cX12_tell 119 = .ok (.aload_n 0, 1) := by decide +kernel
theorem dX12_tell_120 : decode cX12_tell 120 = .ok (.invokevirtual 203, 3) := by decide +kernel
theorem dX12_tell_123 : decode cX12_tell 123 = .ok (.aload_n 0, 1) := by decide +kernel
theorem dX12_tell_124 : decode cX12_tell 124 = .ok (.getfield 53, 3) := by decide +kernel
theorem dX12_tell_127 : decode cX12_tell 127 = .ok (.aload_n 0, 1) := by decide +kernel
theorem dX12_tell_128 : decode cX12_tell 128 = .ok (.getfield 215, 3) := by decide +kernel
theorem dX12_tell_131 : decode cX12_tell 131 = .ok (.iconst 1, 1) := by decide +kernel
theorem dX12_tell_132 : decode cX12_tell 132 = .ok (.bastore, 1) := by decide +kernel
theorem dX12_tell_133 : decode cX12_tell 133 = .ok (.aload_n 0, 1) := by decide +kernel
theorem dX12_tell_134 : decode cX12_tell 134 = .ok (.iconst 4, 1) := by decide +kernel
theorem dX12_tell_135 : decode cX12_tell 135 = .ok (.invokevirtual 239, 3) := by decide +kernel
theorem dX12_tell_138 : decode cX12_tell 138 = .ok (.goto 150, 3) := by decide +kernel
theorem dX12_tell_141 : decode cX12_tell 141 = .ok (.aload_n 0, 1) := by decide +kernel
theorem dX12_tell_142 : decode cX12_tell 142 = .ok (.getfield 20, 3) := by decide +kernel
theorem dX12_tell_145 : decode cX12_tell 145 = .ok (.aload_n 0, 1) := by decide +kernel
theorem dX12_tell_146 : decode cX12_tell 146 = .ok (.getfield 185, 3) := by decide +kernel
theorem dX12_tell_149 : decode cX12_tell 149 = .ok (.iaload, 1) := by decide +kernel
theorem dX12_tell_150 : decode cX12_tell 150 = .ok (.bipush 23, 2) := by decide +kernel
theorem dX12_tell_152 : decode cX12_tell 152 = .ok (.isub, 1) := by decide +kernel
theorem dX12_tell_153 : decode cX12_tell 153 = .ok (.istore_n 1, 1) := by decide +kernel
theorem dX12_tell_154 : decode cX12_tell 154 = .ok (.aload_n 0, 1) := by decide +kernel
theorem dX12_tell_155 : decode cX12_tell 155 = .ok (.invokevirtual 203, 3) := by decide +kernel
theorem dX12_tell_158 : decode cX12_tell 158 = .ok (.aload_n 0, 1) := by decide +kernel
theorem dX12_tell_159 : decode cX12_tell 159 = .ok (.iload_n 1, 1) := by decide +kernel
theorem dX12_tell_160 : decode cX12_tell 160 = .ok (.invokevirtual 242, 3) := by decide +kernel
theorem dX12_tell_163 : decode cX12_tell 163 = .ok (.goto 125, 3) := by decide +kernel
theorem dX12_tell_166 : decode cX12_tell 166 = .ok (.aload_n 0, 1) := by decide +kernel
theorem dX12_tell_167 : decode cX12_tell 167 = .ok (.invokevirtual 203, 3) := by decide +kernel
theorem dX12_tell_170 : decode cX12_tell 170 = .ok (.aload_n 0, 1) := by decide +kernel
theorem dX12_tell_171 : decode cX12_tell 171 = .ok (.getfield 182, 3) := by decide +kernel
theorem dX12_tell_174 : decode cX12_tell 174 = .ok (.ifCond .le 7, 3) := by decide +kernel
theorem dX12_tell_177 : decode cX12_tell 177 = .ok (.iconst (-1), 1) := by decide +kernel
theorem dX12_tell_178 : decode cX12_tell 178 = .ok (.goto 15, 3) := by decide +kernel
theorem dX12_tell_181 : decode cX12_tell 181 = .ok (.aload_n 0, 1) := by decide +kernel
theorem dX12_tell_182 : decode cX12_tell 182 = .ok (.getfield 20, 3) := by decide +kernel
theorem dX12_tell_185 : decode cX12_tell 185 = .ok (.aload_n 0, 1) := by decide +kernel
theorem dX12_tell_186 : decode cX12_tell 186 = .ok (.getfield 185, 3) := by decide +kernel
theorem dX12_tell_189 : decode cX12_tell 189 = .ok (.iaload, 1) := by decide +kernel
theorem dX12_tell_190 : decode cX12_tell 190 = .ok (.bipush 26, 2) := by decide +kernel
theorem dX12_tell_192 : decode cX12_tell 192 = .ok (.isub, 1) := by decide +kernel
theorem dX12_tell_193 : decode cX12_tell 193 = .ok (.istore_n 1, 1) := by decide +kernel
theorem dX12_tell_194 : decode cX12_tell 194 = .ok (.iload_n 1, 1) := by decide +kernel
theorem dX12_tell_195 : decode cX12_tell 195 = .ok (.ifCond .lt 8, 3) := by decide +kernel
theorem dX12_tell_198 : decode cX12_tell 198 = .ok (.iload_n 1, 1) := by decide +kernel
theorem dX12_tell_199 : decode cX12_tell 199 = .ok (.iconst 2, 1) := by decide +kernel
theorem dX12_tell_200 : decode cX12_tell 200 = .ok (.if_icmp .le 8, 3) := by decide +kernel
theorem dX12_tell_203 : decode cX12_tell 203 = .ok (.aload_n 0, 1) := by decide +kernel
theorem dX12_tell_204 : decode cX12_tell 204 = .ok (.iconst 1, 1) := by decide +kernel
theorem dX12_tell_205 : decode cX12_tell 205 = .ok (.invokevirtual 197, 3) := by decide +kernel
theorem dX12_tell_208 : decode cX12_tell 208 = .ok (.aload_n 0, 1) := by decide +kernel
theorem dX12_tell_209 : decode cX12_tell 209 = .ok (.getfield 182, 3) := by decide +kernel
theorem dX12_tell_212 : decode cX12_tell 212 = .ok (.ifCond .le 4, 3) := by decide +kernel
theorem dX12_tell_215 : decode cX12_tell 215 = .ok (.return_, 1) := by decide +kernel
theorem dX12_tell_216 : decode cX12_tell 216 = .ok (.aload_n 0, 1) := by decide +kernel
theorem dX12_tell_217 : decode cX12_tell 217 = .ok (.invokevirtual 203, 3) := by decide +kernel
theorem dX12_tell_220 : decode cX12_tell 220 = .ok (.aload_n 0, 1) := by decide +kernel
theorem dX12_tell_221 : decode cX12_tell 221 = .ok (.getfield 56, 3) := by decide +kernel
theorem dX12_tell_224 : decode cX12_tell 224 = .ok (.aload_n 0, 1) := by decide +kernel
theorem dX12_tell_225 : decode cX12_tell 225 = .ok (.getfield 215, 3) := by decide +kernel
theorem dX12_tell_228 : decode cX12_tell 228 = .ok (.iload_n 1, 1) := by decide +kernel
theorem dX12_tell_229 : decode cX12_tell 229 = .ok (.iastore, 1) := by decide +kernel
theorem dX12_tell_230 : decode cX12_tell 230 = .ok (.aload_n 0, 1) := by decide +kernel
theorem dX12_tell_231 : decode cX12_tell 231 = .ok (.getfield 59, 3) := by decide +kernel
theorem dX12_tell_234 : decode cX12_tell 234 = .ok (.aload_n 0, 1) := by decide +kernel
theorem dX12_tell_235 : decode cX12_tell 235 = .ok (.getfield 215, 3) := by decide +kernel
theorem dX12_tell_238 : decode cX12_tell 238 = .ok (.aload_n 0, 1) := by decide +kernel
theorem dX12_tell_239 : decode cX12_tell 239 = .ok (.iconst 1, 1) := by decide +kernel
theorem dX12_tell_240 : decode cX12_tell 240 = .ok (.bipush 30, 2) := by decide +kernel
theorem dX12_tell_242 : decode cX12_tell 242 = .ok (.invokevirtual 245, 3) := by decide +kernel
theorem dX12_tell_245 : decode cX12_tell 245 = .ok (.iastore, 1) := by decide +kernel
theorem dX12_tell_246 : decode cX12_tell 246 = .ok (.aload_n 0, 1) := by decide +kernel
theorem dX12_tell_247 : decode cX12_tell 247 = .ok (.iconst 4, 1) := by decide +kernel
theorem dX12_tell_248 : decode cX12_tell 248 = .ok (.invokevirtual 239, 3) := by decide +kernel
theorem dX12_tell_251 : decode cX12_tell 251 = .ok (.goto 37, 3) := by decide +kernel
theorem dX12_tell_254 : decode cX12_tell 254 = .ok (.aload_n 0, 1) := by decide +kernel
theorem dX12_tell_255 : decode cX12_tell 255 = .ok (.invokevirtual 203, 3) := by decide +kernel
theorem dX12_tell_258 : decode cX12_tell 258 = .ok (.aload_n 0, 1) := by decide +kernel
theorem dX12_tell_259 : decode cX12_tell 259 = .ok (.getfield 62, 3) := by decide +kernel
theorem dX12_tell_262 : decode cX12_tell 262 = .ok (.aload_n 0, 1) := by decide +kernel
theorem dX12_tell_263 : decode cX12_tell 263 = .ok (.getfield 215, 3) := by decide +kernel
theorem dX12_tell_266 : decode cX12_tell 266 = .ok (.aload_n 0, 1) := by decide +kernel
theorem dX12_tell_267 : decode cX12_tell 267 = .ok (.iconst 0, 1) := by decide +kernel
theorem dX12_tell_268 : decode cX12_tell 268 = .ok (.sipush 9999, 3) := by decide +kernel
theorem dX12_tell_271 : decode cX12_tell 271 = .ok (.invokevirtual 245, 3) := by decide +kernel
theorem dX12_tell_274 : decode cX12_tell 274 = .ok (.iastore, 1) := by decide +kernel
theorem dX12_tell_275 : decode cX12_tell 275 = .ok (.aload_n 0, 1) := by decide +kernel
theorem dX12_tell_276 : decode cX12_tell 276 = .ok (.iconst 4, 1) := by decide +kernel
theorem dX12_tell_277 : decode cX12_tell 277 = .ok (.invokevirtual 239, 3) := by decide +kernel
theorem dX12_tell_280 : decode cX12_tell 280 = .ok (.goto 8, 3) := by decide +kernel
theorem dX12_tell_283 : decode cX12_tell 283 = .ok (.aload_n 0, 1) := by decide +kernel
theorem dX12_tell_284 : decode cX12_tell 284 = .ok (.iconst 1, 1) := by decide +kernel
theorem dX12_tell_285 : decode cX12_tell 285 = .ok (.invokevirtual 197, 3) := by decide +kernel
theorem dX12_tell_288 : decode cX12_tell 288 = .ok (.return_, 1) := by decide +kernel
theorem dX12_bounded_0 : decode cX12_bounded 0 = .ok (.aload_n 0, 1) := by decide +kernel
theorem dX12_bounded_1 : decode cX12_bounded 1 = .ok (.getfield 182, 3) := by decide +kernel
theorem dX12_bounded_4 : decode cX12_bounded 4 = .ok (.ifCond .gt 11, 3) := by decide +kernel
theorem dX12_bounded_7 : decode cX12_bounded 7 = .ok (.aload_n 0, 1) := by decide +kernel
theorem dX12_bounded_8 : decode cX12_bounded 8 = .ok (.iconst 2, 1) := by decide +kernel
theorem dX12_bounded_9 : decode cX12_bounded 9 = .ok (.invokevirtual 200, 3) := by decide +kernel
theorem dX12_bounded_12 : decode cX12_bounded 12 = .ok (.ifCond .ne 10, 3) := by decide +kernel
theorem dX12_bounded_15 : decode cX12_bounded 15 = .ok (.aload_n 0, 1) := by decide +kernel
theorem dX12_bounded_16 : decode cX12_bounded 16 = .ok (.iconst 1, 1) := by decide +kernel
theorem dX12_bounded_17 : decode cX12_bounded 17 = .ok (.invokevirtual 197, 3) := by decide +kernel
theorem dX12_bounded_20 : decode cX12_bounded 20 = .ok (.iload_n 1, 1) := by decide +kernel
theorem dX12_bounded_21 : decode cX12_bounded 21 = .ok (.ireturn, 1) := by decide +kernel
theorem dX12_bounded_22 : decode cX12_bounded 22 = .ok (.aload_n 0, 1) := by decide +kernel
theorem dX12_bounded_23 : decode cX12_bounded 23 = .ok (.getfield 27, 3) := by decide +kernel
theorem dX12_bounded_26 : decode cX12_bounded 26 = .ok (.aload_n 0, 1) := by decide +kernel
theorem dX12_bounded_27 : decode cX12_bounded 27 = .ok (.getfield 185, 3) := by decide +kernel
theorem dX12_bounded_30 : decode cX12_bounded 30 = .ok (.iaload, 1) := by decide +kernel
theorem dX12_bounded_31 : decode cX12_bounded 31 = .ok (.istore_n 3, 1) := by decide +kernel
theorem dX12_bounded_32 : decode cX12_bounded 32 = .ok (.iload_n 3, 1) := by decide +kernel
theorem dX12_bounded_33 : decode cX12_bounded 33 = .ok (.iload_n 1, 1) := by decide +kernel
theorem dX12_bounded_34 : decode cX12_bounded 34 = .ok (.if_icmp .lt 8, 3) := by decide +kernel
theorem dX12_bounded_37 : decode cX12_bounded 37 = .ok (.iload_n 3, 1) := by decide +kernel
theorem dX12_bounded_38 : decode cX12_bounded 38 = .ok (.iload_n 2, 1) := by decide +kernel
theorem dX12_bounded_39 : decode cX12_bounded 39 = .ok (.if_icmp .le 12, 3) := by decide +kernel
theorem dX12_bounded_42 : decode cX12_bounded 42 = .ok (.aload_n 0, 1) := by decide +kernel
theorem dX12_bounded_43 : decode cX12_bounded 43 = .ok (.iconst 5, 1) := by decide +kernel
theorem dX12_bounded_44 : decode cX12_bounded 44 = .ok (.aload_n 0, 1) := by decide +kernel
theorem dX12_bounded_45 : decode cX12_bounded 45 = .ok (.getfield 185, 3) := by decide +kernel
theorem dX12_bounded_48 : decode cX12_bounded 48 = .ok (.invokevirtual 249, 3) := by decide +kernel
theorem dX12_bounded_51 : decode cX12_bounded 51 = .ok (.aload_n 0, 1) := by decide +kernel
theorem dX12_bounded_52 : decode cX12_bounded 52 = .ok (.invokevirtual 203, 3) := by decide +kernel
theorem dX12_bounded_55 : decode cX12_bounded 55 = .ok (.iload_n 3, 1) := by decide +kernel
theorem dX12_bounded_56 : decode cX12_bounded 56 = .ok (.ireturn, 1) := by decide +kernel
theorem dX12_tellHouse_0 : decode cX12_tellHouse 0 = .ok (.aload_n 0, 1) := by decide +kernel
theorem dX12_tellHouse_1 : decode cX12_tellHouse 1 = .ok (.invokevirtual 203, 3) := by decide +kernel
theorem dX12_tellHouse_4 : decode cX12_tellHouse 4 = .ok (.aload_n 0, 1) := by decide +kernel
theorem dX12_tellHouse_5 : decode cX12_tellHouse 5 = .ok (.getfield 185, 3) := by decide +kernel
theorem dX12_tellHouse_8 : decode cX12_tellHouse 8 = .ok (.istore_n 1, 1) := by decide +kernel
theorem dX12_tellHouse_9 : decode cX12_tellHouse 9 = .ok (.aload_n 0, 1) := by decide +kernel
theorem dX12_tellHouse_10 : decode cX12_tellHouse 10 = .ok (.iconst 1, 1) := by decide +kernel
theorem dX12_tellHouse_11 : decode cX12_tellHouse 11 = .ok (.invokevirtual 239, 3) := by decide +kernel
theorem dX12_tellHouse_14 : decode cX12_tellHouse 14 = .ok (.iconst 0, 1) := by decide +kernel
theorem dX12_tellHouse_15 : decode cX12_tellHouse 15 = .ok (.istore_n 2, 1) := by decide +kernel
theorem dX12_tellHouse_16 : decode cX12_tellHouse 16 = .ok (.iload_n 2, 1) := by decide +kernel
theorem dX12_tellHouse_17 : decode cX12_tellHouse 17 = .ok (.aload_n 0, 1) := by decide +kernel
theorem dX12_tellHouse_18 : decode cX12_tellHouse 18 = .ok (.getfield 218, 3) := by decide +kernel
theorem dX12_tellHouse_21 : decode cX12_tellHouse 21 = .ok (.if_icmp .ge 38, 3) := by decide +kernel
theorem dX12_tellHouse_24 : decode cX12_tellHouse 24 = .ok (.aload_n 0, 1) := by decide +kernel
theorem dX12_tellHouse_25 : decode cX12_tellHouse 25 = .ok (.getfield 182, 3) := by decide +kernel
theorem dX12_tellHouse_28 : decode cX12_tellHouse 28 = .ok (.ifCond .ne 31, 3) := by decide +kernel
theorem dX12_tellHouse_31 : decode cX12_tellHouse 31 = .ok (.aload_n 0, 1) := by decide +kernel
theorem dX12_tellHouse_32 : decode cX12_tellHouse 32 = .ok (.getfield 40, 3) := by decide +kernel
theorem dX12_tellHouse_35 : decode cX12_tellHouse 35 = .ok (.iload_n 2, 1) := by decide +kernel
theorem dX12_tellHouse_36 : decode cX12_tellHouse 36 = .ok (.laload, 1) := by decide +kernel
theorem dX12_tellHouse_37 : decode cX12_tellHouse 37 = .ok (.aload_n 0, 1) := by decide +kernel
theorem dX12_tellHouse_38 : decode cX12_tellHouse 38 = .ok (.getfield 30, 3) := by decide +kernel
theorem dX12_tellHouse_41 : decode cX12_tellHouse 41 = .ok (.iload_n 1, 1) := by decide +kernel
theorem dX12_tellHouse_42 : decode cX12_tellHouse 42 = .ok (.laload, 1) := by decide +kernel
theorem dX12_tellHouse_43 : decode cX12_tellHouse 43 = .ok (.lcmp, 1) := by decide +kernel
theorem dX12_tellHouse_44 : decode cX12_tellHouse 44 = .ok (.ifCond .ne 9, 3) := by decide +kernel
theorem dX12_tellHouse_47 : decode cX12_tellHouse 47 = .ok (.aload_n 0, 1) := by decide +kernel
theorem dX12_tellHouse_48 : decode cX12_tellHouse 48 = .ok (.iconst 3, 1) := by decide +kernel
theorem dX12_tellHouse_49 : decode cX12_tellHouse 49 = .ok (.iload_n 1, 1) := by decide +kernel
theorem dX12_tellHouse_50 : decode cX12_tellHouse 50 = .ok (.invokevirtual 249, 3) := by decide +kernel
theorem dX12_tellHouse_53 : decode cX12_tellHouse 53 = .ok (.iinc 2 1, 3) := by decide +kernel
theorem dX12_tellHouse_56 : decode cX12_tellHouse 56 = .ok (.goto (-40), 3) := by decide +kernel
theorem dX12_tellHouse_59 : decode cX12_tellHouse 59 = .ok (.aload_n 0, 1) := by decide +kernel
theorem dX12_tellHouse_60 : decode cX12_tellHouse 60 = .ok (.getfield 46, 3) := by decide +kernel
theorem dX12_tellHouse_63 : decode cX12_tellHouse 63 = .ok (.bipush 10, 2) := by decide +kernel
theorem dX12_tellHouse_65 : decode cX12_tellHouse 65 = .ok (.aload_n 0, 1) := by decide +kernel
theorem dX12_tellHouse_66 : decode cX12_tellHouse 66 = .ok (.getfield 215, 3) := by decide +kernel
theorem dX12_tellHouse_69 : decode cX12_tellHouse 69 = .ok (.imul, 1) := by decide +kernel
theorem dX12_tellHouse_70 : decode cX12_tellHouse 70 = .ok (.aload_n 0, 1) := by decide +kernel
theorem dX12_tellHouse_71 : decode cX12_tellHouse 71 = .ok (.getfield 43, 3) := by decide +kernel
theorem dX12_tellHouse_74 : decode cX12_tellHouse 74 = .ok (.aload_n 0, 1) := by decide +kernel
theorem dX12_tellHouse_75 : decode cX12_tellHouse 75 = .ok (.getfield 215, 3) := by decide +kernel
theorem dX12_tellHouse_78 : decode cX12_tellHouse 78 = .ok (.iaload, 1) := by decide +kernel
theorem dX12_tellHouse_79 : decode cX12_tellHouse 79 = .ok (.iadd, 1) := by decide +kernel
theorem dX12_tellHouse_80 : decode cX12_tellHouse 80 = .ok (.aload_n 0, 1) := by decide +kernel
theorem dX12_tellHouse_81 : decode cX12_tellHouse 81 = .ok (.iconst 0, 1) := by decide +kernel
theorem dX12_tellHouse_82 : decode cX12_tellHouse 82 = .ok (.sipush 9999, 3) := by decide +kernel
theorem dX12_tellHouse_85 : decode cX12_tellHouse 85 = .ok (.invokevirtual 245, 3) := by decide +kernel
theorem dX12_tellHouse_88 : decode cX12_tellHouse 88 = .ok (.iastore, 1) := by decide +kernel
theorem dX12_tellHouse_89 : decode cX12_tellHouse 89 = .ok (.aload_n 0, 1) := by decide +kernel
theorem dX12_tellHouse_90 : decode cX12_tellHouse 90 = .ok (.iconst 4, 1) := by decide +kernel
theorem dX12_tellHouse_91 : decode cX12_tellHouse 91 = .ok (.invokevirtual 239, 3) := by decide +kernel
theorem dX12_tellHouse_94 : decode cX12_tellHouse 94 = .ok (.aload_n 0, 1) := by decide +kernel
theorem dX12_tellHouse_95 : decode cX12_tellHouse 95 = .ok (.getfield 182, 3) := by decide +kernel
theorem dX12_tellHouse_98 : decode cX12_tellHouse 98 = .ok (.ifCond .le 4, 3) := by decide +kernel
theorem dX12_tellHouse_101 : decode cX12_tellHouse 101 = .ok (.return_, 1) := by decide +kernel
theorem dX12_tellHouse_102 : decode cX12_tellHouse 102 = .ok (.aload_n 0, 1) := by decide +kernel
theorem dX12_tellHouse_103 : decode cX12_tellHouse 103 = .ok (.getfield 40, 3) := by decide +kernel
theorem dX12_tellHouse_106 : decode cX12_tellHouse 106 = .ok (.aload_n 0, 1) := by decide +kernel
theorem dX12_tellHouse_107 : decode cX12_tellHouse 107 = .ok (.getfield 218, 3) := by decide +kernel
theorem dX12_tellHouse_110 : decode cX12_tellHouse 110 = .ok (.aload_n 0, 1) := by decide +kernel
theorem dX12_tellHouse_111 : decode cX12_tellHouse 111 = .ok (.getfield 30, 3) := by decide +kernel
theorem dX12_tellHouse_114 : decode cX12_tellHouse 114 = .ok (.iload_n 1, 1) := by decide +kernel
theorem dX12_tellHouse_115 : decode cX12_tellHouse 115 = .ok (.laload, 1) := by decide +kernel
theorem dX12_tellHouse_116 : decode cX12_tellHouse 116 = .ok (.lastore, 1) := by decide +kernel
theorem dX12_tellHouse_117 : decode cX12_tellHouse 117 = .ok (.aload_n 0, 1) := by decide +kernel
theorem dX12_tellHouse_118 : decode cX12_tellHouse 118 = .ok (.dup, 1) := by decide +kernel
theorem dX12_tellHouse_119 : decode cX12_tellHouse 119 = .ok (.getfield 218, 3) := by decide +kernel
theorem dX12_tellHouse_122 : decode cX12_tellHouse 122 = .ok (.iconst 1, 1) := by decide +kernel
theorem dX12_tellHouse_123 : decode cX12_tellHouse 123 = .ok (.iadd, 1) := by decide +kernel
theorem dX12_tellHouse_124 : decode cX12_tellHouse 124 = .ok (.putfield 218, 3) := by decide +kernel
theorem dX12_tellHouse_127 : decode cX12_tellHouse 127 = .ok (.aload_n 0, 1) := by decide +kernel
theorem dX12_tellHouse_128 : decode cX12_tellHouse 128 = .ok (.getfield 43, 3) := by decide +kernel
theorem dX12_tellHouse_131 : decode cX12_tellHouse 131 = .ok (.aload_n 0, 1) := by decide +kernel
theorem dX12_tellHouse_132 : decode cX12_tellHouse 132 = .ok (.getfield 215, 3) := by decide +kernel
theorem dX12_tellHouse_135 : decode cX12_tellHouse 135 = .ok (.dup2, 1) := by decide +kernel
theorem dX12_tellHouse_136 : decode cX12_tellHouse 136 = .ok (.iaload, 1) := by decide +kernel
theorem dX12_tellHouse_137 : decode cX12_tellHouse 137 = .ok (.iconst 1, 1) := by decide +kernel
theorem dX12_tellHouse_138 : decode cX12_tellHouse 138 = .ok (.iadd, 1) := by decide +kernel
theorem dX12_tellHouse_139 : decode cX12_tellHouse 139 = .ok (.iastore, 1) := by decide +kernel
theorem dX12_tellHouse_140 : decode cX12_tellHouse 140 = .ok (.return_, 1) := by decide +kernel
theorem dX12_tellLaw_0 : decode cX12_tellLaw 0 = .ok (.aload_n 0, 1) := by decide +kernel
theorem dX12_tellLaw_1 : decode cX12_tellLaw 1 = .ok (.iconst 5, 1) := by decide +kernel
theorem dX12_tellLaw_2 : decode cX12_tellLaw 2 = .ok (.invokevirtual 239, 3) := by decide +kernel
theorem dX12_tellLaw_5 : decode cX12_tellLaw 5 = .ok (.aload_n 0, 1) := by decide +kernel
theorem dX12_tellLaw_6 : decode cX12_tellLaw 6 = .ok (.getfield 221, 3) := by decide +kernel
theorem dX12_tellLaw_9 : decode cX12_tellLaw 9 = .ok (.istore_n 2, 1) := by decide +kernel
theorem dX12_tellLaw_10 : decode cX12_tellLaw 10 = .ok (.iconst 0, 1) := by decide +kernel
theorem dX12_tellLaw_11 : decode cX12_tellLaw 11 = .ok (.istore_n 3, 1) := by decide +kernel
theorem dX12_tellLaw_12 : decode cX12_tellLaw 12 = .ok (.aload_n 0, 1) := by decide +kernel
theorem dX12_tellLaw_13 : decode cX12_tellLaw 13 = .ok (.getfield 182, 3) := by decide +kernel
theorem dX12_tellLaw_16 : decode cX12_tellLaw 16 = .ok (.ifCond .ne 113, 3) := by decide +kernel
theorem dX12_tellLaw_19 : decode cX12_tellLaw 19 = .ok (.aload_n 0, 1) := by decide +kernel
theorem dX12_tellLaw_20 : decode cX12_tellLaw 20 = .ok (.bipush 30, 2) := by decide +kernel
theorem dX12_tellLaw_22 : decode cX12_tellLaw 22 = .ok (.invokevirtual 200, 3) := by decide +kernel
theorem dX12_tellLaw_25 : decode cX12_tellLaw 25 = .ok (.ifCond .eq 104, 3) := by decide +kernel
theorem dX12_tellLaw_28 : decode cX12_tellLaw 28 = .ok (.iload_n 3, 1) := by decide +kernel
theorem dX12_tellLaw_29 : decode cX12_tellLaw 29 = .ok (.iconst 4, 1) := by decide +kernel
theorem dX12_tellLaw_30 : decode cX12_tellLaw 30 = .ok (.if_icmp .ne 8, 3) := by decide +kernel
theorem dX12_tellLaw_33 : decode cX12_tellLaw 33 = .ok (.aload_n 0, 1) := by decide +kernel
theorem dX12_tellLaw_34 : decode cX12_tellLaw 34 = .ok (.iconst 2, 1) := by decide +kernel
theorem dX12_tellLaw_35 : decode cX12_tellLaw 35 = .ok (.invokevirtual 197, 3) := by decide +kernel
theorem dX12_tellLaw_38 : decode cX12_tellLaw 38 = .ok (.aload_n 0, 1) := by decide +kernel
theorem dX12_tellLaw_39 : decode cX12_tellLaw 39 = .ok (.getfield 182, 3) := by decide +kernel
theorem dX12_tellLaw_42 : decode cX12_tellLaw 42 = .ok (.ifCond .le 4, 3) := by decide +kernel
theorem dX12_tellLaw_45 : decode cX12_tellLaw 45 = .ok (.return_, 1) := by decide +kernel
theorem dX12_tellLaw_46 : decode cX12_tellLaw 46 = .ok (.iinc 3 1, 3) := by decide +kernel
theorem dX12_tellLaw_49 : decode cX12_tellLaw 49 = .ok (.aload_n 0, 1) := by decide +kernel
theorem dX12_tellLaw_50 : decode cX12_tellLaw 50 = .ok (.invokevirtual 203, 3) := by decide +kernel
theorem dX12_tellLaw_53 : decode cX12_tellLaw 53 = .ok (.aload_n 0, 1) := by decide +kernel
theorem dX12_tellLaw_54 : decode cX12_tellLaw 54 = .ok (.getfield 71, 3) := by decide +kernel
theorem dX12_tellLaw_57 : decode cX12_tellLaw 57 = .ok (.aload_n 0, 1) := by decide +kernel
theorem dX12_tellLaw_58 : decode cX12_tellLaw 58 = .ok (.getfield 221, 3) := by decide +kernel
theorem dX12_tellLaw_61 : decode cX12_tellLaw 61 = .ok (.iconst 1, 1) := by decide +kernel
theorem dX12_tellLaw_62 : decode cX12_tellLaw 62 = .ok (.bastore, 1) := by decide +kernel
theorem dX12_tellLaw_63 : decode cX12_tellLaw 63 = .ok (.aload_n 0, 1) := by decide +kernel
theorem dX12_tellLaw_64 : decode cX12_tellLaw 64 = .ok (.getfield 74, 3) := by decide +kernel
theorem dX12_tellLaw_67 : decode cX12_tellLaw 67 = .ok (.aload_n 0, 1) := by decide +kernel
theorem dX12_tellLaw_68 : decode cX12_tellLaw 68 = .ok (.getfield 221, 3) := by decide +kernel
theorem dX12_tellLaw_71 : decode cX12_tellLaw 71 = .ok (.aload_n 0, 1) := by decide +kernel
theorem dX12_tellLaw_72 : decode cX12_tellLaw 72 = .ok (.getfield 224, 3) := by decide +kernel
theorem dX12_tellLaw_75 : decode cX12_tellLaw 75 = .ok (.iastore, 1) := by decide +kernel
theorem dX12_tellLaw_76 : decode cX12_tellLaw 76 = .ok (.aload_n 0, 1) := by decide +kernel
theorem dX12_tellLaw_77 : decode cX12_tellLaw 77 = .ok (.invokevirtual 253, 3) := by decide +kernel
theorem dX12_tellLaw_80 : decode cX12_tellLaw 80 = .ok (.aload_n 0, 1) := by decide +kernel
theorem dX12_tellLaw_81 : decode cX12_tellLaw 81 = .ok (.bipush 13, 2) := by decide +kernel
theorem dX12_tellLaw_83 : decode cX12_tellLaw 83 = .ok (.invokevirtual 239, 3) := by decide +kernel
theorem dX12_tellLaw_86 : decode cX12_tellLaw 86 = .ok (.aload_n 0, 1) := by decide +kernel
theorem dX12_tellLaw_87 : decode cX12_tellLaw 87 = .ok (.getfield 77, 3) := by decide +kernel
theorem dX12_tellLaw_90 : decode cX12_tellLaw 90 = .ok (.aload_n 0, 1) := by decide +kernel
theorem dX12_tellLaw_91 : decode cX12_tellLaw 91 = .ok (.getfield 221, 3) := by decide +kernel
theorem dX12_tellLaw_94 : decode cX12_tellLaw 94 = .ok (.aload_n 0, 1) := by decide +kernel
theorem dX12_tellLaw_95 : decode cX12_tellLaw 95 = .ok (.getfield 224, 3) := by decide +kernel
theorem dX12_tellLaw_98 : decode cX12_tellLaw 98 = .ok (.iastore, 1) := by decide +kernel
theorem dX12_tellLaw_99 : decode cX12_tellLaw 99 = .ok (.aload_n 0, 1) := by decide +kernel
theorem dX12_tellLaw_100 : decode cX12_tellLaw 100 = .ok (.getfield 182, 3) := by decide +kernel
theorem dX12_tellLaw_103 : decode cX12_tellLaw 103 = .ok (.ifCond .ne 7, 3) := by decide +kernel
theorem dX12_tellLaw_106 : decode cX12_tellLaw 106 = .ok (.aload_n 0, 1) := by decide +kernel
theorem dX12_tellLaw_107 : decode cX12_tellLaw 107 = .ok (.invokevirtual 253, 3) := by decide +kernel
theorem dX12_tellLaw_110 : decode cX12_tellLaw 110 = .ok (.aload_n 0, 1) := by decide +kernel
theorem dX12_tellLaw_111 : decode cX12_tellLaw 111 = .ok (.bipush 31, 2) := by decide +kernel
theorem dX12_tellLaw_113 : decode cX12_tellLaw 113 = .ok (.invokevirtual 239, 3) := by decide +kernel
theorem dX12_tellLaw_116 : decode cX12_tellLaw 116 = .ok (.aload_n 0, 1) := by decide +kernel
theorem dX12_tellLaw_117 : decode cX12_tellLaw 117 = .ok (.invokevirtual 256, 3) := by decide +kernel
theorem dX12_tellLaw_120 : decode cX12_tellLaw 120 = .ok (.aload_n 0, 1) := by decide +kernel
theorem dX12_tellLaw_121 : decode cX12_tellLaw 121 = .ok (.bipush 32, 2) := by decide +kernel
theorem dX12_tellLaw_123 : decode cX12_tellLaw 123 = .ok (.invokevirtual 239, 3) := by decide +kernel
theorem dX12_tellLaw_126 : decode cX12_tellLaw 126 = .ok (.goto (-114), 3) := by decide +kernel
theorem dX12_tellLaw_129 : decode cX12_tellLaw 129 = .ok (.aload_n 0, 1) := by decide +kernel
theorem dX12_tellLaw_130 : decode cX12_tellLaw 130 = .ok (.getfield 71, 3) := by decide +kernel
theorem dX12_tellLaw_133 : decode cX12_tellLaw 133 = .ok (.aload_n 0, 1) := by decide +kernel
theorem dX12_tellLaw_134 : decode cX12_tellLaw 134 = .ok (.getfield 221, 3) := by decide +kernel
theorem dX12_tellLaw_137 : decode cX12_tellLaw 137 = .ok (.iconst 0, 1) := by decide +kernel
theorem dX12_tellLaw_138 : decode cX12_tellLaw 138 = .ok (.bastore, 1) := by decide +kernel
theorem dX12_tellLaw_139 : decode cX12_tellLaw 139 = .ok (.aload_n 0, 1) := by decide +kernel
theorem dX12_tellLaw_140 : decode cX12_tellLaw 140 = .ok (.invokevirtual 256, 3) := by decide +kernel
theorem dX12_tellLaw_143 : decode cX12_tellLaw 143 = .ok (.aload_n 0, 1) := by decide +kernel
theorem dX12_tellLaw_144 : decode cX12_tellLaw 144 = .ok (.iconst 4, 1) := by decide +kernel
theorem dX12_tellLaw_145 : decode cX12_tellLaw 145 = .ok (.invokevirtual 239, 3) := by decide +kernel
theorem dX12_tellLaw_148 : decode cX12_tellLaw 148 = .ok (.aload_n 0, 1) := by decide +kernel
theorem dX12_tellLaw_149 : decode cX12_tellLaw 149 = .ok (.getfield 182, 3) := by decide +kernel
theorem dX12_tellLaw_152 : decode cX12_tellLaw 152 = .ok (.ifCond .le 4, 3) := by decide +kernel
theorem dX12_tellLaw_155 : decode cX12_tellLaw 155 = .ok (.return_, 1) := by decide +kernel
theorem dX12_tellLaw_156 : decode cX12_tellLaw 156 = .ok (.aload_n 0, 1) := by decide +kernel
theorem dX12_tellLaw_157 : decode cX12_tellLaw 157 = .ok (.getfield 65, 3) := by decide +kernel
theorem dX12_tellLaw_160 : decode cX12_tellLaw 160 = .ok (.iconst 2, 1) := by decide +kernel
theorem dX12_tellLaw_161 : decode cX12_tellLaw 161 = .ok (.aload_n 0, 1) := by decide +kernel
theorem dX12_tellLaw_162 : decode cX12_tellLaw 162 = .ok (.getfield 215, 3) := by decide +kernel
theorem dX12_tellLaw_165 : decode cX12_tellLaw 165 = .ok (.imul, 1) := by decide +kernel
theorem dX12_tellLaw_166 : decode cX12_tellLaw 166 = .ok (.iload_n 1, 1) := by decide +kernel
theorem dX12_tellLaw_167 : decode cX12_tellLaw 167 = .ok (.iadd, 1) := by decide +kernel
theorem dX12_tellLaw_168 : decode cX12_tellLaw 168 = .ok (.iload_n 2, 1) := by decide +kernel
theorem dX12_tellLaw_169 : decode cX12_tellLaw 169 = .ok (.iastore, 1) := by decide +kernel
theorem dX12_tellLaw_170 : decode cX12_tellLaw 170 = .ok (.aload_n 0, 1) := by decide +kernel
theorem dX12_tellLaw_171 : decode cX12_tellLaw 171 = .ok (.getfield 68, 3) := by decide +kernel
theorem dX12_tellLaw_174 : decode cX12_tellLaw 174 = .ok (.iconst 2, 1) := by decide +kernel
theorem dX12_tellLaw_175 : decode cX12_tellLaw 175 = .ok (.aload_n 0, 1) := by decide +kernel
theorem dX12_tellLaw_176 : decode cX12_tellLaw 176 = .ok (.getfield 215, 3) := by decide +kernel
theorem dX12_tellLaw_179 : decode cX12_tellLaw 179 = .ok (.imul, 1) := by decide +kernel
theorem dX12_tellLaw_180 : decode cX12_tellLaw 180 = .ok (.iload_n 1, 1) := by decide +kernel
theorem dX12_tellLaw_181 : decode cX12_tellLaw 181 = .ok (.iadd, 1) := by decide +kernel
theorem dX12_tellLaw_182 : decode cX12_tellLaw 182 = .ok (.aload_n 0, 1) := by decide +kernel
theorem dX12_tellLaw_183 : decode cX12_tellLaw 183 = .ok (.getfield 221, 3) := by decide +kernel
theorem dX12_tellLaw_186 : decode cX12_tellLaw 186 = .ok (.iastore, 1) := by decide +kernel
theorem dX12_tellLaw_187 : decode cX12_tellLaw 187 = .ok (.return_, 1) := by decide +kernel
theorem dX12_term_0 : decode cX12_term 0 = .ok (.aload_n 0, 1) := by decide +kernel
theorem dX12_term_1 : decode cX12_term 1 = .ok (.getfield 80, 3) := by decide +kernel
theorem dX12_term_4 : decode cX12_term 4 = .ok (.aload_n 0, 1) := by decide +kernel
theorem dX12_term_5 : decode cX12_term 5 = .ok (.getfield 221, 3) := by decide +kernel
theorem dX12_term_8 : decode cX12_term 8 = .ok (.aload_n 0, 1) := by decide +kernel
theorem dX12_term_9 : decode cX12_term 9 = .ok (.getfield 224, 3) := by decide +kernel
theorem dX12_term_12 : decode cX12_term 12 = .ok (.iastore, 1) := by decide +kernel
theorem dX12_term_13 : decode cX12_term 13 = .ok (.aload_n 0, 1) := by decide +kernel
theorem dX12_term_14 : decode cX12_term 14 = .ok (.getfield 182, 3) := by decide +kernel
theorem dX12_term_17 : decode cX12_term 17 = .ok (.ifCond .ne 7, 3) := by decide +kernel
theorem dX12_term_20 : decode cX12_term 20 = .ok (.aload_n 0, 1) := by decide +kernel
theorem dX12_term_21 : decode cX12_term 21 = .ok (.invokevirtual 253, 3) := by decide +kernel
theorem dX12_term_24 : decode cX12_term 24 = .ok (.aload_n 0, 1) := by decide +kernel
theorem dX12_term_25 : decode cX12_term 25 = .ok (.getfield 83, 3) := by decide +kernel
theorem dX12_term_28 : decode cX12_term 28 = .ok (.aload_n 0, 1) := by decide +kernel
theorem dX12_term_29 : decode cX12_term 29 = .ok (.getfield 221, 3) := by decide +kernel
theorem dX12_term_32 : decode cX12_term 32 = .ok (.aload_n 0, 1) := by decide +kernel
theorem dX12_term_33 : decode cX12_term 33 = .ok (.getfield 224, 3) := by decide +kernel
theorem dX12_term_36 : decode cX12_term 36 = .ok (.iastore, 1) := by decide +kernel
theorem dX12_term_37 : decode cX12_term 37 = .ok (.aload_n 0, 1) := by decide +kernel
theorem dX12_term_38 : decode cX12_term 38 = .ok (.dup, 1) := by decide +kernel
theorem dX12_term_39 : decode cX12_term 39 = .ok (.getfield 221, 3) := by decide +kernel
theorem dX12_term_42 : decode cX12_term 42 = .ok (.iconst 1, 1) := by decide +kernel
theorem dX12_term_43 : decode cX12_term 43 = .ok (.iadd, 1) := by decide +kernel
theorem dX12_term_44 : decode cX12_term 44 = .ok (.putfield 221, 3) := by decide +kernel
theorem dX12_term_47 : decode cX12_term 47 = .ok (.return_, 1) := by decide +kernel
theorem dX12_emit_0 : decode cX12_emit 0 = .ok (.aload_n 0, 1) := by decide +kernel
theorem dX12_emit_1 : decode cX12_emit 1 = .ok (.getfield 86, 3) := by decide +kernel
theorem dX12_emit_4 : decode cX12_emit 4 = .ok (.aload_n 0, 1) := by decide +kernel
theorem dX12_emit_5 : decode cX12_emit 5 = .ok (.getfield 224, 3) := by decide +kernel
theorem dX12_emit_8 : decode cX12_emit 8 = .ok (.iload_n 1, 1) := by decide +kernel
theorem dX12_emit_9 : decode cX12_emit 9 = .ok (.iastore, 1) := by decide +kernel
theorem dX12_emit_10 : decode cX12_emit 10 = .ok (.aload_n 0, 1) := by decide +kernel
theorem dX12_emit_11 : decode cX12_emit 11 = .ok (.getfield 89, 3) := by decide +kernel
theorem dX12_emit_14 : decode cX12_emit 14 = .ok (.aload_n 0, 1) := by decide +kernel
theorem dX12_emit_15 : decode cX12_emit 15 = .ok (.getfield 224, 3) := by decide +kernel
theorem dX12_emit_18 : decode cX12_emit 18 = .ok (.iload_n 2, 1) := by decide +kernel
theorem dX12_emit_19 : decode cX12_emit 19 = .ok (.iastore, 1) := by decide +kernel
theorem dX12_emit_20 : decode cX12_emit 20 = .ok (.aload_n 0, 1) := by decide +kernel
theorem dX12_emit_21 : decode cX12_emit 21 = .ok (.dup, 1) := by decide +kernel
theorem dX12_emit_22 : decode cX12_emit 22 = .ok (.getfield 224, 3) := by decide +kernel
theorem dX12_emit_25 : decode cX12_emit 25 = .ok (.iconst 1, 1) := by decide +kernel
theorem dX12_emit_26 : decode cX12_emit 26 = .ok (.iadd, 1) := by decide +kernel
theorem dX12_emit_27 : decode cX12_emit 27 = .ok (.putfield 224, 3) := by decide +kernel
theorem dX12_emit_30 : decode cX12_emit 30 = .ok (.return_, 1) := by decide +kernel
theorem dX12_comesOut_0 : decode cX12_comesOut 0 = .ok (.aload_n 0, 1) := by decide +kernel
theorem dX12_comesOut_1 : decode cX12_comesOut 1 = .ok (.getfield 259, 3) := by decide +kernel
theorem dX12_comesOut_4 : decode cX12_comesOut 4 = .ok (.ifCond .le 87, 3) := by decide +kernel
theorem dX12_comesOut_7 : decode cX12_comesOut 7 = .ok (.aload_n 0, 1) := by decide +kernel
theorem dX12_comesOut_8 : decode cX12_comesOut 8 = .ok (.getfield 92, 3) := by decide +kernel
theorem dX12_comesOut_11 : decode cX12_comesOut 11 = .ok (.aload_n 0, 1) := by decide +kernel
theorem dX12_comesOut_12 : decode cX12_comesOut 12 = .ok (.getfield 259, 3) := by decide +kernel
theorem dX12_comesOut_15 : decode cX12_comesOut 15 = .ok (.iconst 1, 1) := by decide +kernel
theorem dX12_comesOut_16 : decode cX12_comesOut 16 = .ok (.isub, 1) := by decide +kernel
theorem dX12_comesOut_17 : decode cX12_comesOut 17 = .ok (.iaload, 1) := by decide +kernel
theorem dX12_comesOut_18 : decode cX12_comesOut 18 = .ok (.istore_n 2, 1) := by decide +kernel
theorem dX12_comesOut_19 : decode cX12_comesOut 19 = .ok (.iload_n 2, 1) := by decide +kernel
theorem dX12_comesOut_20 : decode cX12_comesOut 20 = .ok (.bipush 6, 2) := by decide +kernel
theorem dX12_comesOut_22 : decode cX12_comesOut 22 = .ok (.if_icmp .eq 19, 3) := by decide +kernel
theorem dX12_comesOut_25 : decode cX12_comesOut 25 = .ok (.iload_n 1, 1) := by decide +kernel
theorem dX12_comesOut_26 : decode cX12_comesOut 26 = .ok (.ifCond .eq 16, 3) := by decide +kernel
theorem dX12_comesOut_29 : decode cX12_comesOut 29 = .ok (.iload_n 2, 1) := by decide +kernel
theorem dX12_comesOut_30 : decode cX12_comesOut 30 = .ok (.bipush 8, 2) := by decide +kernel
theorem dX12_comesOut_32 : decode cX12_comesOut 32 = .ok (.if_icmp .eq 9, 3) := by decide +kernel
theorem dX12_comesOut_35 : decode cX12_comesOut 35 = .ok (.iload_n 2, 1) := by decide +kernel
theorem dX12_comesOut_36 : decode cX12_comesOut 36 = .ok (.bipush 9, 2) := by decide +kernel
theorem dX12_comesOut_38 : decode cX12_comesOut 38 = .ok (.if_icmp .ne 4, 3) := by decide +kernel
theorem dX12_comesOut_41 : decode cX12_comesOut 41 = .ok (.return_, 1) := by decide +kernel
theorem dX12_comesOut_42 : decode cX12_comesOut 42 = .ok (.aload_n 0, 1) := by decide +kernel
theorem dX12_comesOut_43 : decode cX12_comesOut 43 = .ok (.dup, 1) := by decide +kernel
theorem dX12_comesOut_44 : decode cX12_comesOut 44 = .ok (.getfield 259, 3) := by decide +kernel
theorem dX12_comesOut_47 : decode cX12_comesOut 47 = .ok (.iconst 1, 1) := by decide +kernel
theorem dX12_comesOut_48 : decode cX12_comesOut 48 = .ok (.isub, 1) := by decide +kernel
theorem dX12_comesOut_49 : decode cX12_comesOut 49 = .ok (.putfield 259, 3) := by decide +kernel
theorem dX12_comesOut_52 : decode cX12_comesOut 52 = .ok (.aload_n 0, 1) := by decide +kernel
theorem dX12_comesOut_53 : decode cX12_comesOut 53 = .ok (.iload_n 2, 1) := by decide +kernel
theorem dX12_comesOut_54 : decode cX12_comesOut 54 = .ok (.bipush 8, 2) := by decide +kernel
theorem dX12_comesOut_56 : decode cX12_comesOut 56 = .ok (.if_icmp .ne 7, 3) := by decide +kernel
theorem dX12_comesOut_59 : decode cX12_comesOut 59 = .ok (.iconst 2, 1) := by decide +kernel
theorem dX12_comesOut_60 : decode cX12_comesOut 60 = .ok (.goto 24, 3) := by decide +kernel
theorem dX12_comesOut_63 : decode cX12_comesOut 63 = .ok (.iload_n 2, 1) := by decide +kernel
theorem dX12_comesOut_64 : decode cX12_comesOut 64 = .ok (.bipush 9, 2) := by decide +kernel
theorem dX12_comesOut_66 : decode cX12_comesOut 66 = .ok (.if_icmp .ne 7, 3) := by decide +kernel
theorem dX12_comesOut_69 : decode cX12_comesOut 69 = .ok (.iconst 3, 1) := by decide +kernel
theorem dX12_comesOut_70 : decode cX12_comesOut 70 = .ok (.goto 14, 3) := by decide +kernel
theorem dX12_comesOut_73 : decode cX12_comesOut 73 = .ok (.iload_n 2, 1) := by decide +kernel
theorem dX12_comesOut_74 : decode cX12_comesOut 74 = .ok (.bipush 10, 2) := by decide +kernel
theorem dX12_comesOut_76 : decode cX12_comesOut 76 = .ok (.if_icmp .ne 7, 3) := by decide +kernel
theorem dX12_comesOut_79 : decode cX12_comesOut 79 = .ok (.iconst 4, 1) := by decide +kernel
theorem dX12_comesOut_80 : decode cX12_comesOut 80 = .ok (.goto 4, 3) := by decide +kernel
theorem dX12_comesOut_83 : decode cX12_comesOut 83 = .ok (.iconst 5, 1) := by decide +kernel
theorem dX12_comesOut_84 : decode cX12_comesOut 84 = .ok (.iconst 0, 1) := by decide +kernel
theorem dX12_comesOut_85 : decode cX12_comesOut 85 = .ok (.invokevirtual 262, 3) := by decide +kernel
theorem dX12_comesOut_88 : decode cX12_comesOut 88 = .ok (.goto (-88), 3) := by decide +kernel
theorem dX12_comesOut_91 : decode cX12_comesOut 91 = .ok (.return_, 1) := by decide +kernel
theorem dX12_expression_0 : decode cX12_expression 0 = .ok (.aload_n 0, 1) := by decide +kernel
theorem dX12_expression_1 : decode cX12_expression 1 = .ok (.iconst 0, 1) := by decide +kernel
theorem dX12_expression_2 : decode cX12_expression 2 = .ok (.putfield 259, 3) := by decide +kernel
theorem dX12_expression_5 : decode cX12_expression 5 = .ok (.aload_n 0, 1) := by decide +kernel
theorem dX12_expression_6 : decode cX12_expression 6 = .ok (.getfield 209, 3) := by decide +kernel
theorem dX12_expression_9 : decode cX12_expression 9 = .ok (.istore_n 1, 1) := by decide +kernel
theorem dX12_expression_10 : decode cX12_expression 10 = .ok (.iconst 1, 1) := by decide +kernel
theorem dX12_expression_11 : decode cX12_expression 11 = .ok (.istore_n 2, 1) := by decide +kernel
theorem dX12_expression_12 : decode cX12_expression 12 = .ok (.iload_n 2, 1) := by decide +kernel
theorem dX12_expression_13 : decode cX12_expression 13 = .ok (.ifCond .eq 259, 3) := by decide +kernel
theorem dX12_expression_16 : decode cX12_expression 16 = .ok (.aload_n 0, 1) := by decide +kernel
theorem dX12_expression_17 : decode cX12_expression 17 = .ok (.getfield 182, 3) := by decide +kernel
theorem dX12_expression_20 : decode cX12_expression 20 = .ok (.ifCond .ne 252, 3) := by decide +kernel
theorem dX12_expression_23 : decode cX12_expression 23 = .ok (.aload_n 0, 1) := by decide +kernel
theorem dX12_expression_24 : decode cX12_expression 24 = .ok (.bipush 6, 2) := by decide +kernel
theorem dX12_expression_26 : decode cX12_expression 26 = .ok (.invokevirtual 200, 3) := by decide +kernel
theorem dX12_expression_29 : decode cX12_expression 29 = .ok (.ifCond .eq 55, 3) := by decide +kernel
theorem dX12_expression_32 : decode cX12_expression 32 = .ok (.aload_n 0, 1) := by decide +kernel
theorem dX12_expression_33 : decode cX12_expression 33 = .ok (.getfield 209, 3) := by decide +kernel
theorem dX12_expression_36 : decode cX12_expression 36 = .ok (.bipush 6, 2) := by decide +kernel
theorem dX12_expression_38 : decode cX12_expression 38 = .ok (.if_icmp .ne 8, 3) := by decide +kernel
theorem dX12_expression_41 : decode cX12_expression 41 = .ok (.aload_n 0, 1) := by decide +kernel
theorem dX12_expression_42 : decode cX12_expression 42 = .ok (.iconst 2, 1) := by decide +kernel
theorem dX12_expression_43 : decode cX12_expression 43 = .ok (.invokevirtual 197, 3) := by decide +kernel
theorem dX12_expression_46 : decode cX12_expression 46 = .ok (.aload_n 0, 1) := by decide +kernel
theorem dX12_expression_47 : decode cX12_expression 47 = .ok (.dup, 1) := by decide +kernel
theorem dX12_expression_48 : decode cX12_expression 48 = .ok (.getfield 209, 3) := by decide +kernel
theorem dX12_expression_51 : decode cX12_expression 51 = .ok (.iconst 1, 1) := by decide +kernel
theorem dX12_expression_52 : decode cX12_expression 52 = .ok (.iadd, 1) := by decide +kernel
theorem dX12_expression_53 : decode cX12_expression 53 = .ok (.putfield 209, 3) := by decide +kernel
theorem dX12_expression_56 : decode cX12_expression 56 = .ok (.aload_n 0, 1) := by decide +kernel
theorem dX12_expression_57 : decode cX12_expression 57 = .ok (.invokevirtual 203, 3) := by decide +kernel
theorem dX12_expression_60 : decode cX12_expression 60 = .ok (.aload_n 0, 1) := by decide +kernel
theorem dX12_expression_61 : decode cX12_expression 61 = .ok (.getfield 92, 3) := by decide +kernel
theorem dX12_expression_64 : decode cX12_expression 64 = .ok (.aload_n 0, 1) := by decide +kernel
theorem dX12_expression_65 : decode cX12_expression 65 = .ok (.getfield 259, 3) := by decide +kernel
theorem dX12_expression_68 : decode cX12_expression 68 = .ok (.bipush 6, 2) := by decide +kernel
theorem dX12_expression_70 : decode cX12_expression 70 = .ok (.iastore, 1) := by decide +kernel
theorem dX12_expression_71 : decode cX12_expression 71 = .ok (.aload_n 0, 1) := by decide +kernel
theorem dX12_expression_72 : decode cX12_expression 72 = .ok (.dup, 1) := by decide +kernel
theorem dX12_expression_73 : decode cX12_expression 73 = .ok (.getfield 259, 3) := by decide +kernel
theorem dX12_expression_76 : decode cX12_expression 76 = .ok (.iconst 1, 1) := by decide +kernel
theorem dX12_expression_77 : decode cX12_expression 77 = .ok (.iadd, 1) := by decide +kernel
theorem dX12_expression_78 : decode cX12_expression 78 = .ok (.putfield 259, 3) := by decide +kernel
theorem dX12_expression_81 : decode cX12_expression 81 = .ok (.goto (-58), 3) := by decide +kernel
theorem dX12_expression_84 : decode cX12_expression 84 = .ok (.aload_n 0, 1) := by decide +kernel
theorem dX12_expression_85 : decode cX12_expression 85 = .ok (.invokevirtual 265, 3) := by decide +kernel
theorem dX12_expression_88 : decode cX12_expression 88 = .ok (.aload_n 0, 1) := by decide +kernel
theorem dX12_expression_89 : decode cX12_expression 89 = .ok (.getfield 182, 3) := by decide +kernel
theorem dX12_expression_92 : decode cX12_expression 92 = .ok (.ifCond .le 4, 3) := by decide +kernel
theorem dX12_expression_95 : decode cX12_expression 95 = .ok (.return_, 1) := by decide +kernel
theorem dX12_expression_96 : decode cX12_expression 96 = .ok (.aload_n 0, 1) := by decide +kernel
theorem dX12_expression_97 : decode cX12_expression 97 = .ok (.bipush 7, 2) := by decide +kernel
theorem dX12_expression_99 : decode cX12_expression 99 = .ok (.invokevirtual 200, 3) := by decide +kernel
theorem dX12_expression_102 : decode cX12_expression 102 = .ok (.ifCond .eq 43, 3) := by decide +kernel
theorem dX12_expression_105 : decode cX12_expression 105 = .ok (.aload_n 0, 1) := by decide +kernel
theorem dX12_expression_106 : decode cX12_expression 106 = .ok (.getfield 209, 3) := by decide +kernel
theorem dX12_expression_109 : decode cX12_expression 109 = .ok (.iload_n 1, 1) := by decide +kernel
theorem dX12_expression_110 : decode cX12_expression 110 = .ok (.if_icmp .le 35, 3) := by decide +kernel
theorem dX12_expression_113 : decode cX12_expression 113 = .ok (.aload_n 0, 1) := by decide +kernel
theorem dX12_expression_114 : decode cX12_expression 114 = .ok (.iconst 0, 1) := by decide +kernel
theorem dX12_expression_115 : decode cX12_expression 115 = .ok (.invokevirtual 268, 3) := by decide +kernel
theorem dX12_expression_118 : decode cX12_expression 118 = .ok (.aload_n 0, 1) := by decide +kernel
theorem dX12_expression_119 : decode cX12_expression 119 = .ok (.dup, 1) := by decide +kernel
theorem dX12_expression_120 : decode cX12_expression 120 = .ok (.getfield 259, 3) := by decide +kernel
theorem dX12_expression_123 : decode cX12_expression 123 = .ok (.iconst 1, 1) := by decide +kernel
theorem dX12_expression_124 : decode cX12_expression 124 = .ok (.isub, 1) := by decide +kernel
theorem dX12_expression_125 : decode cX12_expression 125 = .ok (.putfield 259, 3) := by decide +kernel
theorem dX12_expression_128 : decode cX12_expression 128 = .ok (.aload_n 0, 1) := by decide +kernel
theorem dX12_expression_129 : decode cX12_expression 129 = .ok (.dup, 1) := by decide +kernel
theorem dX12_expression_130 : decode cX12_expression 130 = .ok (.getfield 209, 3) := by decide +kernel
theorem dX12_expression_133 : decode cX12_expression 133 = .ok (.iconst 1, 1) := by decide +kernel
theorem dX12_expression_134 : decode cX12_expression 134 = .ok (.isub, 1) := by decide +kernel
theorem dX12_expression_135 : decode cX12_expression 135 = .ok (.putfield 209, 3) := by decide +kernel
theorem dX12_expression_138 : decode cX12_expression 138 = .ok (.aload_n 0, 1) := by decide +kernel
theorem dX12_expression_139 : decode cX12_expression 139 = .ok (.invokevirtual 203, 3) := by decide +kernel
theorem dX12_expression_142 : decode cX12_expression 142 = .ok (.goto (-46), 3) := by decide +kernel
theorem dX12_expression_145 : decode cX12_expression 145 = .ok (.aload_n 0, 1) := by decide +kernel
theorem dX12_expression_146 : decode cX12_expression 146 = .ok (.bipush 8, 2) := by decide +kernel
theorem dX12_expression_148 : decode cX12_expression 148 = .ok (.invokevirtual 200, 3) := by decide +kernel
theorem dX12_expression_151 : decode cX12_expression 151 = .ok (.ifCond .ne 30, 3) := by decide +kernel
theorem dX12_expression_154 : decode cX12_expression 154 = .ok (.aload_n 0, 1) := by decide +kernel
theorem dX12_expression_155 : decode cX12_expression 155 = .ok (.bipush 9, 2) := by decide +kernel
theorem dX12_expression_157 : decode cX12_expression 157 = .ok (.invokevirtual 200, 3) := by decide +kernel
theorem dX12_expression_160 : decode cX12_expression 160 = .ok (.ifCond .ne 21, 3) := by decide +kernel
theorem dX12_expression_163 : decode cX12_expression 163 = .ok (.aload_n 0, 1) := by decide +kernel
theorem dX12_expression_164 : decode cX12_expression 164 = .ok (.bipush 10, 2) := by decide +kernel
theorem dX12_expression_166 : decode cX12_expression 166 = .ok (.invokevirtual 200, 3) := by decide +kernel
theorem dX12_expression_169 : decode cX12_expression 169 = .ok (.ifCond .ne 12, 3) := by decide +kernel
theorem dX12_expression_172 : decode cX12_expression 172 = .ok (.aload_n 0, 1) := by decide +kernel
theorem dX12_expression_173 : decode cX12_expression 173 = .ok (.bipush 15, 2) := by decide +kernel
theorem dX12_expression_175 : decode cX12_expression 175 = .ok (.invokevirtual 200, 3) := by decide +kernel
theorem dX12_expression_178 : decode cX12_expression 178 = .ok (.ifCond .eq 7, 3) := by decide +kernel
theorem dX12_expression_181 : decode cX12_expression 181 = .ok (.iconst 1, 1) := by decide +kernel
theorem dX12_expression_182 : decode cX12_expression 182 = .ok (.goto 4, 3) := by decide +kernel
theorem dX12_expression_185 : decode cX12_expression 185 = .ok (.iconst 0, 1) := by decide +kernel
theorem dX12_expression_186 : decode cX12_expression 186 = .ok (.istore_n 2, 1) := by decide +kernel
theorem dX12_expression_187 : decode cX12_expression 187 = .ok (.iload_n 2, 1) := by decide +kernel
theorem dX12_expression_188 : decode cX12_expression 188 = .ok (.ifCond .ne 22, 3) := by decide +kernel
theorem dX12_expression_191 : decode cX12_expression 191 = .ok (.aload_n 0, 1) := by decide +kernel
theorem dX12_expression_192 : decode cX12_expression 192 = .ok (.getfield 209, 3) := by decide +kernel
theorem dX12_expression_195 : decode cX12_expression 195 = .ok (.iload_n 1, 1) := by decide +kernel
theorem dX12_expression_196 : decode cX12_expression 196 = .ok (.if_icmp .le 8, 3) := by decide +kernel
theorem dX12_expression_199 : decode cX12_expression 199 = .ok (.aload_n 0, 1) := by decide +kernel
theorem dX12_expression_200 : decode cX12_expression 200 = .ok (.iconst 1, 1) := by decide +kernel
theorem dX12_expression_201 : decode cX12_expression 201 = .ok (.invokevirtual 197, 3) := by decide +kernel
theorem dX12_expression_204 : decode cX12_expression 204 = .ok (.aload_n 0, 1) := by decide +kernel
theorem dX12_expression_205 : decode cX12_expression 205 = .ok (.iconst 0, 1) := by decide +kernel
theorem dX12_expression_206 : decode cX12_expression 206 = .ok (.invokevirtual 268, 3) := by decide +kernel
theorem dX12_expression_209 : decode cX12_expression 209 = .ok (.return_, 1) := by decide +kernel
theorem dX12_expression_210 : decode cX12_expression 210 = .ok (.aload_n 0, 1) := by decide +kernel
theorem dX12_expression_211 : decode cX12_expression 211 = .ok (.aload_n 0, 1) := by decide +kernel
theorem dX12_expression_212 : decode cX12_expression 212 = .ok (.bipush 10, 2) := by decide +kernel
theorem dX12_expression_214 : decode cX12_expression 214 = .ok (.invokevirtual 200, 3) := by decide +kernel
theorem dX12_expression_217 : decode cX12_expression 217 = .ok (.ifCond .ne 12, 3) := by decide +kernel
theorem dX12_expression_220 : decode cX12_expression 220 = .ok (.aload_n 0, 1) := by decide +kernel
theorem dX12_expression_221 : decode cX12_expression 221 = .ok (.bipush 15, 2) := by decide +kernel
theorem dX12_expression_223 : decode cX12_expression 223 = .ok (.invokevirtual 200, 3) := by decide +kernel
theorem dX12_expression_226 : decode cX12_expression 226 = .ok (.ifCond .eq 7, 3) := by decide +kernel
theorem dX12_expression_229 : decode cX12_expression 229 = .ok (.iconst 1, 1) := by decide +kernel
theorem dX12_expression_230 : decode cX12_expression 230 = .ok (.goto 4, 3) := by decide +kernel
theorem dX12_expression_233 : decode cX12_expression 233 = .ok (.iconst 0, 1) := by decide +kernel
theorem dX12_expression_234 : decode cX12_expression 234 = .ok (.invokevirtual 268, 3) := by decide +kernel
theorem dX12_expression_237 : decode cX12_expression 237 = .ok (.aload_n 0, 1) := by decide +kernel
theorem dX12_expression_238 : decode cX12_expression 238 = .ok (.getfield 92, 3) := by decide +kernel
theorem dX12_expression_241 : decode cX12_expression 241 = .ok (.aload_n 0, 1) := by decide +kernel
theorem dX12_expression_242 : decode cX12_expression 242 = .ok (.getfield 259, 3) := by decide +kernel
theorem dX12_expression_245 : decode cX12_expression 245 = .ok (.aload_n 0, 1) := by decide +kernel
theorem dX12_expression_246 : decode cX12_expression 246 = .ok (.getfield 20, 3) := by decide +kernel
theorem dX12_expression_249 : decode cX12_expression 249 = .ok (.aload_n 0, 1) := by decide +kernel
theorem dX12_expression_250 : decode cX12_expression 250 = .ok (.getfield 185, 3) := by decide +kernel
theorem dX12_expression_253 : decode cX12_expression 253 = .ok (.iaload, 1) := by decide +kernel
theorem dX12_expression_254 : decode cX12_expression 254 = .ok (.iastore, 1) := by decide +kernel
theorem dX12_expression_255 : decode cX12_expression 255 = .ok (.aload_n 0, 1) := by decide +kernel
theorem dX12_expression_256 : decode cX12_expression 256 = .ok (.dup, 1) := by decide +kernel
theorem dX12_expression_257 : decode cX12_expression 257 = .ok (.getfield 259, 3) := by decide +kernel
theorem dX12_expression_260 : decode cX12_expression 260 = .ok (.iconst 1, 1) := by decide +kernel
theorem dX12_expression_261 : decode cX12_expression 261 = .ok (.iadd, 1) := by decide +kernel
theorem dX12_expression_262 : decode cX12_expression 262 = .ok (.putfield 259, 3) := by decide +kernel
theorem dX12_expression_265 : decode cX12_expression 265 = .ok (.aload_n 0, 1) := by decide +kernel
theorem dX12_expression_266 : decode cX12_expression 266 = .ok (.invokevirtual 203, 3) := by decide +kernel
theorem dX12_expression_269 : decode cX12_expression 269 = .ok (.goto (-257), 3) := by decide +kernel
theorem dX12_expression_272 : decode cX12_expression 272 = .ok (.return_, 1) := by decide +kernel
theorem dX12_unit_0 : decode cX12_unit 0 = .ok (.aload_n 0, 1) := by decide +kernel
theorem dX12_unit_1 : decode cX12_unit 1 = .ok (.iconst 2, 1) := by decide +kernel
theorem dX12_unit_2 : decode cX12_unit 2 = .ok (.invokevirtual 200, 3) := by decide +kernel
theorem dX12_unit_5 : decode cX12_unit 5 = .ok (.ifCond .eq 24, 3) := by decide +kernel
theorem dX12_unit_8 : decode cX12_unit 8 = .ok (.aload_n 0, 1) := by decide +kernel
theorem dX12_unit_9 : decode cX12_unit 9 = .ok (.iconst 0, 1) := by decide +kernel
theorem dX12_unit_10 : decode cX12_unit 10 = .ok (.aload_n 0, 1) := by decide +kernel
theorem dX12_unit_11 : decode cX12_unit 11 = .ok (.getfield 27, 3) := by decide +kernel
theorem dX12_unit_14 : decode cX12_unit 14 = .ok (.aload_n 0, 1) := by decide +kernel
theorem dX12_unit_15 : decode cX12_unit 15 = .ok (.getfield 185, 3) := by decide +kernel
theorem dX12_unit_18 : decode cX12_unit 18 = .ok (.iaload, 1) := by decide +kernel
theorem dX12_unit_19 : decode cX12_unit 19 = .ok (.invokevirtual 262, 3) := by decide +kernel
theorem dX12_unit_22 : decode cX12_unit 22 = .ok (.aload_n 0, 1) := by decide +kernel
theorem dX12_unit_23 : decode cX12_unit 23 = .ok (.invokevirtual 203, 3) := by decide +kernel
theorem dX12_unit_26 : decode cX12_unit 26 = .ok (.goto 67, 3) := by decide +kernel
theorem dX12_unit_29 : decode cX12_unit 29 = .ok (.aload_n 0, 1) := by decide +kernel
theorem dX12_unit_30 : decode cX12_unit 30 = .ok (.getfield 182, 3) := by decide +kernel
theorem dX12_unit_33 : decode cX12_unit 33 = .ok (.ifCond .ne 55, 3) := by decide +kernel
theorem dX12_unit_36 : decode cX12_unit 36 = .ok (.aload_n 0, 1) := by decide +kernel
theorem dX12_unit_37 : decode cX12_unit 37 = .ok (.getfield 20, 3) := by decide +kernel
theorem dX12_unit_40 : decode cX12_unit 40 = .ok (.aload_n 0, 1) := by decide +kernel
theorem dX12_unit_41 : decode cX12_unit 41 = .ok (.getfield 185, 3) := by decide +kernel
theorem dX12_unit_44 : decode cX12_unit 44 = .ok (.iaload, 1) := by decide +kernel
theorem dX12_unit_45 : decode cX12_unit 45 = .ok (.bipush 33, 2) := by decide +kernel
theorem dX12_unit_47 : decode cX12_unit 47 = .ok (.if_icmp .lt 41, 3) := by decide +kernel
theorem dX12_unit_50 : decode cX12_unit 50 = .ok (.aload_n 0, 1) := by decide +kernel
theorem dX12_unit_51 : decode cX12_unit 51 = .ok (.getfield 20, 3) := by decide +kernel
theorem dX12_unit_54 : decode cX12_unit 54 = .ok (.aload_n 0, 1) := by decide +kernel
theorem dX12_unit_55 : decode cX12_unit 55 = .ok (.getfield 185, 3) := by decide +kernel
theorem dX12_unit_58 : decode cX12_unit 58 = .ok (.iaload, 1) := by decide +kernel
theorem dX12_unit_59 : decode cX12_unit 59 = .ok (.bipush 39, 2) := by decide +kernel
theorem dX12_unit_61 : decode cX12_unit 61 = .ok (.if_icmp .gt 27, 3) := by decide +kernel
theorem dX12_unit_64 : decode cX12_unit 64 = .ok (.aload_n 0, 1) := by decide +kernel
theorem dX12_unit_65 : decode cX12_unit 65 = .ok (.iconst 1, 1) := by decide +kernel
theorem dX12_unit_66 : decode cX12_unit 66 = .ok (.aload_n 0, 1) := by decide +kernel
theorem dX12_unit_67 : decode cX12_unit 67 = .ok (.getfield 20, 3) := by decide +kernel
theorem dX12_unit_70 : decode cX12_unit 70 = .ok (.aload_n 0, 1) := by decide +kernel
theorem dX12_unit_71 : decode cX12_unit 71 = .ok (.getfield 185, 3) := by decide +kernel
theorem dX12_unit_74 : decode cX12_unit 74 = .ok (.iaload, 1) := by decide +kernel
theorem dX12_unit_75 : decode cX12_unit 75 = .ok (.bipush 33, 2) := by decide +kernel
theorem dX12_unit_77 : decode cX12_unit 77 = .ok (.isub, 1) := by decide +kernel
theorem dX12_unit_78 : decode cX12_unit 78 = .ok (.invokevirtual 262, 3) := by decide +kernel
theorem dX12_unit_81 : decode cX12_unit 81 = .ok (.aload_n 0, 1) := by decide +kernel
theorem dX12_unit_82 : decode cX12_unit 82 = .ok (.invokevirtual 203, 3) := by decide +kernel
theorem dX12_unit_85 : decode cX12_unit 85 = .ok (.goto 8, 3) := by decide +kernel
theorem dX12_unit_88 : decode cX12_unit 88 = .ok (.aload_n 0, 1) := by decide +kernel
theorem dX12_unit_89 : decode cX12_unit 89 = .ok (.iconst 1, 1) := by decide +kernel
theorem dX12_unit_90 : decode cX12_unit 90 = .ok (.invokevirtual 197, 3) := by decide +kernel
theorem dX12_unit_93 : decode cX12_unit 93 = .ok (.return_, 1) := by decide +kernel
theorem dX12_termOf_0 : decode cX12_termOf 0 = .ok (.iconst 0, 1) := by decide +kernel
theorem dX12_termOf_1 : decode cX12_termOf 1 = .ok (.istore_n 3, 1) := by decide +kernel
theorem dX12_termOf_2 : decode cX12_termOf 2 = .ok (.iload_n 1, 1) := by decide +kernel
theorem dX12_termOf_3 : decode cX12_termOf 3 = .ok (.istore 4, 2) := by decide +kernel
theorem dX12_termOf_5 : decode cX12_termOf 5 = .ok (.iload 4, 2) := by decide +kernel
theorem dX12_termOf_7 : decode cX12_termOf 7 = .ok (.iload_n 2, 1) := by decide +kernel
theorem dX12_termOf_8 : decode cX12_termOf 8 = .ok (.if_icmp .ge 157, 3) := by decide +kernel
theorem dX12_termOf_11 : decode cX12_termOf 11 = .ok (.aload_n 0, 1) := by decide +kernel
theorem dX12_termOf_12 : decode cX12_termOf 12 = .ok (.getfield 86, 3) := by decide +kernel
theorem dX12_termOf_15 : decode cX12_termOf 15 = .ok (.iload 4, 2) := by decide +kernel
theorem dX12_termOf_17 : decode cX12_termOf 17 = .ok (.iaload, 1) := by decide +kernel
theorem dX12_termOf_18 : decode cX12_termOf 18 = .ok (.istore 5, 2) := by decide +kernel
theorem dX12_termOf_20 : decode cX12_termOf 20 = .ok (.iload 5, 2) := by decide +kernel
theorem dX12_termOf_22 : decode cX12_termOf 22 = .ok (.iconst 2, 1) := by decide +kernel
theorem dX12_termOf_23 : decode cX12_termOf 23 = .ok (.if_icmp .ge 42, 3) := by decide +kernel
theorem dX12_termOf_26 : decode cX12_termOf 26 = .ok (.aload_n 0, 1) := by decide +kernel
theorem dX12_termOf_27 : decode cX12_termOf 27 = .ok (.getfield 98, 3) := by decide +kernel
theorem dX12_termOf_30 : decode cX12_termOf 30 = .ok (.iload_n 3, 1) := by decide +kernel
theorem dX12_termOf_31 : decode cX12_termOf 31 = .ok (.iload 5, 2) := by decide +kernel
theorem dX12_termOf_33 : decode cX12_termOf 33 = .ok (.ifCond .ne 13, 3) := by decide +kernel
theorem dX12_termOf_36 : decode cX12_termOf 36 = .ok (.aload_n 0, 1) := by decide +kernel
theorem dX12_termOf_37 : decode cX12_termOf 37 = .ok (.getfield 89, 3) := by decide +kernel
theorem dX12_termOf_40 : decode cX12_termOf 40 = .ok (.iload 4, 2) := by decide +kernel
theorem dX12_termOf_42 : decode cX12_termOf 42 = .ok (.iaload, 1) := by decide +kernel
theorem dX12_termOf_43 : decode cX12_termOf 43 = .ok (.goto 15, 3) := by decide +kernel
theorem dX12_termOf_46 : decode cX12_termOf 46 = .ok (.aload_n 0, 1) := by decide +kernel
theorem dX12_termOf_47 : decode cX12_termOf 47 = .ok (.getfield 95, 3) := by decide +kernel
theorem dX12_termOf_50 : decode cX12_termOf 50 = .ok (.aload_n 0, 1) := by decide +kernel
theorem dX12_termOf_51 : decode cX12_termOf 51 = .ok (.getfield 89, 3) := by decide +kernel
theorem dX12_termOf_54 : decode cX12_termOf 54 = .ok (.iload 4, 2) := by decide +kernel
theorem dX12_termOf_56 : decode cX12_termOf 56 = .ok (.iaload, 1) := by decide +kernel
theorem dX12_termOf_57 : decode cX12_termOf 57 = .ok (.iaload, 1) := by decide +kernel
theorem dX12_termOf_58 : decode cX12_termOf 58 = .ok (.iastore, 1) := by decide +kernel
theorem dX12_termOf_59 : decode cX12_termOf 59 = .ok (.iinc 3 1, 3) := by decide +kernel
theorem dX12_termOf_62 : decode cX12_termOf 62 = .ok (.goto 97, 3) := by decide +kernel
theorem dX12_termOf_65 : decode cX12_termOf 65 = .ok (.iinc 3 (-1), 3) := by decide +kernel
theorem dX12_termOf_68 : decode cX12_termOf 68 = .ok (.aload_n 0, 1) := by decide +kernel
theorem dX12_termOf_69 : decode cX12_termOf 69 = .ok (.getfield 98, 3) := by decide +kernel
theorem dX12_termOf_72 : decode cX12_termOf 72 = .ok (.iload_n 3, 1) := by decide +kernel
theorem dX12_termOf_73 : decode cX12_termOf 73 = .ok (.iconst 1, 1) := by decide +kernel
theorem dX12_termOf_74 : decode cX12_termOf 74 = .ok (.isub, 1) := by decide +kernel
theorem dX12_termOf_75 : decode cX12_termOf 75 = .ok (.iaload, 1) := by decide +kernel
theorem dX12_termOf_76 : decode cX12_termOf 76 = .ok (.istore 6, 2) := by decide +kernel
theorem dX12_termOf_78 : decode cX12_termOf 78 = .ok (.aload_n 0, 1) := by decide +kernel
theorem dX12_termOf_79 : decode cX12_termOf 79 = .ok (.getfield 98, 3) := by decide +kernel
theorem dX12_termOf_82 : decode cX12_termOf 82 = .ok (.iload_n 3, 1) := by decide +kernel
theorem dX12_termOf_83 : decode cX12_termOf 83 = .ok (.iaload, 1) := by decide +kernel
theorem dX12_termOf_84 : decode cX12_termOf 84 = .ok (.istore 7, 2) := by decide +kernel
theorem dX12_termOf_86 : decode cX12_termOf 86 = .ok (.iload 5, 2) := by decide +kernel
theorem dX12_termOf_88 : decode cX12_termOf 88 = .ok (.iconst 5, 1) := by decide +kernel
theorem dX12_termOf_89 : decode cX12_termOf 89 = .ok (.if_icmp .ne 15, 3) := by decide +kernel
theorem dX12_termOf_92 : decode cX12_termOf 92 = .ok (.iload 7, 2) := by decide +kernel
theorem dX12_termOf_94 : decode cX12_termOf 94 = .ok (.ifCond .ne 10, 3) := by decide +kernel
theorem dX12_termOf_97 : decode cX12_termOf 97 = .ok (.aload_n 0, 1) := by decide +kernel
theorem dX12_termOf_98 : decode cX12_termOf 98 = .ok (.iconst 1, 1) := by decide +kernel
theorem dX12_termOf_99 : decode cX12_termOf 99 = .ok (.putfield 272, 3) := by decide +kernel
theorem dX12_termOf_102 : decode cX12_termOf 102 = .ok (.iconst 0, 1) := by decide +kernel
theorem dX12_termOf_103 : decode cX12_termOf 103 = .ok (.ireturn, 1) := by decide +kernel
theorem dX12_termOf_104 : decode cX12_termOf 104 = .ok (.aload_n 0, 1) := by decide +kernel
theorem dX12_termOf_105 : decode cX12_termOf 105 = .ok (.getfield 98, 3) := by decide +kernel
theorem dX12_termOf_108 : decode cX12_termOf 108 = .ok (.iload_n 3, 1) := by decide +kernel
theorem dX12_termOf_109 : decode cX12_termOf 109 = .ok (.iconst 1, 1) := by decide +kernel
theorem dX12_termOf_110 : decode cX12_termOf 110 = .ok (.isub, 1) := by decide +kernel
theorem dX12_termOf_111 : decode cX12_termOf 111 = .ok (.iload 5, 2) := by decide +kernel
theorem dX12_termOf_113 : decode cX12_termOf 113 = .ok (.iconst 2, 1) := by decide +kernel
theorem dX12_termOf_114 : decode cX12_termOf 114 = .ok (.if_icmp .ne 11, 3) := by decide +kernel
theorem dX12_termOf_117 : decode cX12_termOf 117 = .ok (.iload 6, 2) := by decide +kernel
theorem dX12_termOf_119 : decode cX12_termOf 119 = .ok (.iload 7, 2) := by decide +kernel
theorem dX12_termOf_121 : decode cX12_termOf 121 = .ok (.iadd, 1) := by decide +kernel
theorem dX12_termOf_122 : decode cX12_termOf 122 = .ok (.goto 36, 3) := by decide +kernel
theorem dX12_termOf_125 : decode cX12_termOf 125 = .ok (.iload 5, 2) := by decide +kernel
theorem dX12_termOf_127 : decode cX12_termOf 127 = .ok (.iconst 3, 1) := by decide +kernel
theorem dX12_termOf_128 : decode cX12_termOf 128 = .ok (.if_icmp .ne 11, 3) := by decide +kernel
theorem dX12_termOf_131 : decode cX12_termOf 131 = .ok (.iload 6, 2) := by decide +kernel
theorem dX12_termOf_133 : decode cX12_termOf 133 = .ok (.iload 7, 2) := by decide +kernel
theorem dX12_termOf_135 : decode cX12_termOf 135 = .ok (.isub, 1) := by decide +kernel
theorem dX12_termOf_136 : decode cX12_termOf 136 = .ok (.goto 22, 3) := by decide +kernel
theorem dX12_termOf_139 : decode cX12_termOf 139 = .ok (.iload 5, 2) := by decide +kernel
theorem dX12_termOf_141 : decode cX12_termOf 141 = .ok (.iconst 4, 1) := by decide +kernel
theorem dX12_termOf_142 : decode cX12_termOf 142 = .ok (.if_icmp .ne 11, 3) := by decide +kernel
theorem dX12_termOf_145 : decode cX12_termOf 145 = .ok (.iload 6, 2) := by decide +kernel
theorem dX12_termOf_147 : decode cX12_termOf 147 = .ok (.iload 7, 2) := by decide +kernel
theorem dX12_termOf_149 : decode cX12_termOf 149 = .ok (.imul, 1) := by decide +kernel
theorem dX12_termOf_150 : decode cX12_termOf 150 = .ok (.goto 8, 3) := by decide +kernel
theorem dX12_termOf_153 : decode cX12_termOf 153 = .ok (.iload 6, 2) := by decide +kernel
theorem dX12_termOf_155 : decode cX12_termOf 155 = .ok (.iload 7, 2) := by decide +kernel
theorem dX12_termOf_157 : decode cX12_termOf 157 = .ok (.idiv, 1) := by decide +kernel
theorem dX12_termOf_158 : decode cX12_termOf 158 = .ok (.iastore, 1) := by decide +kernel
theorem dX12_termOf_159 : decode cX12_termOf 159 = .ok (.iinc 4 1, 3) := by decide +kernel
theorem dX12_termOf_162 : decode cX12_termOf 162 = .ok (.goto (-157), 3) := by decide +kernel
theorem dX12_termOf_165 : decode cX12_termOf 165 = .ok (.aload_n 0, 1) := by decide +kernel
theorem dX12_termOf_166 : decode cX12_termOf 166 = .ok (.getfield 98, 3) := by decide +kernel
theorem dX12_termOf_169 : decode cX12_termOf 169 = .ok (.iconst 0, 1) := by decide +kernel
theorem dX12_termOf_170 : decode cX12_termOf 170 = .ok (.iaload, 1) := by decide +kernel
theorem dX12_termOf_171 : decode cX12_termOf 171 = .ok (.ireturn, 1) := by decide +kernel
theorem dX12_in_0 : decode cX12_in 0 = .ok (.iload_n 0, 1) := by decide +kernel
theorem dX12_in_1 : decode cX12_in 1 = .ok (.iload_n 1, 1) := by decide +kernel
theorem dX12_in_2 : decode cX12_in 2 = .ok (.if_icmp .lt 12, 3) := by decide +kernel
theorem dX12_in_5 : decode cX12_in 5 = .ok (.iload_n 0, 1) := by decide +kernel
theorem dX12_in_6 : decode cX12_in 6 = .ok (.iload_n 2, 1) := by decide +kernel
theorem dX12_in_7 : decode cX12_in 7 = .ok (.if_icmp .gt 7, 3) := by decide +kernel
theorem dX12_in_10 : decode cX12_in 10 = .ok (.iconst 1, 1) := by decide +kernel
theorem dX12_in_11 : decode cX12_in 11 = .ok (.goto 4, 3) := by decide +kernel
theorem dX12_in_14 : decode cX12_in 14 = .ok (.iconst 0, 1) := by decide +kernel
theorem dX12_in_15 : decode cX12_in 15 = .ok (.ireturn, 1) := by decide +kernel
theorem dX12_copies_0 : decode cX12_copies 0 = .ok (.iconst 0, 1) := by decide +kernel
theorem dX12_copies_1 : decode cX12_copies 1 = .ok (.istore_n 1, 1) := by decide +kernel
theorem dX12_copies_2 : decode cX12_copies 2 = .ok (.iload_n 1, 1) := by decide +kernel
theorem dX12_copies_3 : decode cX12_copies 3 = .ok (.bipush 60, 2) := by decide +kernel
theorem dX12_copies_5 : decode cX12_copies 5 = .ok (.if_icmp .ge 21, 3) := by decide +kernel
theorem dX12_copies_8 : decode cX12_copies 8 = .ok (.aload_n 0, 1) := by decide +kernel
theorem dX12_copies_9 : decode cX12_copies 9 = .ok (.getfield 104, 3) := by decide +kernel
theorem dX12_copies_12 : decode cX12_copies 12 = .ok (.iload_n 1, 1) := by decide +kernel
theorem dX12_copies_13 : decode cX12_copies 13 = .ok (.aload_n 0, 1) := by decide +kernel
theorem dX12_copies_14 : decode cX12_copies 14 = .ok (.getfield 101, 3) := by decide +kernel
theorem dX12_copies_17 : decode cX12_copies 17 = .ok (.iload_n 1, 1) := by decide +kernel
theorem dX12_copies_18 : decode cX12_copies 18 = .ok (.iaload, 1) := by decide +kernel
theorem dX12_copies_19 : decode cX12_copies 19 = .ok (.iastore, 1) := by decide +kernel
theorem dX12_copies_20 : decode cX12_copies 20 = .ok (.iinc 1 1, 3) := by decide +kernel
theorem dX12_copies_23 : decode cX12_copies 23 = .ok (.goto (-21), 3) := by decide +kernel
theorem dX12_copies_26 : decode cX12_copies 26 = .ok (.return_, 1) := by decide +kernel
theorem dX12_isHouse_0 : decode cX12_isHouse 0 = .ok (.iload_n 1, 1) := by decide +kernel
theorem dX12_isHouse_1 : decode cX12_isHouse 1 = .ok (.iconst 0, 1) := by decide +kernel
theorem dX12_isHouse_2 : decode cX12_isHouse 2 = .ok (.aload_n 0, 1) := by decide +kernel
theorem dX12_isHouse_3 : decode cX12_isHouse 3 = .ok (.getfield 101, 3) := by decide +kernel
theorem dX12_isHouse_6 : decode cX12_isHouse 6 = .ok (.bipush 40, 2) := by decide +kernel
theorem dX12_isHouse_8 : decode cX12_isHouse 8 = .ok (.iaload, 1) := by decide +kernel
theorem dX12_isHouse_9 : decode cX12_isHouse 9 = .ok (.iconst 1, 1) := by decide +kernel
theorem dX12_isHouse_10 : decode cX12_isHouse 10 = .ok (.isub, 1) := by decide +kernel
theorem dX12_isHouse_11 : decode cX12_isHouse 11 = .ok (.invokestatic 276, 3) := by decide +kernel
theorem dX12_isHouse_14 : decode cX12_isHouse 14 = .ok (.ireturn, 1) := by decide +kernel
theorem dX12_shownOf_0 : decode cX12_shownOf 0 = .ok (.aload_n 0, 1) := by decide +kernel
theorem dX12_shownOf_1 : decode cX12_shownOf 1 = .ok (.getfield 104, 3) := by decide +kernel
theorem dX12_shownOf_4 : decode cX12_shownOf 4 = .ok (.iload_n 1, 1) := by decide +kernel
theorem dX12_shownOf_5 : decode cX12_shownOf 5 = .ok (.iaload, 1) := by decide +kernel
theorem dX12_shownOf_6 : decode cX12_shownOf 6 = .ok (.aload_n 0, 1) := by decide +kernel
theorem dX12_shownOf_7 : decode cX12_shownOf 7 = .ok (.getfield 104, 3) := by decide +kernel
theorem dX12_shownOf_10 : decode cX12_shownOf 10 = .ok (.bipush 10, 2) := by decide +kernel
theorem dX12_shownOf_12 : decode cX12_shownOf 12 = .ok (.iload_n 1, 1) := by decide +kernel
theorem dX12_shownOf_13 : decode cX12_shownOf 13 = .ok (.iadd, 1) := by decide +kernel
theorem dX12_shownOf_14 : decode cX12_shownOf 14 = .ok (.iaload, 1) := by decide +kernel
theorem dX12_shownOf_15 : decode cX12_shownOf 15 = .ok (.isub, 1) := by decide +kernel
theorem dX12_shownOf_16 : decode cX12_shownOf 16 = .ok (.ireturn, 1) := by decide +kernel
theorem dX12_beside_0 : decode cX12_beside 0 = .ok (.aload_n 0, 1) := by decide +kernel
theorem dX12_beside_1 : decode cX12_beside 1 = .ok (.getfield 104, 3) := by decide +kernel
theorem dX12_beside_4 : decode cX12_beside 4 = .ok (.bipush 40, 2) := by decide +kernel
theorem dX12_beside_6 : decode cX12_beside 6 = .ok (.iaload, 1) := by decide +kernel
theorem dX12_beside_7 : decode cX12_beside 7 = .ok (.istore_n 3, 1) := by decide +kernel
theorem dX12_beside_8 : decode cX12_beside 8 = .ok (.iload_n 1, 1) := by decide +kernel
theorem dX12_beside_9 : decode cX12_beside 9 = .ok (.iload_n 2, 1) := by decide +kernel
theorem dX12_beside_10 : decode cX12_beside 10 = .ok (.iadd, 1) := by decide +kernel
theorem dX12_beside_11 : decode cX12_beside 11 = .ok (.istore 4, 2) := by decide +kernel
theorem dX12_beside_13 : decode cX12_beside 13 = .ok (.iload 4, 2) := by decide +kernel
theorem dX12_beside_15 : decode cX12_beside 15 = .ok (.ifCond .lt 9, 3) := by decide +kernel
theorem dX12_beside_18 : decode cX12_beside 18 = .ok (.iload 4, 2) := by decide +kernel
theorem dX12_beside_20 : decode cX12_beside 20 = .ok (.iload_n 3, 1) := by decide +kernel
theorem dX12_beside_21 : decode cX12_beside 21 = .ok (.if_icmp .lt 35, 3) := by decide +kernel
theorem dX12_beside_24 : decode cX12_beside 24 = .ok (.aload_n 0, 1) := by decide +kernel
theorem dX12_beside_25 : decode cX12_beside 25 = .ok (.getfield 49, 3) := by decide +kernel
theorem dX12_beside_28 : decode cX12_beside 28 = .ok (.aload_n 0, 1) := by decide +kernel
theorem dX12_beside_29 : decode cX12_beside 29 = .ok (.getfield 212, 3) := by decide +kernel
theorem dX12_beside_32 : decode cX12_beside 32 = .ok (.baload, 1) := by decide +kernel
theorem dX12_beside_33 : decode cX12_beside 33 = .ok (.ifCond .eq 9, 3) := by decide +kernel
theorem dX12_beside_36 : decode cX12_beside 36 = .ok (.aload_n 0, 1) := by decide +kernel
theorem dX12_beside_37 : decode cX12_beside 37 = .ok (.iload_n 1, 1) := by decide +kernel
theorem dX12_beside_38 : decode cX12_beside 38 = .ok (.invokevirtual 280, 3) := by decide +kernel
theorem dX12_beside_41 : decode cX12_beside 41 = .ok (.ireturn, 1) := by decide +kernel
theorem dX12_beside_42 : decode cX12_beside 42 = .ok (.iload 4, 2) := by decide +kernel
theorem dX12_beside_44 : decode cX12_beside 44 = .ok (.ifCond .ge 9, 3) := by decide +kernel
theorem dX12_beside_47 : decode cX12_beside 47 = .ok (.iload_n 3, 1) := by decide +kernel
theorem dX12_beside_48 : decode cX12_beside 48 = .ok (.iconst 1, 1) := by decide +kernel
theorem dX12_beside_49 : decode cX12_beside 49 = .ok (.isub, 1) := by decide +kernel
theorem dX12_beside_50 : decode cX12_beside 50 = .ok (.goto 4, 3) := by decide +kernel
theorem dX12_beside_53 : decode cX12_beside 53 = .ok (.iconst 0, 1) := by decide +kernel
theorem dX12_beside_54 : decode cX12_beside 54 = .ok (.istore 4, 2) := by decide +kernel
theorem dX12_beside_56 : decode cX12_beside 56 = .ok (.aload_n 0, 1) := by decide +kernel
theorem dX12_beside_57 : decode cX12_beside 57 = .ok (.iload 4, 2) := by decide +kernel
theorem dX12_beside_59 : decode cX12_beside 59 = .ok (.invokevirtual 280, 3) := by decide +kernel
theorem dX12_beside_62 : decode cX12_beside 62 = .ok (.ireturn, 1) := by decide +kernel
theorem dX12_mixed_0 : decode cX12_mixed 0 = .ok (.iload_n 0, 1) := by decide +kernel
theorem dX12_mixed_1 : decode cX12_mixed 1 = .ok (.iload_n 1, 1) := by decide +kernel
theorem dX12_mixed_2 : decode cX12_mixed 2 = .ok (.ixor, 1) := by decide +kernel
theorem dX12_mixed_3 : decode cX12_mixed 3 = .ok (.ldc_w 283, 3) := by decide +kernel
theorem dX12_mixed_6 : decode cX12_mixed 6 = .ok (.imul, 1) := by decide +kernel
theorem dX12_mixed_7 : decode cX12_mixed 7 = .ok (.sipush 12345, 3) := by decide +kernel
theorem dX12_mixed_10 : decode cX12_mixed 10 = .ok (.iadd, 1) := by decide +kernel
theorem dX12_mixed_11 : decode cX12_mixed 11 = .ok (.istore_n 2, 1) := by decide +kernel
theorem dX12_mixed_12 : decode cX12_mixed 12 = .ok (.iload_n 2, 1) := by decide +kernel
theorem dX12_mixed_13 : decode cX12_mixed 13 = .ok (.iload_n 2, 1) := by decide +kernel
theorem dX12_mixed_14 : decode cX12_mixed 14 = .ok (.bipush 15, 2) := by decide +kernel
theorem dX12_mixed_16 : decode cX12_mixed 16 = .ok (.iushr, 1) := by decide +kernel
theorem dX12_mixed_17 : decode cX12_mixed 17 = .ok (.ixor, 1) := by decide +kernel
theorem dX12_mixed_18 : decode cX12_mixed 18 = .ok (.ireturn, 1) := by decide +kernel
theorem dX12_lot_0 : decode cX12_lot 0 = .ok (.iload_n 0, 1) := by decide +kernel
theorem dX12_lot_1 : decode cX12_lot 1 = .ok (.bipush 25, 2) := by decide +kernel
theorem dX12_lot_3 : decode cX12_lot 3 = .ok (.invokestatic 284, 3) := by decide +kernel
theorem dX12_lot_6 : decode cX12_lot 6 = .ok (.iload_n 1, 1) := by decide +kernel
theorem dX12_lot_7 : decode cX12_lot 7 = .ok (.invokestatic 284, 3) := by decide +kernel
theorem dX12_lot_10 : decode cX12_lot 10 = .ok (.iconst 1, 1) := by decide +kernel
theorem dX12_lot_11 : decode cX12_lot 11 = .ok (.iushr, 1) := by decide +kernel
theorem dX12_lot_12 : decode cX12_lot 12 = .ok (.iload_n 2, 1) := by decide +kernel
theorem dX12_lot_13 : decode cX12_lot 13 = .ok (.irem, 1) := by decide +kernel
theorem dX12_lot_14 : decode cX12_lot 14 = .ok (.ireturn, 1) := by decide +kernel
theorem dX12_gapOf_0 : decode cX12_gapOf 0 = .ok (.aload_n 0, 1) := by decide +kernel
theorem dX12_gapOf_1 : decode cX12_gapOf 1 = .ok (.iload_n 1, 1) := by decide +kernel
theorem dX12_gapOf_2 : decode cX12_gapOf 2 = .ok (.iconst (-1), 1) := by decide +kernel
theorem dX12_gapOf_3 : decode cX12_gapOf 3 = .ok (.invokevirtual 287, 3) := by decide +kernel
theorem dX12_gapOf_6 : decode cX12_gapOf 6 = .ok (.aload_n 0, 1) := by decide +kernel
theorem dX12_gapOf_7 : decode cX12_gapOf 7 = .ok (.iload_n 1, 1) := by decide +kernel
theorem dX12_gapOf_8 : decode cX12_gapOf 8 = .ok (.iconst 1, 1) := by decide +kernel
theorem dX12_gapOf_9 : decode cX12_gapOf 9 = .ok (.invokevirtual 287, 3) := by decide +kernel
theorem dX12_gapOf_12 : decode cX12_gapOf 12 = .ok (.isub, 1) := by decide +kernel
theorem dX12_gapOf_13 : decode cX12_gapOf 13 = .ok (.istore_n 2, 1) := by decide +kernel
theorem dX12_gapOf_14 : decode cX12_gapOf 14 = .ok (.iload_n 2, 1) := by decide +kernel
theorem dX12_gapOf_15 : decode cX12_gapOf 15 = .ok (.ifCond .ge 8, 3) := by decide +kernel
theorem dX12_gapOf_18 : decode cX12_gapOf 18 = .ok (.iload_n 2, 1) := by decide +kernel
theorem dX12_gapOf_19 : decode cX12_gapOf 19 = .ok (.ineg, 1) := by decide +kernel
theorem dX12_gapOf_20 : decode cX12_gapOf 20 = .ok (.goto 4, 3) := by decide +kernel
theorem dX12_gapOf_23 : decode cX12_gapOf 23 = .ok (.iload_n 2, 1) := by decide +kernel
theorem dX12_gapOf_24 : decode cX12_gapOf 24 = .ok (.ireturn, 1) := by decide +kernel
theorem dX12_tellsBy_0 : decode cX12_tellsBy 0 = .ok (.aload_n 0, 1) := by decide +kernel
theorem dX12_tellsBy_1 : decode cX12_tellsBy 1 = .ok (.getfield 65, 3) := by decide +kernel
theorem dX12_tellsBy_4 : decode cX12_tellsBy 4 = .ok (.iconst 2, 1) := by decide +kernel
theorem dX12_tellsBy_5 : decode cX12_tellsBy 5 = .ok (.aload_n 0, 1) := by decide +kernel
theorem dX12_tellsBy_6 : decode cX12_tellsBy 6 = .ok (.getfield 212, 3) := by decide +kernel
theorem dX12_tellsBy_9 : decode cX12_tellsBy 9 = .ok (.imul, 1) := by decide +kernel
theorem dX12_tellsBy_10 : decode cX12_tellsBy 10 = .ok (.iload_n 1, 1) := by decide +kernel
theorem dX12_tellsBy_11 : decode cX12_tellsBy 11 = .ok (.iadd, 1) := by decide +kernel
theorem dX12_tellsBy_12 : decode cX12_tellsBy 12 = .ok (.iaload, 1) := by decide +kernel
theorem dX12_tellsBy_13 : decode cX12_tellsBy 13 = .ok (.istore 5, 2) := by decide +kernel
theorem dX12_tellsBy_15 : decode cX12_tellsBy 15 = .ok (.aload_n 0, 1) := by decide +kernel
theorem dX12_tellsBy_16 : decode cX12_tellsBy 16 = .ok (.getfield 68, 3) := by decide +kernel
theorem dX12_tellsBy_19 : decode cX12_tellsBy 19 = .ok (.iconst 2, 1) := by decide +kernel
theorem dX12_tellsBy_20 : decode cX12_tellsBy 20 = .ok (.aload_n 0, 1) := by decide +kernel
theorem dX12_tellsBy_21 : decode cX12_tellsBy 21 = .ok (.getfield 212, 3) := by decide +kernel
theorem dX12_tellsBy_24 : decode cX12_tellsBy 24 = .ok (.imul, 1) := by decide +kernel
theorem dX12_tellsBy_25 : decode cX12_tellsBy 25 = .ok (.iload_n 1, 1) := by decide +kernel
theorem dX12_tellsBy_26 : decode cX12_tellsBy 26 = .ok (.iadd, 1) := by decide +kernel
theorem dX12_tellsBy_27 : decode cX12_tellsBy 27 = .ok (.iaload, 1) := by decide +kernel
theorem dX12_tellsBy_28 : decode cX12_tellsBy 28 = .ok (.istore 6, 2) := by decide +kernel
theorem dX12_tellsBy_30 : decode cX12_tellsBy 30 = .ok (.iload 5, 2) := by decide +kernel
theorem dX12_tellsBy_32 : decode cX12_tellsBy 32 = .ok (.iload 6, 2) := by decide +kernel
theorem dX12_tellsBy_34 : decode cX12_tellsBy 34 = .ok (.if_icmp .ne 16, 3) := by decide +kernel
theorem dX12_tellsBy_37 : decode cX12_tellsBy 37 = .ok (.iload_n 3, 1) := by decide +kernel
theorem dX12_tellsBy_38 : decode cX12_tellsBy 38 = .ok (.iload 4, 2) := by decide +kernel
theorem dX12_tellsBy_40 : decode cX12_tellsBy 40 = .ok (.if_icmp .le 8, 3) := by decide +kernel
theorem dX12_tellsBy_43 : decode cX12_tellsBy 43 = .ok (.iload 4, 2) := by decide +kernel
theorem dX12_tellsBy_45 : decode cX12_tellsBy 45 = .ok (.goto 4, 3) := by decide +kernel
theorem dX12_tellsBy_48 : decode cX12_tellsBy 48 = .ok (.iload_n 3, 1) := by decide +kernel
theorem dX12_tellsBy_49 : decode cX12_tellsBy 49 = .ok (.ireturn, 1) := by decide +kernel
theorem dX12_tellsBy_50 : decode cX12_tellsBy 50 = .ok (.aload_n 0, 1) := by decide +kernel
theorem dX12_tellsBy_51 : decode cX12_tellsBy 51 = .ok (.getfield 95, 3) := by decide +kernel
theorem dX12_tellsBy_54 : decode cX12_tellsBy 54 = .ok (.iconst 0, 1) := by decide +kernel
theorem dX12_tellsBy_55 : decode cX12_tellsBy 55 = .ok (.aload_n 0, 1) := by decide +kernel
theorem dX12_tellsBy_56 : decode cX12_tellsBy 56 = .ok (.iload_n 2, 1) := by decide +kernel
theorem dX12_tellsBy_57 : decode cX12_tellsBy 57 = .ok (.iconst (-1), 1) := by decide +kernel
theorem dX12_tellsBy_58 : decode cX12_tellsBy 58 = .ok (.invokevirtual 287, 3) := by decide +kernel
theorem dX12_tellsBy_61 : decode cX12_tellsBy 61 = .ok (.iastore, 1) := by decide +kernel
theorem dX12_tellsBy_62 : decode cX12_tellsBy 62 = .ok (.aload_n 0, 1) := by decide +kernel
theorem dX12_tellsBy_63 : decode cX12_tellsBy 63 = .ok (.getfield 95, 3) := by decide +kernel
theorem dX12_tellsBy_66 : decode cX12_tellsBy 66 = .ok (.iconst 1, 1) := by decide +kernel
theorem dX12_tellsBy_67 : decode cX12_tellsBy 67 = .ok (.aload_n 0, 1) := by decide +kernel
theorem dX12_tellsBy_68 : decode cX12_tellsBy 68 = .ok (.iload_n 2, 1) := by decide +kernel
theorem dX12_tellsBy_69 : decode cX12_tellsBy 69 = .ok (.iconst 1, 1) := by decide +kernel
theorem dX12_tellsBy_70 : decode cX12_tellsBy 70 = .ok (.invokevirtual 287, 3) := by decide +kernel
theorem dX12_tellsBy_73 : decode cX12_tellsBy 73 = .ok (.iastore, 1) := by decide +kernel
theorem dX12_tellsBy_74 : decode cX12_tellsBy 74 = .ok (.aload_n 0, 1) := by decide +kernel
theorem dX12_tellsBy_75 : decode cX12_tellsBy 75 = .ok (.getfield 95, 3) := by decide +kernel
theorem dX12_tellsBy_78 : decode cX12_tellsBy 78 = .ok (.iconst 2, 1) := by decide +kernel
theorem dX12_tellsBy_79 : decode cX12_tellsBy 79 = .ok (.aload_n 0, 1) := by decide +kernel
theorem dX12_tellsBy_80 : decode cX12_tellsBy 80 = .ok (.iload_n 2, 1) := by decide +kernel
theorem dX12_tellsBy_81 : decode cX12_tellsBy 81 = .ok (.invokevirtual 280, 3) := by decide +kernel
theorem dX12_tellsBy_84 : decode cX12_tellsBy 84 = .ok (.iastore, 1) := by decide +kernel
theorem dX12_tellsBy_85 : decode cX12_tellsBy 85 = .ok (.aload_n 0, 1) := by decide +kernel
theorem dX12_tellsBy_86 : decode cX12_tellsBy 86 = .ok (.getfield 95, 3) := by decide +kernel
theorem dX12_tellsBy_89 : decode cX12_tellsBy 89 = .ok (.iconst 3, 1) := by decide +kernel
theorem dX12_tellsBy_90 : decode cX12_tellsBy 90 = .ok (.aload_n 0, 1) := by decide +kernel
theorem dX12_tellsBy_91 : decode cX12_tellsBy 91 = .ok (.iload_n 2, 1) := by decide +kernel
theorem dX12_tellsBy_92 : decode cX12_tellsBy 92 = .ok (.invokevirtual 290, 3) := by decide +kernel
theorem dX12_tellsBy_95 : decode cX12_tellsBy 95 = .ok (.iastore, 1) := by decide +kernel
theorem dX12_tellsBy_96 : decode cX12_tellsBy 96 = .ok (.aload_n 0, 1) := by decide +kernel
theorem dX12_tellsBy_97 : decode cX12_tellsBy 97 = .ok (.getfield 95, 3) := by decide +kernel
theorem dX12_tellsBy_100 : decode cX12_tellsBy 100 = .ok (.iconst 4, 1) := by decide +kernel
theorem dX12_tellsBy_101 : decode cX12_tellsBy 101 = .ok (.aload_n 0, 1) := by decide +kernel
theorem dX12_tellsBy_102 : decode cX12_tellsBy 102 = .ok (.getfield 104, 3) := by decide +kernel
theorem dX12_tellsBy_105 : decode cX12_tellsBy 105 = .ok (.bipush 42, 2) := by decide +kernel
theorem dX12_tellsBy_107 : decode cX12_tellsBy 107 = .ok (.iaload, 1) := by decide +kernel
theorem dX12_tellsBy_108 : decode cX12_tellsBy 108 = .ok (.iastore, 1) := by decide +kernel
theorem dX12_tellsBy_109 : decode cX12_tellsBy 109 = .ok (.aload_n 0, 1) := by decide +kernel
theorem dX12_tellsBy_110 : decode cX12_tellsBy 110 = .ok (.getfield 95, 3) := by decide +kernel
theorem dX12_tellsBy_113 : decode cX12_tellsBy 113 = .ok (.iconst 5, 1) := by decide +kernel
theorem dX12_tellsBy_114 : decode cX12_tellsBy 114 = .ok (.aload_n 0, 1) := by decide +kernel
theorem dX12_tellsBy_115 : decode cX12_tellsBy 115 = .ok (.getfield 62, 3) := by decide +kernel
theorem dX12_tellsBy_118 : decode cX12_tellsBy 118 = .ok (.aload_n 0, 1) := by decide +kernel
theorem dX12_tellsBy_119 : decode cX12_tellsBy 119 = .ok (.getfield 212, 3) := by decide +kernel
theorem dX12_tellsBy_122 : decode cX12_tellsBy 122 = .ok (.iaload, 1) := by decide +kernel
theorem dX12_tellsBy_123 : decode cX12_tellsBy 123 = .ok (.bipush 20, 2) := by decide +kernel
theorem dX12_tellsBy_125 : decode cX12_tellsBy 125 = .ok (.aload_n 0, 1) := by decide +kernel
theorem dX12_tellsBy_126 : decode cX12_tellsBy 126 = .ok (.getfield 104, 3) := by decide +kernel
theorem dX12_tellsBy_129 : decode cX12_tellsBy 129 = .ok (.bipush 42, 2) := by decide +kernel
theorem dX12_tellsBy_131 : decode cX12_tellsBy 131 = .ok (.iaload, 1) := by decide +kernel
theorem dX12_tellsBy_132 : decode cX12_tellsBy 132 = .ok (.imul, 1) := by decide +kernel
theorem dX12_tellsBy_133 : decode cX12_tellsBy 133 = .ok (.iload_n 2, 1) := by decide +kernel
theorem dX12_tellsBy_134 : decode cX12_tellsBy 134 = .ok (.iadd, 1) := by decide +kernel
theorem dX12_tellsBy_135 : decode cX12_tellsBy 135 = .ok (.bipush 100, 2) := by decide +kernel
theorem dX12_tellsBy_137 : decode cX12_tellsBy 137 = .ok (.invokestatic 293, 3) := by decide +kernel
theorem dX12_tellsBy_140 : decode cX12_tellsBy 140 = .ok (.iastore, 1) := by decide +kernel
theorem dX12_tellsBy_141 : decode cX12_tellsBy 141 = .ok (.aload_n 0, 1) := by decide +kernel
theorem dX12_tellsBy_142 : decode cX12_tellsBy 142 = .ok (.getfield 95, 3) := by decide +kernel
theorem dX12_tellsBy_145 : decode cX12_tellsBy 145 = .ok (.bipush 6, 2) := by decide +kernel
theorem dX12_tellsBy_147 : decode cX12_tellsBy 147 = .ok (.aload_n 0, 1) := by decide +kernel
theorem dX12_tellsBy_148 : decode cX12_tellsBy 148 = .ok (.getfield 104, 3) := by decide +kernel
theorem dX12_tellsBy_151 : decode cX12_tellsBy 151 = .ok (.bipush 41, 2) := by decide +kernel
theorem dX12_tellsBy_153 : decode cX12_tellsBy 153 = .ok (.iaload, 1) := by decide +kernel
theorem dX12_tellsBy_154 : decode cX12_tellsBy 154 = .ok (.iastore, 1) := by decide +kernel
theorem dX12_tellsBy_155 : decode cX12_tellsBy 155 = .ok (.aload_n 0, 1) := by decide +kernel
theorem dX12_tellsBy_156 : decode cX12_tellsBy 156 = .ok (.iconst 0, 1) := by decide +kernel
theorem dX12_tellsBy_157 : decode cX12_tellsBy 157 = .ok (.putfield 272, 3) := by decide +kernel
theorem dX12_tellsBy_160 : decode cX12_tellsBy 160 = .ok (.iload 5, 2) := by decide +kernel
theorem dX12_tellsBy_162 : decode cX12_tellsBy 162 = .ok (.istore 7, 2) := by decide +kernel
theorem dX12_tellsBy_164 : decode cX12_tellsBy 164 = .ok (.iload 7, 2) := by decide +kernel
theorem dX12_tellsBy_166 : decode cX12_tellsBy 166 = .ok (.iload 6, 2) := by decide +kernel
theorem dX12_tellsBy_168 : decode cX12_tellsBy 168 = .ok (.if_icmp .ge 129, 3) := by decide +kernel
theorem dX12_tellsBy_171 : decode cX12_tellsBy 171 = .ok (.aload_n 0, 1) := by decide +kernel
theorem dX12_tellsBy_172 : decode cX12_tellsBy 172 = .ok (.getfield 71, 3) := by decide +kernel
theorem dX12_tellsBy_175 : decode cX12_tellsBy 175 = .ok (.iload 7, 2) := by decide +kernel
theorem dX12_tellsBy_177 : decode cX12_tellsBy 177 = .ok (.baload, 1) := by decide +kernel
theorem dX12_tellsBy_178 : decode cX12_tellsBy 178 = .ok (.ifCond .eq 62, 3) := by decide +kernel
theorem dX12_tellsBy_181 : decode cX12_tellsBy 181 = .ok (.aload_n 0, 1) := by decide +kernel
theorem dX12_tellsBy_182 : decode cX12_tellsBy 182 = .ok (.aload_n 0, 1) := by decide +kernel
theorem dX12_tellsBy_183 : decode cX12_tellsBy 183 = .ok (.getfield 74, 3) := by decide +kernel
theorem dX12_tellsBy_186 : decode cX12_tellsBy 186 = .ok (.iload 7, 2) := by decide +kernel
theorem dX12_tellsBy_188 : decode cX12_tellsBy 188 = .ok (.iaload, 1) := by decide +kernel
theorem dX12_tellsBy_189 : decode cX12_tellsBy 189 = .ok (.aload_n 0, 1) := by decide +kernel
theorem dX12_tellsBy_190 : decode cX12_tellsBy 190 = .ok (.getfield 77, 3) := by decide +kernel
theorem dX12_tellsBy_193 : decode cX12_tellsBy 193 = .ok (.iload 7, 2) := by decide +kernel
theorem dX12_tellsBy_195 : decode cX12_tellsBy 195 = .ok (.iaload, 1) := by decide +kernel
theorem dX12_tellsBy_196 : decode cX12_tellsBy 196 = .ok (.invokevirtual 296, 3) := by decide +kernel
theorem dX12_tellsBy_199 : decode cX12_tellsBy 199 = .ok (.istore 8, 2) := by decide +kernel
theorem dX12_tellsBy_201 : decode cX12_tellsBy 201 = .ok (.aload_n 0, 1) := by decide +kernel
theorem dX12_tellsBy_202 : decode cX12_tellsBy 202 = .ok (.aload_n 0, 1) := by decide +kernel
theorem dX12_tellsBy_203 : decode cX12_tellsBy 203 = .ok (.getfield 77, 3) := by decide +kernel
theorem dX12_tellsBy_206 : decode cX12_tellsBy 206 = .ok (.iload 7, 2) := by decide +kernel
theorem dX12_tellsBy_208 : decode cX12_tellsBy 208 = .ok (.iaload, 1) := by decide +kernel
theorem dX12_tellsBy_209 : decode cX12_tellsBy 209 = .ok (.aload_n 0, 1) := by decide +kernel
theorem dX12_tellsBy_210 : decode cX12_tellsBy 210 = .ok (.getfield 80, 3) := by decide +kernel
theorem dX12_tellsBy_213 : decode cX12_tellsBy 213 = .ok (.iload 7, 2) := by decide +kernel
theorem dX12_tellsBy_215 : decode cX12_tellsBy 215 = .ok (.iaload, 1) := by decide +kernel
theorem dX12_tellsBy_216 : decode cX12_tellsBy 216 = .ok (.invokevirtual 296, 3) := by decide +kernel
theorem dX12_tellsBy_219 : decode cX12_tellsBy 219 = .ok (.istore 9, 2) := by decide +kernel
theorem dX12_tellsBy_221 : decode cX12_tellsBy 221 = .ok (.aload_n 0, 1) := by decide +kernel
theorem dX12_tellsBy_222 : decode cX12_tellsBy 222 = .ok (.getfield 272, 3) := by decide +kernel
theorem dX12_tellsBy_225 : decode cX12_tellsBy 225 = .ok (.ifCond .eq 5, 3) := by decide +kernel
theorem dX12_tellsBy_228 : decode cX12_tellsBy 228 = .ok (.iconst 0, 1) := by decide +kernel
theorem dX12_tellsBy_229 : decode cX12_tellsBy 229 = .ok (.ireturn, 1) := by decide +kernel
theorem dX12_tellsBy_230 : decode cX12_tellsBy 230 = .ok (.iload 8, 2) := by decide +kernel
theorem dX12_tellsBy_232 : decode cX12_tellsBy 232 = .ok (.iload 9, 2) := by decide +kernel
theorem dX12_tellsBy_234 : decode cX12_tellsBy 234 = .ok (.if_icmp .lt 6, 3) := by decide +kernel
theorem dX12_tellsBy_237 : decode cX12_tellsBy 237 = .ok (.goto 54, 3) := by decide +kernel
theorem dX12_tellsBy_240 : decode cX12_tellsBy 240 = .ok (.aload_n 0, 1) := by decide +kernel
theorem dX12_tellsBy_241 : decode cX12_tellsBy 241 = .ok (.aload_n 0, 1) := by decide +kernel
theorem dX12_tellsBy_242 : decode cX12_tellsBy 242 = .ok (.getfield 80, 3) := by decide +kernel
theorem dX12_tellsBy_245 : decode cX12_tellsBy 245 = .ok (.iload 7, 2) := by decide +kernel
theorem dX12_tellsBy_247 : decode cX12_tellsBy 247 = .ok (.iaload, 1) := by decide +kernel
theorem dX12_tellsBy_248 : decode cX12_tellsBy 248 = .ok (.aload_n 0, 1) := by decide +kernel
theorem dX12_tellsBy_249 : decode cX12_tellsBy 249 = .ok (.getfield 83, 3) := by decide +kernel
theorem dX12_tellsBy_252 : decode cX12_tellsBy 252 = .ok (.iload 7, 2) := by decide +kernel
theorem dX12_tellsBy_254 : decode cX12_tellsBy 254 = .ok (.iaload, 1) := by decide +kernel
theorem dX12_tellsBy_255 : decode cX12_tellsBy 255 = .ok (.invokevirtual 296, 3) := by decide +kernel
theorem dX12_tellsBy_258 : decode cX12_tellsBy 258 = .ok (.istore 8, 2) := by decide +kernel
theorem dX12_tellsBy_260 : decode cX12_tellsBy 260 = .ok (.aload_n 0, 1) := by decide +kernel
theorem dX12_tellsBy_261 : decode cX12_tellsBy 261 = .ok (.getfield 272, 3) := by decide +kernel
theorem dX12_tellsBy_264 : decode cX12_tellsBy 264 = .ok (.ifCond .ne 8, 3) := by decide +kernel
theorem dX12_tellsBy_267 : decode cX12_tellsBy 267 = .ok (.iload 8, 2) := by decide +kernel
theorem dX12_tellsBy_269 : decode cX12_tellsBy 269 = .ok (.ifCond .ge 7, 3) := by decide +kernel
theorem dX12_tellsBy_272 : decode cX12_tellsBy 272 = .ok (.iconst 0, 1) := by decide +kernel
theorem dX12_tellsBy_273 : decode cX12_tellsBy 273 = .ok (.goto 17, 3) := by decide +kernel
theorem dX12_tellsBy_276 : decode cX12_tellsBy 276 = .ok (.iload 8, 2) := by decide +kernel
theorem dX12_tellsBy_278 : decode cX12_tellsBy 278 = .ok (.iload 4, 2) := by decide +kernel
theorem dX12_tellsBy_280 : decode cX12_tellsBy 280 = .ok (.if_icmp .le 8, 3) := by decide +kernel
theorem dX12_tellsBy_283 : decode cX12_tellsBy 283 = .ok (.iload 4, 2) := by decide +kernel
theorem dX12_tellsBy_285 : decode cX12_tellsBy 285 = .ok (.goto 5, 3) := by decide +kernel
theorem dX12_tellsBy_288 : decode cX12_tellsBy 288 = .ok (.iload 8, 2) := by decide +kernel
theorem dX12_tellsBy_290 : decode cX12_tellsBy 290 = .ok (.ireturn, 1) := by decide +kernel
theorem dX12_tellsBy_291 : decode cX12_tellsBy 291 = .ok (.iinc 7 1, 3) := by decide +kernel
theorem dX12_tellsBy_294 : decode cX12_tellsBy 294 = .ok (.goto (-130), 3) := by decide +kernel
theorem dX12_tellsBy_297 : decode cX12_tellsBy 297 = .ok (.iconst 0, 1) := by decide +kernel
theorem dX12_tellsBy_298 : decode cX12_tellsBy 298 = .ok (.ireturn, 1) := by decide +kernel
theorem dX12_wanted_0 : decode cX12_wanted 0 = .ok (.aload_n 0, 1) := by decide +kernel
theorem dX12_wanted_1 : decode cX12_wanted 1 = .ok (.iconst 0, 1) := by decide +kernel
theorem dX12_wanted_2 : decode cX12_wanted 2 = .ok (.iload_n 1, 1) := by decide +kernel
theorem dX12_wanted_3 : decode cX12_wanted 3 = .ok (.aload_n 0, 1) := by decide +kernel
theorem dX12_wanted_4 : decode cX12_wanted 4 = .ok (.iload_n 1, 1) := by decide +kernel
theorem dX12_wanted_5 : decode cX12_wanted 5 = .ok (.invokevirtual 290, 3) := by decide +kernel
theorem dX12_wanted_8 : decode cX12_wanted 8 = .ok (.aload_n 0, 1) := by decide +kernel
theorem dX12_wanted_9 : decode cX12_wanted 9 = .ok (.iload_n 1, 1) := by decide +kernel
theorem dX12_wanted_10 : decode cX12_wanted 10 = .ok (.invokevirtual 280, 3) := by decide +kernel
theorem dX12_wanted_13 : decode cX12_wanted 13 = .ok (.invokevirtual 299, 3) := by decide +kernel
theorem dX12_wanted_16 : decode cX12_wanted 16 = .ok (.ireturn, 1) := by decide +kernel
theorem dX12_earnAll_0 : decode cX12_earnAll 0 = .ok (.iconst 0, 1) := by decide +kernel
theorem dX12_earnAll_1 : decode cX12_earnAll 1 = .ok (.istore_n 1, 1) := by decide +kernel
theorem dX12_earnAll_2 : decode cX12_earnAll 2 = .ok (.iload_n 1, 1) := by decide +kernel
theorem dX12_earnAll_3 : decode cX12_earnAll 3 = .ok (.aload_n 0, 1) := by decide +kernel
theorem dX12_earnAll_4 : decode cX12_earnAll 4 = .ok (.getfield 104, 3) := by decide +kernel
theorem dX12_earnAll_7 : decode cX12_earnAll 7 = .ok (.bipush 40, 2) := by decide +kernel
theorem dX12_earnAll_9 : decode cX12_earnAll 9 = .ok (.iaload, 1) := by decide +kernel
theorem dX12_earnAll_10 : decode cX12_earnAll 10 = .ok (.if_icmp .ge 28, 3) := by decide +kernel
theorem dX12_earnAll_13 : decode cX12_earnAll 13 = .ok (.aload_n 0, 1) := by decide +kernel
theorem dX12_earnAll_14 : decode cX12_earnAll 14 = .ok (.getfield 104, 3) := by decide +kernel
theorem dX12_earnAll_17 : decode cX12_earnAll 17 = .ok (.iload_n 1, 1) := by decide +kernel
theorem dX12_earnAll_18 : decode cX12_earnAll 18 = .ok (.dup2, 1) := by decide +kernel
theorem dX12_earnAll_19 : decode cX12_earnAll 19 = .ok (.iaload, 1) := by decide +kernel
theorem dX12_earnAll_20 : decode cX12_earnAll 20 = .ok (.aload_n 0, 1) := by decide +kernel
theorem dX12_earnAll_21 : decode cX12_earnAll 21 = .ok (.iconst 1, 1) := by decide +kernel
theorem dX12_earnAll_22 : decode cX12_earnAll 22 = .ok (.iload_n 1, 1) := by decide +kernel
theorem dX12_earnAll_23 : decode cX12_earnAll 23 = .ok (.iconst 0, 1) := by decide +kernel
theorem dX12_earnAll_24 : decode cX12_earnAll 24 = .ok (.sipush 999, 3) := by decide +kernel
theorem dX12_earnAll_27 : decode cX12_earnAll 27 = .ok (.invokevirtual 299, 3) := by decide +kernel
theorem dX12_earnAll_30 : decode cX12_earnAll 30 = .ok (.iadd, 1) := by decide +kernel
theorem dX12_earnAll_31 : decode cX12_earnAll 31 = .ok (.iastore, 1) := by decide +kernel
theorem dX12_earnAll_32 : decode cX12_earnAll 32 = .ok (.iinc 1 1, 3) := by decide +kernel
theorem dX12_earnAll_35 : decode cX12_earnAll 35 = .ok (.goto (-33), 3) := by decide +kernel
theorem dX12_earnAll_38 : decode cX12_earnAll 38 = .ok (.return_, 1) := by decide +kernel
theorem dX12_pays_0 : decode cX12_pays 0 = .ok (.aload_n 0, 1) := by decide +kernel
theorem dX12_pays_1 : decode cX12_pays 1 = .ok (.getfield 104, 3) := by decide +kernel
theorem dX12_pays_4 : decode cX12_pays 4 = .ok (.iload_n 1, 1) := by decide +kernel
theorem dX12_pays_5 : decode cX12_pays 5 = .ok (.dup2, 1) := by decide +kernel
theorem dX12_pays_6 : decode cX12_pays 6 = .ok (.iaload, 1) := by decide +kernel
theorem dX12_pays_7 : decode cX12_pays 7 = .ok (.iload_n 2, 1) := by decide +kernel
theorem dX12_pays_8 : decode cX12_pays 8 = .ok (.isub, 1) := by decide +kernel
theorem dX12_pays_9 : decode cX12_pays 9 = .ok (.iastore, 1) := by decide +kernel
theorem dX12_pays_10 : decode cX12_pays 10 = .ok (.aload_n 0, 1) := by decide +kernel
theorem dX12_pays_11 : decode cX12_pays 11 = .ok (.getfield 104, 3) := by decide +kernel
theorem dX12_pays_14 : decode cX12_pays 14 = .ok (.bipush 41, 2) := by decide +kernel
theorem dX12_pays_16 : decode cX12_pays 16 = .ok (.dup2, 1) := by decide +kernel
theorem dX12_pays_17 : decode cX12_pays 17 = .ok (.iaload, 1) := by decide +kernel
theorem dX12_pays_18 : decode cX12_pays 18 = .ok (.iload_n 2, 1) := by decide +kernel
theorem dX12_pays_19 : decode cX12_pays 19 = .ok (.iadd, 1) := by decide +kernel
theorem dX12_pays_20 : decode cX12_pays 20 = .ok (.iastore, 1) := by decide +kernel
theorem dX12_pays_21 : decode cX12_pays 21 = .ok (.aload_n 0, 1) := by decide +kernel
theorem dX12_pays_22 : decode cX12_pays 22 = .ok (.getfield 104, 3) := by decide +kernel
theorem dX12_pays_25 : decode cX12_pays 25 = .ok (.bipush 20, 2) := by decide +kernel
theorem dX12_pays_27 : decode cX12_pays 27 = .ok (.iload_n 1, 1) := by decide +kernel
theorem dX12_pays_28 : decode cX12_pays 28 = .ok (.iadd, 1) := by decide +kernel
theorem dX12_pays_29 : decode cX12_pays 29 = .ok (.iload_n 2, 1) := by decide +kernel
theorem dX12_pays_30 : decode cX12_pays 30 = .ok (.iastore, 1) := by decide +kernel
theorem dX12_pays_31 : decode cX12_pays 31 = .ok (.aload_n 0, 1) := by decide +kernel
theorem dX12_pays_32 : decode cX12_pays 32 = .ok (.getfield 104, 3) := by decide +kernel
theorem dX12_pays_35 : decode cX12_pays 35 = .ok (.bipush 30, 2) := by decide +kernel
theorem dX12_pays_37 : decode cX12_pays 37 = .ok (.iload_n 1, 1) := by decide +kernel
theorem dX12_pays_38 : decode cX12_pays 38 = .ok (.iadd, 1) := by decide +kernel
theorem dX12_pays_39 : decode cX12_pays 39 = .ok (.dup2, 1) := by decide +kernel
theorem dX12_pays_40 : decode cX12_pays 40 = .ok (.iaload, 1) := by decide +kernel
theorem dX12_pays_41 : decode cX12_pays 41 = .ok (.iload_n 2, 1) := by decide +kernel
theorem dX12_pays_42 : decode cX12_pays 42 = .ok (.iadd, 1) := by decide +kernel
theorem dX12_pays_43 : decode cX12_pays 43 = .ok (.iastore, 1) := by decide +kernel
theorem dX12_pays_44 : decode cX12_pays 44 = .ok (.return_, 1) := by decide +kernel
theorem dX12_payAll_0 : decode cX12_payAll 0 = .ok (.aload_n 0, 1) := by decide +kernel
theorem dX12_payAll_1 : decode cX12_payAll 1 = .ok (.getfield 104, 3) := by decide +kernel
theorem dX12_payAll_4 : decode cX12_payAll 4 = .ok (.bipush 40, 2) := by decide +kernel
theorem dX12_payAll_6 : decode cX12_payAll 6 = .ok (.iaload, 1) := by decide +kernel
theorem dX12_payAll_7 : decode cX12_payAll 7 = .ok (.istore_n 3, 1) := by decide +kernel
theorem dX12_payAll_8 : decode cX12_payAll 8 = .ok (.iload_n 1, 1) := by decide +kernel
theorem dX12_payAll_9 : decode cX12_payAll 9 = .ok (.ifCond .eq 39, 3) := by decide +kernel
theorem dX12_payAll_12 : decode cX12_payAll 12 = .ok (.iconst 0, 1) := by decide +kernel
theorem dX12_payAll_13 : decode cX12_payAll 13 = .ok (.istore 4, 2) := by decide +kernel
theorem dX12_payAll_15 : decode cX12_payAll 15 = .ok (.iload 4, 2) := by decide +kernel
theorem dX12_payAll_17 : decode cX12_payAll 17 = .ok (.iload_n 3, 1) := by decide +kernel
theorem dX12_payAll_18 : decode cX12_payAll 18 = .ok (.if_icmp .ge 29, 3) := by decide +kernel
theorem dX12_payAll_21 : decode cX12_payAll 21 = .ok (.aload_n 0, 1) := by decide +kernel
theorem dX12_payAll_22 : decode cX12_payAll 22 = .ok (.iload_n 2, 1) := by decide +kernel
theorem dX12_payAll_23 : decode cX12_payAll 23 = .ok (.iload 4, 2) := by decide +kernel
theorem dX12_payAll_25 : decode cX12_payAll 25 = .ok (.iadd, 1) := by decide +kernel
theorem dX12_payAll_26 : decode cX12_payAll 26 = .ok (.iload_n 3, 1) := by decide +kernel
theorem dX12_payAll_27 : decode cX12_payAll 27 = .ok (.irem, 1) := by decide +kernel
theorem dX12_payAll_28 : decode cX12_payAll 28 = .ok (.aload_n 0, 1) := by decide +kernel
theorem dX12_payAll_29 : decode cX12_payAll 29 = .ok (.iload_n 2, 1) := by decide +kernel
theorem dX12_payAll_30 : decode cX12_payAll 30 = .ok (.iload 4, 2) := by decide +kernel
theorem dX12_payAll_32 : decode cX12_payAll 32 = .ok (.iadd, 1) := by decide +kernel
theorem dX12_payAll_33 : decode cX12_payAll 33 = .ok (.iload_n 3, 1) := by decide +kernel
theorem dX12_payAll_34 : decode cX12_payAll 34 = .ok (.irem, 1) := by decide +kernel
theorem dX12_payAll_35 : decode cX12_payAll 35 = .ok (.invokevirtual 303, 3) := by decide +kernel
theorem dX12_payAll_38 : decode cX12_payAll 38 = .ok (.invokevirtual 306, 3) := by decide +kernel
theorem dX12_payAll_41 : decode cX12_payAll 41 = .ok (.iinc 4 1, 3) := by decide +kernel
theorem dX12_payAll_44 : decode cX12_payAll 44 = .ok (.goto (-29), 3) := by decide +kernel
theorem dX12_payAll_47 : decode cX12_payAll 47 = .ok (.return_, 1) := by decide +kernel
theorem dX12_payAll_48 : decode cX12_payAll 48 = .ok (.iconst 0, 1) := by decide +kernel
theorem dX12_payAll_49 : decode cX12_payAll 49 = .ok (.istore 4, 2) := by decide +kernel
theorem dX12_payAll_51 : decode cX12_payAll 51 = .ok (.iload 4, 2) := by decide +kernel
theorem dX12_payAll_53 : decode cX12_payAll 53 = .ok (.iload_n 3, 1) := by decide +kernel
theorem dX12_payAll_54 : decode cX12_payAll 54 = .ok (.if_icmp .ge 22, 3) := by decide +kernel
theorem dX12_payAll_57 : decode cX12_payAll 57 = .ok (.aload_n 0, 1) := by decide +kernel
theorem dX12_payAll_58 : decode cX12_payAll 58 = .ok (.getfield 107, 3) := by decide +kernel
theorem dX12_payAll_61 : decode cX12_payAll 61 = .ok (.iload 4, 2) := by decide +kernel
theorem dX12_payAll_63 : decode cX12_payAll 63 = .ok (.aload_n 0, 1) := by decide +kernel
theorem dX12_payAll_64 : decode cX12_payAll 64 = .ok (.iload 4, 2) := by decide +kernel
theorem dX12_payAll_66 : decode cX12_payAll 66 = .ok (.invokevirtual 303, 3) := by decide +kernel
theorem dX12_payAll_69 : decode cX12_payAll 69 = .ok (.iastore, 1) := by decide +kernel
theorem dX12_payAll_70 : decode cX12_payAll 70 = .ok (.iinc 4 1, 3) := by decide +kernel
theorem dX12_payAll_73 : decode cX12_payAll 73 = .ok (.goto (-22), 3) := by decide +kernel
theorem dX12_payAll_76 : decode cX12_payAll 76 = .ok (.iconst 0, 1) := by decide +kernel
theorem dX12_payAll_77 : decode cX12_payAll 77 = .ok (.istore 4, 2) := by decide +kernel
theorem dX12_payAll_79 : decode cX12_payAll 79 = .ok (.iload 4, 2) := by decide +kernel
theorem dX12_payAll_81 : decode cX12_payAll 81 = .ok (.iload_n 3, 1) := by decide +kernel
theorem dX12_payAll_82 : decode cX12_payAll 82 = .ok (.if_icmp .ge 22, 3) := by decide +kernel
theorem dX12_payAll_85 : decode cX12_payAll 85 = .ok (.aload_n 0, 1) := by decide +kernel
theorem dX12_payAll_86 : decode cX12_payAll 86 = .ok (.iload 4, 2) := by decide +kernel
theorem dX12_payAll_88 : decode cX12_payAll 88 = .ok (.aload_n 0, 1) := by decide +kernel
theorem dX12_payAll_89 : decode cX12_payAll 89 = .ok (.getfield 107, 3) := by decide +kernel
theorem dX12_payAll_92 : decode cX12_payAll 92 = .ok (.iload 4, 2) := by decide +kernel
theorem dX12_payAll_94 : decode cX12_payAll 94 = .ok (.iaload, 1) := by decide +kernel
theorem dX12_payAll_95 : decode cX12_payAll 95 = .ok (.invokevirtual 306, 3) := by decide +kernel
theorem dX12_payAll_98 : decode cX12_payAll 98 = .ok (.iinc 4 1, 3) := by decide +kernel
theorem dX12_payAll_101 : decode cX12_payAll 101 = .ok (.goto (-22), 3) := by decide +kernel
theorem dX12_payAll_104 : decode cX12_payAll 104 = .ok (.return_, 1) := by decide +kernel
theorem dX12_shares_0 : decode cX12_shares 0 = .ok (.aload_n 0, 1) := by decide +kernel
theorem dX12_shares_1 : decode cX12_shares 1 = .ok (.getfield 104, 3) := by decide +kernel
theorem dX12_shares_4 : decode cX12_shares 4 = .ok (.bipush 40, 2) := by decide +kernel
theorem dX12_shares_6 : decode cX12_shares 6 = .ok (.iaload, 1) := by decide +kernel
theorem dX12_shares_7 : decode cX12_shares 7 = .ok (.istore_n 2, 1) := by decide +kernel
theorem dX12_shares_8 : decode cX12_shares 8 = .ok (.iload_n 2, 1) := by decide +kernel
theorem dX12_shares_9 : decode cX12_shares 9 = .ok (.ifCond .ne 4, 3) := by decide +kernel
theorem dX12_shares_12 : decode cX12_shares 12 = .ok (.return_, 1) := by decide +kernel
theorem dX12_shares_13 : decode cX12_shares 13 = .ok (.iload_n 1, 1) := by decide +kernel
theorem dX12_shares_14 : decode cX12_shares 14 = .ok (.iconst 2, 1) := by decide +kernel
theorem dX12_shares_15 : decode cX12_shares 15 = .ok (.if_icmp .ne 15, 3) := by decide +kernel
theorem dX12_shares_18 : decode cX12_shares 18 = .ok (.aload_n 0, 1) := by decide +kernel
theorem dX12_shares_19 : decode cX12_shares 19 = .ok (.getfield 104, 3) := by decide +kernel
theorem dX12_shares_22 : decode cX12_shares 22 = .ok (.bipush 43, 2) := by decide +kernel
theorem dX12_shares_24 : decode cX12_shares 24 = .ok (.iaload, 1) := by decide +kernel
theorem dX12_shares_25 : decode cX12_shares 25 = .ok (.iload_n 2, 1) := by decide +kernel
theorem dX12_shares_26 : decode cX12_shares 26 = .ok (.irem, 1) := by decide +kernel
theorem dX12_shares_27 : decode cX12_shares 27 = .ok (.goto 4, 3) := by decide +kernel
theorem dX12_shares_30 : decode cX12_shares 30 = .ok (.iconst 0, 1) := by decide +kernel
theorem dX12_shares_31 : decode cX12_shares 31 = .ok (.istore_n 3, 1) := by decide +kernel
theorem dX12_shares_32 : decode cX12_shares 32 = .ok (.iload_n 1, 1) := by decide +kernel
theorem dX12_shares_33 : decode cX12_shares 33 = .ok (.iconst 1, 1) := by decide +kernel
theorem dX12_shares_34 : decode cX12_shares 34 = .ok (.if_icmp .ne 43, 3) := by decide +kernel
theorem dX12_shares_37 : decode cX12_shares 37 = .ok (.iconst 1, 1) := by decide +kernel
theorem dX12_shares_38 : decode cX12_shares 38 = .ok (.istore 4, 2) := by decide +kernel
theorem dX12_shares_40 : decode cX12_shares 40 = .ok (.iload 4, 2) := by decide +kernel
theorem dX12_shares_42 : decode cX12_shares 42 = .ok (.iload_n 2, 1) := by decide +kernel
theorem dX12_shares_43 : decode cX12_shares 43 = .ok (.if_icmp .ge 34, 3) := by decide +kernel
theorem dX12_shares_46 : decode cX12_shares 46 = .ok (.aload_n 0, 1) := by decide +kernel
theorem dX12_shares_47 : decode cX12_shares 47 = .ok (.getfield 104, 3) := by decide +kernel
theorem dX12_shares_50 : decode cX12_shares 50 = .ok (.bipush 30, 2) := by decide +kernel
theorem dX12_shares_52 : decode cX12_shares 52 = .ok (.iload 4, 2) := by decide +kernel
theorem dX12_shares_54 : decode cX12_shares 54 = .ok (.iadd, 1) := by decide +kernel
theorem dX12_shares_55 : decode cX12_shares 55 = .ok (.iaload, 1) := by decide +kernel
theorem dX12_shares_56 : decode cX12_shares 56 = .ok (.aload_n 0, 1) := by decide +kernel
theorem dX12_shares_57 : decode cX12_shares 57 = .ok (.getfield 104, 3) := by decide +kernel
theorem dX12_shares_60 : decode cX12_shares 60 = .ok (.bipush 30, 2) := by decide +kernel
theorem dX12_shares_62 : decode cX12_shares 62 = .ok (.iload_n 3, 1) := by decide +kernel
theorem dX12_shares_63 : decode cX12_shares 63 = .ok (.iadd, 1) := by decide +kernel
theorem dX12_shares_64 : decode cX12_shares 64 = .ok (.iaload, 1) := by decide +kernel
theorem dX12_shares_65 : decode cX12_shares 65 = .ok (.if_icmp .le 6, 3) := by decide +kernel
theorem dX12_shares_68 : decode cX12_shares 68 = .ok (.iload 4, 2) := by decide +kernel
theorem dX12_shares_70 : decode cX12_shares 70 = .ok (.istore_n 3, 1) := by decide +kernel
theorem dX12_shares_71 : decode cX12_shares 71 = .ok (.iinc 4 1, 3) := by decide +kernel
theorem dX12_shares_74 : decode cX12_shares 74 = .ok (.goto (-34), 3) := by decide +kernel
theorem dX12_shares_77 : decode cX12_shares 77 = .ok (.iload_n 1, 1) := by decide +kernel
theorem dX12_shares_78 : decode cX12_shares 78 = .ok (.ifCond .ne 58, 3) := by decide +kernel
theorem dX12_shares_81 : decode cX12_shares 81 = .ok (.aload_n 0, 1) := by decide +kernel
theorem dX12_shares_82 : decode cX12_shares 82 = .ok (.getfield 104, 3) := by decide +kernel
theorem dX12_shares_85 : decode cX12_shares 85 = .ok (.bipush 41, 2) := by decide +kernel
theorem dX12_shares_87 : decode cX12_shares 87 = .ok (.iaload, 1) := by decide +kernel
theorem dX12_shares_88 : decode cX12_shares 88 = .ok (.iload_n 2, 1) := by decide +kernel
theorem dX12_shares_89 : decode cX12_shares 89 = .ok (.idiv, 1) := by decide +kernel
theorem dX12_shares_90 : decode cX12_shares 90 = .ok (.istore 4, 2) := by decide +kernel
theorem dX12_shares_92 : decode cX12_shares 92 = .ok (.iconst 0, 1) := by decide +kernel
theorem dX12_shares_93 : decode cX12_shares 93 = .ok (.istore 5, 2) := by decide +kernel
theorem dX12_shares_95 : decode cX12_shares 95 = .ok (.iload 5, 2) := by decide +kernel
theorem dX12_shares_97 : decode cX12_shares 97 = .ok (.iload_n 2, 1) := by decide +kernel
theorem dX12_shares_98 : decode cX12_shares 98 = .ok (.if_icmp .ge 21, 3) := by decide +kernel
theorem dX12_shares_101 : decode cX12_shares 101 = .ok (.aload_n 0, 1) := by decide +kernel
theorem dX12_shares_102 : decode cX12_shares 102 = .ok (.getfield 104, 3) := by decide +kernel
theorem dX12_shares_105 : decode cX12_shares 105 = .ok (.iload 5, 2) := by decide +kernel
theorem dX12_shares_107 : decode cX12_shares 107 = .ok (.dup2, 1) := by decide +kernel
theorem dX12_shares_108 : decode cX12_shares 108 = .ok (.iaload, 1) := by decide +kernel
theorem dX12_shares_109 : decode cX12_shares 109 = .ok (.iload 4, 2) := by decide +kernel
theorem dX12_shares_111 : decode cX12_shares 111 = .ok (.iadd, 1) := by decide +kernel
theorem dX12_shares_112 : decode cX12_shares 112 = .ok (.iastore, 1) := by decide +kernel
theorem dX12_shares_113 : decode cX12_shares 113 = .ok (.iinc 5 1, 3) := by decide +kernel
theorem dX12_shares_116 : decode cX12_shares 116 = .ok (.goto (-21), 3) := by decide +kernel
theorem dX12_shares_119 : decode cX12_shares 119 = .ok (.aload_n 0, 1) := by decide +kernel
theorem dX12_shares_120 : decode cX12_shares 120 = .ok (.getfield 104, 3) := by decide +kernel
theorem dX12_shares_123 : decode cX12_shares 123 = .ok (.bipush 41, 2) := by decide +kernel
theorem dX12_shares_125 : decode cX12_shares 125 = .ok (.dup2, 1) := by decide +kernel
theorem dX12_shares_126 : decode cX12_shares 126 = .ok (.iaload, 1) := by decide +kernel
theorem dX12_shares_127 : decode cX12_shares 127 = .ok (.iload 4, 2) := by decide +kernel
theorem dX12_shares_129 : decode cX12_shares 129 = .ok (.iload_n 2, 1) := by decide +kernel
theorem dX12_shares_130 : decode cX12_shares 130 = .ok (.imul, 1) := by decide +kernel
theorem dX12_shares_131 : decode cX12_shares 131 = .ok (.isub, 1) := by decide +kernel
theorem dX12_shares_132 : decode cX12_shares 132 = .ok (.iastore, 1) := by decide +kernel
theorem dX12_shares_133 : decode cX12_shares 133 = .ok (.goto 27, 3) := by decide +kernel
theorem dX12_shares_136 : decode cX12_shares 136 = .ok (.aload_n 0, 1) := by decide +kernel
theorem dX12_shares_137 : decode cX12_shares 137 = .ok (.getfield 104, 3) := by decide +kernel
theorem dX12_shares_140 : decode cX12_shares 140 = .ok (.iload_n 3, 1) := by decide +kernel
theorem dX12_shares_141 : decode cX12_shares 141 = .ok (.dup2, 1) := by decide +kernel
theorem dX12_shares_142 : decode cX12_shares 142 = .ok (.iaload, 1) := by decide +kernel
theorem dX12_shares_143 : decode cX12_shares 143 = .ok (.aload_n 0, 1) := by decide +kernel
theorem dX12_shares_144 : decode cX12_shares 144 = .ok (.getfield 104, 3) := by decide +kernel
theorem dX12_shares_147 : decode cX12_shares 147 = .ok (.bipush 41, 2) := by decide +kernel
theorem dX12_shares_149 : decode cX12_shares 149 = .ok (.iaload, 1) := by decide +kernel
theorem dX12_shares_150 : decode cX12_shares 150 = .ok (.iadd, 1) := by decide +kernel
theorem dX12_shares_151 : decode cX12_shares 151 = .ok (.iastore, 1) := by decide +kernel
theorem dX12_shares_152 : decode cX12_shares 152 = .ok (.aload_n 0, 1) := by decide +kernel
theorem dX12_shares_153 : decode cX12_shares 153 = .ok (.getfield 104, 3) := by decide +kernel
theorem dX12_shares_156 : decode cX12_shares 156 = .ok (.bipush 41, 2) := by decide +kernel
theorem dX12_shares_158 : decode cX12_shares 158 = .ok (.iconst 0, 1) := by decide +kernel
theorem dX12_shares_159 : decode cX12_shares 159 = .ok (.iastore, 1) := by decide +kernel
theorem dX12_shares_160 : decode cX12_shares 160 = .ok (.iconst 0, 1) := by decide +kernel
theorem dX12_shares_161 : decode cX12_shares 161 = .ok (.istore 4, 2) := by decide +kernel
theorem dX12_shares_163 : decode cX12_shares 163 = .ok (.iload 4, 2) := by decide +kernel
theorem dX12_shares_165 : decode cX12_shares 165 = .ok (.bipush 10, 2) := by decide +kernel
theorem dX12_shares_167 : decode cX12_shares 167 = .ok (.if_icmp .ge 20, 3) := by decide +kernel
theorem dX12_shares_170 : decode cX12_shares 170 = .ok (.aload_n 0, 1) := by decide +kernel
theorem dX12_shares_171 : decode cX12_shares 171 = .ok (.getfield 104, 3) := by decide +kernel
theorem dX12_shares_174 : decode cX12_shares 174 = .ok (.bipush 30, 2) := by decide +kernel
theorem dX12_shares_176 : decode cX12_shares 176 = .ok (.iload 4, 2) := by decide +kernel
theorem dX12_shares_178 : decode cX12_shares 178 = .ok (.iadd, 1) := by decide +kernel
theorem dX12_shares_179 : decode cX12_shares 179 = .ok (.iconst 0, 1) := by decide +kernel
theorem dX12_shares_180 : decode cX12_shares 180 = .ok (.iastore, 1) := by decide +kernel
theorem dX12_shares_181 : decode cX12_shares 181 = .ok (.iinc 4 1, 3) := by decide +kernel
theorem dX12_shares_184 : decode cX12_shares 184 = .ok (.goto (-21), 3) := by decide +kernel
theorem dX12_shares_187 : decode cX12_shares 187 = .ok (.aload_n 0, 1) := by decide +kernel
theorem dX12_shares_188 : decode cX12_shares 188 = .ok (.getfield 104, 3) := by decide +kernel
theorem dX12_shares_191 : decode cX12_shares 191 = .ok (.bipush 43, 2) := by decide +kernel
theorem dX12_shares_193 : decode cX12_shares 193 = .ok (.dup2, 1) := by decide +kernel
theorem dX12_shares_194 : decode cX12_shares 194 = .ok (.iaload, 1) := by decide +kernel
theorem dX12_shares_195 : decode cX12_shares 195 = .ok (.iconst 1, 1) := by decide +kernel
theorem dX12_shares_196 : decode cX12_shares 196 = .ok (.iadd, 1) := by decide +kernel
theorem dX12_shares_197 : decode cX12_shares 197 = .ok (.iastore, 1) := by decide +kernel
theorem dX12_shares_198 : decode cX12_shares 198 = .ok (.return_, 1) := by decide +kernel
theorem dX12_ends_0 : decode cX12_ends 0 = .ok (.aload_n 0, 1) := by decide +kernel
theorem dX12_ends_1 : decode cX12_ends 1 = .ok (.getfield 104, 3) := by decide +kernel
theorem dX12_ends_4 : decode cX12_ends 4 = .ok (.bipush 42, 2) := by decide +kernel
theorem dX12_ends_6 : decode cX12_ends 6 = .ok (.dup2, 1) := by decide +kernel
theorem dX12_ends_7 : decode cX12_ends 7 = .ok (.iaload, 1) := by decide +kernel
theorem dX12_ends_8 : decode cX12_ends 8 = .ok (.iconst 1, 1) := by decide +kernel
theorem dX12_ends_9 : decode cX12_ends 9 = .ok (.iadd, 1) := by decide +kernel
theorem dX12_ends_10 : decode cX12_ends 10 = .ok (.iastore, 1) := by decide +kernel
theorem dX12_ends_11 : decode cX12_ends 11 = .ok (.aload_n 0, 1) := by decide +kernel
theorem dX12_ends_12 : decode cX12_ends 12 = .ok (.getfield 104, 3) := by decide +kernel
theorem dX12_ends_15 : decode cX12_ends 15 = .ok (.bipush 42, 2) := by decide +kernel
theorem dX12_ends_17 : decode cX12_ends 17 = .ok (.iaload, 1) := by decide +kernel
theorem dX12_ends_18 : decode cX12_ends 18 = .ok (.aload_n 0, 1) := by decide +kernel
theorem dX12_ends_19 : decode cX12_ends 19 = .ok (.getfield 59, 3) := by decide +kernel
theorem dX12_ends_22 : decode cX12_ends 22 = .ok (.aload_n 0, 1) := by decide +kernel
theorem dX12_ends_23 : decode cX12_ends 23 = .ok (.getfield 212, 3) := by decide +kernel
theorem dX12_ends_26 : decode cX12_ends 26 = .ok (.iaload, 1) := by decide +kernel
theorem dX12_ends_27 : decode cX12_ends 27 = .ok (.irem, 1) := by decide +kernel
theorem dX12_ends_28 : decode cX12_ends 28 = .ok (.ifCond .ne 8, 3) := by decide +kernel
theorem dX12_ends_31 : decode cX12_ends 31 = .ok (.aload_n 0, 1) := by decide +kernel
theorem dX12_ends_32 : decode cX12_ends 32 = .ok (.iload_n 1, 1) := by decide +kernel
theorem dX12_ends_33 : decode cX12_ends 33 = .ok (.invokevirtual 309, 3) := by decide +kernel
theorem dX12_ends_36 : decode cX12_ends 36 = .ok (.return_, 1) := by decide +kernel
theorem dX12_evening_0 : decode cX12_evening 0 = .ok (.aload_n 0, 1) := by decide +kernel
theorem dX12_evening_1 : decode cX12_evening 1 = .ok (.invokevirtual 312, 3) := by decide +kernel
theorem dX12_evening_4 : decode cX12_evening 4 = .ok (.aload_n 0, 1) := by decide +kernel
theorem dX12_evening_5 : decode cX12_evening 5 = .ok (.aload_n 0, 1) := by decide +kernel
theorem dX12_evening_6 : decode cX12_evening 6 = .ok (.getfield 53, 3) := by decide +kernel
theorem dX12_evening_9 : decode cX12_evening 9 = .ok (.aload_n 0, 1) := by decide +kernel
theorem dX12_evening_10 : decode cX12_evening 10 = .ok (.getfield 212, 3) := by decide +kernel
theorem dX12_evening_13 : decode cX12_evening 13 = .ok (.baload, 1) := by decide +kernel
theorem dX12_evening_14 : decode cX12_evening 14 = .ok (.iconst 0, 1) := by decide +kernel
theorem dX12_evening_15 : decode cX12_evening 15 = .ok (.invokevirtual 315, 3) := by decide +kernel
theorem dX12_evening_18 : decode cX12_evening 18 = .ok (.aload_n 0, 1) := by decide +kernel
theorem dX12_evening_19 : decode cX12_evening 19 = .ok (.iload_n 1, 1) := by decide +kernel
theorem dX12_evening_20 : decode cX12_evening 20 = .ok (.invokevirtual 319, 3) := by decide +kernel
theorem dX12_evening_23 : decode cX12_evening 23 = .ok (.return_, 1) := by decide +kernel
theorem dX12_evenings_0 : decode cX12_evenings 0 = .ok (.iconst 0, 1) := by decide +kernel
theorem dX12_evenings_1 : decode cX12_evenings 1 = .ok (.istore_n 2, 1) := by decide +kernel
theorem dX12_evenings_2 : decode cX12_evenings 2 = .ok (.iload_n 2, 1) := by decide +kernel
theorem dX12_evenings_3 : decode cX12_evenings 3 = .ok (.iload_n 1, 1) := by decide +kernel
theorem dX12_evenings_4 : decode cX12_evenings 4 = .ok (.if_icmp .ge 22, 3) := by decide +kernel
theorem dX12_evenings_7 : decode cX12_evenings 7 = .ok (.aload_n 0, 1) := by decide +kernel
theorem dX12_evenings_8 : decode cX12_evenings 8 = .ok (.aload_n 0, 1) := by decide +kernel
theorem dX12_evenings_9 : decode cX12_evenings 9 = .ok (.getfield 56, 3) := by decide +kernel
theorem dX12_evenings_12 : decode cX12_evenings 12 = .ok (.aload_n 0, 1) := by decide +kernel
theorem dX12_evenings_13 : decode cX12_evenings 13 = .ok (.getfield 212, 3) := by decide +kernel
theorem dX12_evenings_16 : decode cX12_evenings 16 = .ok (.iaload, 1) := by decide +kernel
theorem dX12_evenings_17 : decode cX12_evenings 17 = .ok (.invokevirtual 322, 3) := by decide +kernel
theorem dX12_evenings_20 : decode cX12_evenings 20 = .ok (.iinc 2 1, 3) := by decide +kernel
theorem dX12_evenings_23 : decode cX12_evenings 23 = .ok (.goto (-21), 3) := by decide +kernel
theorem dX12_evenings_26 : decode cX12_evenings 26 = .ok (.return_, 1) := by decide +kernel
theorem dX12_house_0 : decode cX12_house 0 = .ok (.aload_n 0, 1) := by decide +kernel
theorem dX12_house_1 : decode cX12_house 1 = .ok (.iload_n 1, 1) := by decide +kernel
theorem dX12_house_2 : decode cX12_house 2 = .ok (.invokevirtual 325, 3) := by decide +kernel
theorem dX12_house_5 : decode cX12_house 5 = .ok (.ifCond .ne 5, 3) := by decide +kernel
theorem dX12_house_8 : decode cX12_house 8 = .ok (.iconst (-1), 1) := by decide +kernel
theorem dX12_house_9 : decode cX12_house 9 = .ok (.ireturn, 1) := by decide +kernel
theorem dX12_house_10 : decode cX12_house 10 = .ok (.aload_n 0, 1) := by decide +kernel
theorem dX12_house_11 : decode cX12_house 11 = .ok (.invokevirtual 328, 3) := by decide +kernel
theorem dX12_house_14 : decode cX12_house 14 = .ok (.iload_n 2, 1) := by decide +kernel
theorem dX12_house_15 : decode cX12_house 15 = .ok (.tableswitch 96 0 6 #[41, 48, 58, 64, 70, 76, 86], 41) := by decide +kernel
theorem dX12_house_56 : decode cX12_house 56 = .ok (.aload_n 0, 1) := by decide +kernel
theorem dX12_house_57 : decode cX12_house 57 = .ok (.getfield 104, 3) := by decide +kernel
theorem dX12_house_60 : decode cX12_house 60 = .ok (.iload_n 1, 1) := by decide +kernel
theorem dX12_house_61 : decode cX12_house 61 = .ok (.iaload, 1) := by decide +kernel
theorem dX12_house_62 : decode cX12_house 62 = .ok (.ireturn, 1) := by decide +kernel
theorem dX12_house_63 : decode cX12_house 63 = .ok (.aload_n 0, 1) := by decide +kernel
theorem dX12_house_64 : decode cX12_house 64 = .ok (.getfield 104, 3) := by decide +kernel
theorem dX12_house_67 : decode cX12_house 67 = .ok (.bipush 10, 2) := by decide +kernel
theorem dX12_house_69 : decode cX12_house 69 = .ok (.iload_n 1, 1) := by decide +kernel
theorem dX12_house_70 : decode cX12_house 70 = .ok (.iadd, 1) := by decide +kernel
theorem dX12_house_71 : decode cX12_house 71 = .ok (.iaload, 1) := by decide +kernel
theorem dX12_house_72 : decode cX12_house 72 = .ok (.ireturn, 1) := by decide +kernel
theorem dX12_house_73 : decode cX12_house 73 = .ok (.aload_n 0, 1) := by decide +kernel
theorem dX12_house_74 : decode cX12_house 74 = .ok (.iload_n 1, 1) := by decide +kernel
theorem dX12_house_75 : decode cX12_house 75 = .ok (.invokevirtual 280, 3) := by decide +kernel
theorem dX12_house_78 : decode cX12_house 78 = .ok (.ireturn, 1) := by decide +kernel
theorem dX12_house_79 : decode cX12_house 79 = .ok (.aload_n 0, 1) := by decide +kernel
theorem dX12_house_80 : decode cX12_house 80 = .ok (.iload_n 1, 1) := by decide +kernel
theorem dX12_house_81 : decode cX12_house 81 = .ok (.invokevirtual 290, 3) := by decide +kernel
theorem dX12_house_84 : decode cX12_house 84 = .ok (.ireturn, 1) := by decide +kernel
theorem dX12_house_85 : decode cX12_house 85 = .ok (.aload_n 0, 1) := by decide +kernel
theorem dX12_house_86 : decode cX12_house 86 = .ok (.iload_n 1, 1) := by decide +kernel
theorem dX12_house_87 : decode cX12_house 87 = .ok (.invokevirtual 303, 3) := by decide +kernel
theorem dX12_house_90 : decode cX12_house 90 = .ok (.ireturn, 1) := by decide +kernel
theorem dX12_house_91 : decode cX12_house 91 = .ok (.aload_n 0, 1) := by decide +kernel
theorem dX12_house_92 : decode cX12_house 92 = .ok (.getfield 104, 3) := by decide +kernel
theorem dX12_house_95 : decode cX12_house 95 = .ok (.bipush 20, 2) := by decide +kernel
theorem dX12_house_97 : decode cX12_house 97 = .ok (.iload_n 1, 1) := by decide +kernel
theorem dX12_house_98 : decode cX12_house 98 = .ok (.iadd, 1) := by decide +kernel
theorem dX12_house_99 : decode cX12_house 99 = .ok (.iaload, 1) := by decide +kernel
theorem dX12_house_100 : decode cX12_house 100 = .ok (.ireturn, 1) := by decide +kernel
theorem dX12_house_101 : decode cX12_house 101 = .ok (.aload_n 0, 1) := by decide +kernel
theorem dX12_house_102 : decode cX12_house 102 = .ok (.getfield 104, 3) := by decide +kernel
theorem dX12_house_105 : decode cX12_house 105 = .ok (.bipush 30, 2) := by decide +kernel
theorem dX12_house_107 : decode cX12_house 107 = .ok (.iload_n 1, 1) := by decide +kernel
theorem dX12_house_108 : decode cX12_house 108 = .ok (.iadd, 1) := by decide +kernel
theorem dX12_house_109 : decode cX12_house 109 = .ok (.iaload, 1) := by decide +kernel
theorem dX12_house_110 : decode cX12_house 110 = .ok (.ireturn, 1) := by decide +kernel
theorem dX12_house_111 : decode cX12_house 111 = .ok (.iconst (-1), 1) := by decide +kernel
theorem dX12_house_112 : decode cX12_house 112 = .ok (.ireturn, 1) := by decide +kernel
theorem dX12_keeps_0 : decode cX12_keeps 0 = .ok (.aload_n 0, 1) := by decide +kernel
theorem dX12_keeps_1 : decode cX12_keeps 1 = .ok (.getfield 230, 3) := by decide +kernel
theorem dX12_keeps_4 : decode cX12_keeps 4 = .ok (.bipush 30, 2) := by decide +kernel
theorem dX12_keeps_6 : decode cX12_keeps 6 = .ok (.if_icmp .ne 43, 3) := by decide +kernel
theorem dX12_keeps_9 : decode cX12_keeps 9 = .ok (.iconst 0, 1) := by decide +kernel
theorem dX12_keeps_10 : decode cX12_keeps 10 = .ok (.istore_n 1, 1) := by decide +kernel
theorem dX12_keeps_11 : decode cX12_keeps 11 = .ok (.iload_n 1, 1) := by decide +kernel
theorem dX12_keeps_12 : decode cX12_keeps 12 = .ok (.sipush 1740, 3) := by decide +kernel
theorem dX12_keeps_15 : decode cX12_keeps 15 = .ok (.if_icmp .ge 24, 3) := by decide +kernel
theorem dX12_keeps_18 : decode cX12_keeps 18 = .ok (.aload_n 0, 1) := by decide +kernel
theorem dX12_keeps_19 : decode cX12_keeps 19 = .ok (.getfield 110, 3) := by decide +kernel
theorem dX12_keeps_22 : decode cX12_keeps 22 = .ok (.iload_n 1, 1) := by decide +kernel
theorem dX12_keeps_23 : decode cX12_keeps 23 = .ok (.aload_n 0, 1) := by decide +kernel
theorem dX12_keeps_24 : decode cX12_keeps 24 = .ok (.getfield 110, 3) := by decide +kernel
theorem dX12_keeps_27 : decode cX12_keeps 27 = .ok (.iload_n 1, 1) := by decide +kernel
theorem dX12_keeps_28 : decode cX12_keeps 28 = .ok (.bipush 60, 2) := by decide +kernel
theorem dX12_keeps_30 : decode cX12_keeps 30 = .ok (.iadd, 1) := by decide +kernel
theorem dX12_keeps_31 : decode cX12_keeps 31 = .ok (.iaload, 1) := by decide +kernel
theorem dX12_keeps_32 : decode cX12_keeps 32 = .ok (.iastore, 1) := by decide +kernel
theorem dX12_keeps_33 : decode cX12_keeps 33 = .ok (.iinc 1 1, 3) := by decide +kernel
theorem dX12_keeps_36 : decode cX12_keeps 36 = .ok (.goto (-25), 3) := by decide +kernel
theorem dX12_keeps_39 : decode cX12_keeps 39 = .ok (.aload_n 0, 1) := by decide +kernel
theorem dX12_keeps_40 : decode cX12_keeps 40 = .ok (.dup, 1) := by decide +kernel
theorem dX12_keeps_41 : decode cX12_keeps 41 = .ok (.getfield 230, 3) := by decide +kernel
theorem dX12_keeps_44 : decode cX12_keeps 44 = .ok (.iconst 1, 1) := by decide +kernel
theorem dX12_keeps_45 : decode cX12_keeps 45 = .ok (.isub, 1) := by decide +kernel
theorem dX12_keeps_46 : decode cX12_keeps 46 = .ok (.putfield 230, 3) := by decide +kernel
theorem dX12_keeps_49 : decode cX12_keeps 49 = .ok (.iconst 0, 1) := by decide +kernel
theorem dX12_keeps_50 : decode cX12_keeps 50 = .ok (.istore_n 1, 1) := by decide +kernel
theorem dX12_keeps_51 : decode cX12_keeps 51 = .ok (.iload_n 1, 1) := by decide +kernel
theorem dX12_keeps_52 : decode cX12_keeps 52 = .ok (.bipush 60, 2) := by decide +kernel
theorem dX12_keeps_54 : decode cX12_keeps 54 = .ok (.if_icmp .ge 29, 3) := by decide +kernel
theorem dX12_keeps_57 : decode cX12_keeps 57 = .ok (.aload_n 0, 1) := by decide +kernel
theorem dX12_keeps_58 : decode cX12_keeps 58 = .ok (.getfield 110, 3) := by decide +kernel
theorem dX12_keeps_61 : decode cX12_keeps 61 = .ok (.bipush 60, 2) := by decide +kernel
theorem dX12_keeps_63 : decode cX12_keeps 63 = .ok (.aload_n 0, 1) := by decide +kernel
theorem dX12_keeps_64 : decode cX12_keeps 64 = .ok (.getfield 230, 3) := by decide +kernel
theorem dX12_keeps_67 : decode cX12_keeps 67 = .ok (.imul, 1) := by decide +kernel
theorem dX12_keeps_68 : decode cX12_keeps 68 = .ok (.iload_n 1, 1) := by decide +kernel
theorem dX12_keeps_69 : decode cX12_keeps 69 = .ok (.iadd, 1) := by decide +kernel
theorem dX12_keeps_70 : decode cX12_keeps 70 = .ok (.aload_n 0, 1) := by decide +kernel
theorem dX12_keeps_71 : decode cX12_keeps 71 = .ok (.getfield 101, 3) := by decide +kernel
theorem dX12_keeps_74 : decode cX12_keeps 74 = .ok (.iload_n 1, 1) := by decide +kernel
theorem dX12_keeps_75 : decode cX12_keeps 75 = .ok (.iaload, 1) := by decide +kernel
theorem dX12_keeps_76 : decode cX12_keeps 76 = .ok (.iastore, 1) := by decide +kernel
theorem dX12_keeps_77 : decode cX12_keeps 77 = .ok (.iinc 1 1, 3) := by decide +kernel
theorem dX12_keeps_80 : decode cX12_keeps 80 = .ok (.goto (-29), 3) := by decide +kernel
theorem dX12_keeps_83 : decode cX12_keeps 83 = .ok (.aload_n 0, 1) := by decide +kernel
theorem dX12_keeps_84 : decode cX12_keeps 84 = .ok (.dup, 1) := by decide +kernel
theorem dX12_keeps_85 : decode cX12_keeps 85 = .ok (.getfield 230, 3) := by decide +kernel
theorem dX12_keeps_88 : decode cX12_keeps 88 = .ok (.iconst 1, 1) := by decide +kernel
theorem dX12_keeps_89 : decode cX12_keeps 89 = .ok (.iadd, 1) := by decide +kernel
theorem dX12_keeps_90 : decode cX12_keeps 90 = .ok (.putfield 230, 3) := by decide +kernel
theorem dX12_keeps_93 : decode cX12_keeps 93 = .ok (.iconst 0, 1) := by decide +kernel
theorem dX12_keeps_94 : decode cX12_keeps 94 = .ok (.istore_n 1, 1) := by decide +kernel
theorem dX12_keeps_95 : decode cX12_keeps 95 = .ok (.iload_n 1, 1) := by decide +kernel
theorem dX12_keeps_96 : decode cX12_keeps 96 = .ok (.bipush 60, 2) := by decide +kernel
theorem dX12_keeps_98 : decode cX12_keeps 98 = .ok (.if_icmp .ge 21, 3) := by decide +kernel
theorem dX12_keeps_101 : decode cX12_keeps 101 = .ok (.aload_n 0, 1) := by decide +kernel
theorem dX12_keeps_102 : decode cX12_keeps 102 = .ok (.getfield 101, 3) := by decide +kernel
theorem dX12_keeps_105 : decode cX12_keeps 105 = .ok (.iload_n 1, 1) := by decide +kernel
theorem dX12_keeps_106 : decode cX12_keeps 106 = .ok (.aload_n 0, 1) := by decide +kernel
theorem dX12_keeps_107 : decode cX12_keeps 107 = .ok (.getfield 104, 3) := by decide +kernel
theorem dX12_keeps_110 : decode cX12_keeps 110 = .ok (.iload_n 1, 1) := by decide +kernel
theorem dX12_keeps_111 : decode cX12_keeps 111 = .ok (.iaload, 1) := by decide +kernel
theorem dX12_keeps_112 : decode cX12_keeps 112 = .ok (.iastore, 1) := by decide +kernel
theorem dX12_keeps_113 : decode cX12_keeps 113 = .ok (.iinc 1 1, 3) := by decide +kernel
theorem dX12_keeps_116 : decode cX12_keeps 116 = .ok (.goto (-21), 3) := by decide +kernel
theorem dX12_keeps_119 : decode cX12_keeps 119 = .ok (.return_, 1) := by decide +kernel
theorem dX12_run_0 : decode cX12_run 0 = .ok (.iload_n 1, 1) := by decide +kernel
theorem dX12_run_1 : decode cX12_run 1 = .ok (.iconst 0, 1) := by decide +kernel
theorem dX12_run_2 : decode cX12_run 2 = .ok (.sipush 300, 3) := by decide +kernel
theorem dX12_run_5 : decode cX12_run 5 = .ok (.invokestatic 276, 3) := by decide +kernel
theorem dX12_run_8 : decode cX12_run 8 = .ok (.ifCond .ne 5, 3) := by decide +kernel
theorem dX12_run_11 : decode cX12_run 11 = .ok (.iconst (-1), 1) := by decide +kernel
theorem dX12_run_12 : decode cX12_run 12 = .ok (.ireturn, 1) := by decide +kernel
theorem dX12_run_13 : decode cX12_run 13 = .ok (.iload_n 1, 1) := by decide +kernel
theorem dX12_run_14 : decode cX12_run 14 = .ok (.ifCond .ne 11, 3) := by decide +kernel
theorem dX12_run_17 : decode cX12_run 17 = .ok (.aload_n 0, 1) := by decide +kernel
theorem dX12_run_18 : decode cX12_run 18 = .ok (.getfield 101, 3) := by decide +kernel
theorem dX12_run_21 : decode cX12_run 21 = .ok (.bipush 42, 2) := by decide +kernel
theorem dX12_run_23 : decode cX12_run 23 = .ok (.iaload, 1) := by decide +kernel
theorem dX12_run_24 : decode cX12_run 24 = .ok (.ireturn, 1) := by decide +kernel
theorem dX12_run_25 : decode cX12_run 25 = .ok (.aload_n 0, 1) := by decide +kernel
theorem dX12_run_26 : decode cX12_run 26 = .ok (.invokevirtual 328, 3) := by decide +kernel
theorem dX12_run_29 : decode cX12_run 29 = .ok (.aload_n 0, 1) := by decide +kernel
theorem dX12_run_30 : decode cX12_run 30 = .ok (.iload_n 1, 1) := by decide +kernel
theorem dX12_run_31 : decode cX12_run 31 = .ok (.invokevirtual 331, 3) := by decide +kernel
theorem dX12_run_34 : decode cX12_run 34 = .ok (.aload_n 0, 1) := by decide +kernel
theorem dX12_run_35 : decode cX12_run 35 = .ok (.invokevirtual 334, 3) := by decide +kernel
theorem dX12_run_38 : decode cX12_run 38 = .ok (.aload_n 0, 1) := by decide +kernel
theorem dX12_run_39 : decode cX12_run 39 = .ok (.getfield 101, 3) := by decide +kernel
theorem dX12_run_42 : decode cX12_run 42 = .ok (.bipush 42, 2) := by decide +kernel
theorem dX12_run_44 : decode cX12_run 44 = .ok (.iaload, 1) := by decide +kernel
theorem dX12_run_45 : decode cX12_run 45 = .ok (.ireturn, 1) := by decide +kernel
theorem dX12_give_0 : decode cX12_give 0 = .ok (.aload_n 0, 1) := by decide +kernel
theorem dX12_give_1 : decode cX12_give 1 = .ok (.iload_n 1, 1) := by decide +kernel
theorem dX12_give_2 : decode cX12_give 2 = .ok (.invokevirtual 325, 3) := by decide +kernel
theorem dX12_give_5 : decode cX12_give 5 = .ok (.ifCond .eq 20, 3) := by decide +kernel
theorem dX12_give_8 : decode cX12_give 8 = .ok (.aload_n 0, 1) := by decide +kernel
theorem dX12_give_9 : decode cX12_give 9 = .ok (.iload_n 2, 1) := by decide +kernel
theorem dX12_give_10 : decode cX12_give 10 = .ok (.invokevirtual 325, 3) := by decide +kernel
theorem dX12_give_13 : decode cX12_give 13 = .ok (.ifCond .eq 12, 3) := by decide +kernel
theorem dX12_give_16 : decode cX12_give 16 = .ok (.iload_n 1, 1) := by decide +kernel
theorem dX12_give_17 : decode cX12_give 17 = .ok (.iload_n 2, 1) := by decide +kernel
theorem dX12_give_18 : decode cX12_give 18 = .ok (.if_icmp .eq 7, 3) := by decide +kernel
theorem dX12_give_21 : decode cX12_give 21 = .ok (.iload_n 3, 1) := by decide +kernel
theorem dX12_give_22 : decode cX12_give 22 = .ok (.ifCond .ge 5, 3) := by decide +kernel
theorem dX12_give_25 : decode cX12_give 25 = .ok (.iconst 0, 1) := by decide +kernel
theorem dX12_give_26 : decode cX12_give 26 = .ok (.ireturn, 1) := by decide +kernel
theorem dX12_give_27 : decode cX12_give 27 = .ok (.aload_n 0, 1) := by decide +kernel
theorem dX12_give_28 : decode cX12_give 28 = .ok (.invokevirtual 328, 3) := by decide +kernel
theorem dX12_give_31 : decode cX12_give 31 = .ok (.iload_n 3, 1) := by decide +kernel
theorem dX12_give_32 : decode cX12_give 32 = .ok (.aload_n 0, 1) := by decide +kernel
theorem dX12_give_33 : decode cX12_give 33 = .ok (.iload_n 1, 1) := by decide +kernel
theorem dX12_give_34 : decode cX12_give 34 = .ok (.invokevirtual 280, 3) := by decide +kernel
theorem dX12_give_37 : decode cX12_give 37 = .ok (.if_icmp .le 5, 3) := by decide +kernel
theorem dX12_give_40 : decode cX12_give 40 = .ok (.iconst 0, 1) := by decide +kernel
theorem dX12_give_41 : decode cX12_give 41 = .ok (.ireturn, 1) := by decide +kernel
theorem dX12_give_42 : decode cX12_give 42 = .ok (.aload_n 0, 1) := by decide +kernel
theorem dX12_give_43 : decode cX12_give 43 = .ok (.getfield 104, 3) := by decide +kernel
theorem dX12_give_46 : decode cX12_give 46 = .ok (.iload_n 1, 1) := by decide +kernel
theorem dX12_give_47 : decode cX12_give 47 = .ok (.dup2, 1) := by decide +kernel
theorem dX12_give_48 : decode cX12_give 48 = .ok (.iaload, 1) := by decide +kernel
theorem dX12_give_49 : decode cX12_give 49 = .ok (.iload_n 3, 1) := by decide +kernel
theorem dX12_give_50 : decode cX12_give 50 = .ok (.isub, 1) := by decide +kernel
theorem dX12_give_51 : decode cX12_give 51 = .ok (.iastore, 1) := by decide +kernel
theorem dX12_give_52 : decode cX12_give 52 = .ok (.aload_n 0, 1) := by decide +kernel
theorem dX12_give_53 : decode cX12_give 53 = .ok (.getfield 104, 3) := by decide +kernel
theorem dX12_give_56 : decode cX12_give 56 = .ok (.iload_n 2, 1) := by decide +kernel
theorem dX12_give_57 : decode cX12_give 57 = .ok (.dup2, 1) := by decide +kernel
theorem dX12_give_58 : decode cX12_give 58 = .ok (.iaload, 1) := by decide +kernel
theorem dX12_give_59 : decode cX12_give 59 = .ok (.iload_n 3, 1) := by decide +kernel
theorem dX12_give_60 : decode cX12_give 60 = .ok (.iadd, 1) := by decide +kernel
theorem dX12_give_61 : decode cX12_give 61 = .ok (.iastore, 1) := by decide +kernel
theorem dX12_give_62 : decode cX12_give 62 = .ok (.aload_n 0, 1) := by decide +kernel
theorem dX12_give_63 : decode cX12_give 63 = .ok (.invokevirtual 334, 3) := by decide +kernel
theorem dX12_give_66 : decode cX12_give 66 = .ok (.iconst 1, 1) := by decide +kernel
theorem dX12_give_67 : decode cX12_give 67 = .ok (.ireturn, 1) := by decide +kernel
theorem dX12_hide_0 : decode cX12_hide 0 = .ok (.aload_n 0, 1) := by decide +kernel
theorem dX12_hide_1 : decode cX12_hide 1 = .ok (.iload_n 1, 1) := by decide +kernel
theorem dX12_hide_2 : decode cX12_hide 2 = .ok (.invokevirtual 325, 3) := by decide +kernel
theorem dX12_hide_5 : decode cX12_hide 5 = .ok (.ifCond .eq 17, 3) := by decide +kernel
theorem dX12_hide_8 : decode cX12_hide 8 = .ok (.iload_n 2, 1) := by decide +kernel
theorem dX12_hide_9 : decode cX12_hide 9 = .ok (.iconst 0, 1) := by decide +kernel
theorem dX12_hide_10 : decode cX12_hide 10 = .ok (.aload_n 0, 1) := by decide +kernel
theorem dX12_hide_11 : decode cX12_hide 11 = .ok (.getfield 101, 3) := by decide +kernel
theorem dX12_hide_14 : decode cX12_hide 14 = .ok (.iload_n 1, 1) := by decide +kernel
theorem dX12_hide_15 : decode cX12_hide 15 = .ok (.iaload, 1) := by decide +kernel
theorem dX12_hide_16 : decode cX12_hide 16 = .ok (.invokestatic 276, 3) := by decide +kernel
theorem dX12_hide_19 : decode cX12_hide 19 = .ok (.ifCond .ne 5, 3) := by decide +kernel
theorem dX12_hide_22 : decode cX12_hide 22 = .ok (.iconst 0, 1) := by decide +kernel
theorem dX12_hide_23 : decode cX12_hide 23 = .ok (.ireturn, 1) := by decide +kernel
theorem dX12_hide_24 : decode cX12_hide 24 = .ok (.aload_n 0, 1) := by decide +kernel
theorem dX12_hide_25 : decode cX12_hide 25 = .ok (.invokevirtual 328, 3) := by decide +kernel
theorem dX12_hide_28 : decode cX12_hide 28 = .ok (.aload_n 0, 1) := by decide +kernel
theorem dX12_hide_29 : decode cX12_hide 29 = .ok (.getfield 104, 3) := by decide +kernel
theorem dX12_hide_32 : decode cX12_hide 32 = .ok (.bipush 10, 2) := by decide +kernel
theorem dX12_hide_34 : decode cX12_hide 34 = .ok (.iload_n 1, 1) := by decide +kernel
theorem dX12_hide_35 : decode cX12_hide 35 = .ok (.iadd, 1) := by decide +kernel
theorem dX12_hide_36 : decode cX12_hide 36 = .ok (.iload_n 2, 1) := by decide +kernel
theorem dX12_hide_37 : decode cX12_hide 37 = .ok (.iastore, 1) := by decide +kernel
theorem dX12_hide_38 : decode cX12_hide 38 = .ok (.aload_n 0, 1) := by decide +kernel
theorem dX12_hide_39 : decode cX12_hide 39 = .ok (.invokevirtual 334, 3) := by decide +kernel
theorem dX12_hide_42 : decode cX12_hide 42 = .ok (.iconst 1, 1) := by decide +kernel
theorem dX12_hide_43 : decode cX12_hide 43 = .ok (.ireturn, 1) := by decide +kernel
theorem dX12_grab_0 : decode cX12_grab 0 = .ok (.aload_n 0, 1) := by decide +kernel
theorem dX12_grab_1 : decode cX12_grab 1 = .ok (.iload_n 1, 1) := by decide +kernel
theorem dX12_grab_2 : decode cX12_grab 2 = .ok (.invokevirtual 325, 3) := by decide +kernel
theorem dX12_grab_5 : decode cX12_grab 5 = .ok (.ifCond .ne 5, 3) := by decide +kernel
theorem dX12_grab_8 : decode cX12_grab 8 = .ok (.iconst (-1), 1) := by decide +kernel
theorem dX12_grab_9 : decode cX12_grab 9 = .ok (.ireturn, 1) := by decide +kernel
theorem dX12_grab_10 : decode cX12_grab 10 = .ok (.aload_n 0, 1) := by decide +kernel
theorem dX12_grab_11 : decode cX12_grab 11 = .ok (.invokevirtual 328, 3) := by decide +kernel
theorem dX12_grab_14 : decode cX12_grab 14 = .ok (.aload_n 0, 1) := by decide +kernel
theorem dX12_grab_15 : decode cX12_grab 15 = .ok (.getfield 104, 3) := by decide +kernel
theorem dX12_grab_18 : decode cX12_grab 18 = .ok (.bipush 41, 2) := by decide +kernel
theorem dX12_grab_20 : decode cX12_grab 20 = .ok (.iaload, 1) := by decide +kernel
theorem dX12_grab_21 : decode cX12_grab 21 = .ok (.istore_n 2, 1) := by decide +kernel
theorem dX12_grab_22 : decode cX12_grab 22 = .ok (.aload_n 0, 1) := by decide +kernel
theorem dX12_grab_23 : decode cX12_grab 23 = .ok (.getfield 104, 3) := by decide +kernel
theorem dX12_grab_26 : decode cX12_grab 26 = .ok (.iload_n 1, 1) := by decide +kernel
theorem dX12_grab_27 : decode cX12_grab 27 = .ok (.dup2, 1) := by decide +kernel
theorem dX12_grab_28 : decode cX12_grab 28 = .ok (.iaload, 1) := by decide +kernel
theorem dX12_grab_29 : decode cX12_grab 29 = .ok (.iload_n 2, 1) := by decide +kernel
theorem dX12_grab_30 : decode cX12_grab 30 = .ok (.iadd, 1) := by decide +kernel
theorem dX12_grab_31 : decode cX12_grab 31 = .ok (.iastore, 1) := by decide +kernel
theorem dX12_grab_32 : decode cX12_grab 32 = .ok (.aload_n 0, 1) := by decide +kernel
theorem dX12_grab_33 : decode cX12_grab 33 = .ok (.getfield 104, 3) := by decide +kernel
theorem dX12_grab_36 : decode cX12_grab 36 = .ok (.bipush 41, 2) := by decide +kernel
theorem dX12_grab_38 : decode cX12_grab 38 = .ok (.iconst 0, 1) := by decide +kernel
theorem dX12_grab_39 : decode cX12_grab 39 = .ok (.iastore, 1) := by decide +kernel
theorem dX12_grab_40 : decode cX12_grab 40 = .ok (.aload_n 0, 1) := by decide +kernel
theorem dX12_grab_41 : decode cX12_grab 41 = .ok (.invokevirtual 334, 3) := by decide +kernel
theorem dX12_grab_44 : decode cX12_grab 44 = .ok (.iload_n 2, 1) := by decide +kernel
theorem dX12_grab_45 : decode cX12_grab 45 = .ok (.ireturn, 1) := by decide +kernel
theorem dX12_builds_0 : decode cX12_builds 0 = .ok (.iconst 0, 1) := by decide +kernel
theorem dX12_builds_1 : decode cX12_builds 1 = .ok (.istore_n 3, 1) := by decide +kernel
theorem dX12_builds_2 : decode cX12_builds 2 = .ok (.iload_n 3, 1) := by decide +kernel
theorem dX12_builds_3 : decode cX12_builds 3 = .ok (.iconst 4, 1) := by decide +kernel
theorem dX12_builds_4 : decode cX12_builds 4 = .ok (.if_icmp .ge 76, 3) := by decide +kernel
theorem dX12_builds_7 : decode cX12_builds 7 = .ok (.aload_n 0, 1) := by decide +kernel
theorem dX12_builds_8 : decode cX12_builds 8 = .ok (.getfield 104, 3) := by decide +kernel
theorem dX12_builds_11 : decode cX12_builds 11 = .ok (.bipush 40, 2) := by decide +kernel
theorem dX12_builds_13 : decode cX12_builds 13 = .ok (.iaload, 1) := by decide +kernel
theorem dX12_builds_14 : decode cX12_builds 14 = .ok (.istore 4, 2) := by decide +kernel
theorem dX12_builds_16 : decode cX12_builds 16 = .ok (.iload 4, 2) := by decide +kernel
theorem dX12_builds_18 : decode cX12_builds 18 = .ok (.iload_n 1, 1) := by decide +kernel
theorem dX12_builds_19 : decode cX12_builds 19 = .ok (.if_icmp .le 35, 3) := by decide +kernel
theorem dX12_builds_22 : decode cX12_builds 22 = .ok (.aload_n 0, 1) := by decide +kernel
theorem dX12_builds_23 : decode cX12_builds 23 = .ok (.getfield 104, 3) := by decide +kernel
theorem dX12_builds_26 : decode cX12_builds 26 = .ok (.bipush 10, 2) := by decide +kernel
theorem dX12_builds_28 : decode cX12_builds 28 = .ok (.iload_n 3, 1) := by decide +kernel
theorem dX12_builds_29 : decode cX12_builds 29 = .ok (.imul, 1) := by decide +kernel
theorem dX12_builds_30 : decode cX12_builds 30 = .ok (.iload 4, 2) := by decide +kernel
theorem dX12_builds_32 : decode cX12_builds 32 = .ok (.iadd, 1) := by decide +kernel
theorem dX12_builds_33 : decode cX12_builds 33 = .ok (.aload_n 0, 1) := by decide +kernel
theorem dX12_builds_34 : decode cX12_builds 34 = .ok (.getfield 104, 3) := by decide +kernel
theorem dX12_builds_37 : decode cX12_builds 37 = .ok (.bipush 10, 2) := by decide +kernel
theorem dX12_builds_39 : decode cX12_builds 39 = .ok (.iload_n 3, 1) := by decide +kernel
theorem dX12_builds_40 : decode cX12_builds 40 = .ok (.imul, 1) := by decide +kernel
theorem dX12_builds_41 : decode cX12_builds 41 = .ok (.iload 4, 2) := by decide +kernel
theorem dX12_builds_43 : decode cX12_builds 43 = .ok (.iadd, 1) := by decide +kernel
theorem dX12_builds_44 : decode cX12_builds 44 = .ok (.iconst 1, 1) := by decide +kernel
theorem dX12_builds_45 : decode cX12_builds 45 = .ok (.isub, 1) := by decide +kernel
theorem dX12_builds_46 : decode cX12_builds 46 = .ok (.iaload, 1) := by decide +kernel
theorem dX12_builds_47 : decode cX12_builds 47 = .ok (.iastore, 1) := by decide +kernel
theorem dX12_builds_48 : decode cX12_builds 48 = .ok (.iinc 4 (-1), 3) := by decide +kernel
theorem dX12_builds_51 : decode cX12_builds 51 = .ok (.goto (-35), 3) := by decide +kernel
theorem dX12_builds_54 : decode cX12_builds 54 = .ok (.aload_n 0, 1) := by decide +kernel
theorem dX12_builds_55 : decode cX12_builds 55 = .ok (.getfield 104, 3) := by decide +kernel
theorem dX12_builds_58 : decode cX12_builds 58 = .ok (.bipush 10, 2) := by decide +kernel
theorem dX12_builds_60 : decode cX12_builds 60 = .ok (.iload_n 3, 1) := by decide +kernel
theorem dX12_builds_61 : decode cX12_builds 61 = .ok (.imul, 1) := by decide +kernel
theorem dX12_builds_62 : decode cX12_builds 62 = .ok (.iload_n 1, 1) := by decide +kernel
theorem dX12_builds_63 : decode cX12_builds 63 = .ok (.iadd, 1) := by decide +kernel
theorem dX12_builds_64 : decode cX12_builds 64 = .ok (.iload_n 3, 1) := by decide +kernel
theorem dX12_builds_65 : decode cX12_builds 65 = .ok (.ifCond .ne 7, 3) := by decide +kernel
theorem dX12_builds_68 : decode cX12_builds 68 = .ok (.iload_n 2, 1) := by decide +kernel
theorem dX12_builds_69 : decode cX12_builds 69 = .ok (.goto 4, 3) := by decide +kernel
theorem dX12_builds_72 : decode cX12_builds 72 = .ok (.iconst 0, 1) := by decide +kernel
theorem dX12_builds_73 : decode cX12_builds 73 = .ok (.iastore, 1) := by decide +kernel
theorem dX12_builds_74 : decode cX12_builds 74 = .ok (.iinc 3 1, 3) := by decide +kernel
theorem dX12_builds_77 : decode cX12_builds 77 = .ok (.goto (-75), 3) := by decide +kernel
theorem dX12_builds_80 : decode cX12_builds 80 = .ok (.aload_n 0, 1) := by decide +kernel
theorem dX12_builds_81 : decode cX12_builds 81 = .ok (.getfield 104, 3) := by decide +kernel
theorem dX12_builds_84 : decode cX12_builds 84 = .ok (.bipush 40, 2) := by decide +kernel
theorem dX12_builds_86 : decode cX12_builds 86 = .ok (.dup2, 1) := by decide +kernel
theorem dX12_builds_87 : decode cX12_builds 87 = .ok (.iaload, 1) := by decide +kernel
theorem dX12_builds_88 : decode cX12_builds 88 = .ok (.iconst 1, 1) := by decide +kernel
theorem dX12_builds_89 : decode cX12_builds 89 = .ok (.iadd, 1) := by decide +kernel
theorem dX12_builds_90 : decode cX12_builds 90 = .ok (.iastore, 1) := by decide +kernel
theorem dX12_builds_91 : decode cX12_builds 91 = .ok (.return_, 1) := by decide +kernel
theorem dX12_goes_0 : decode cX12_goes 0 = .ok (.iconst 0, 1) := by decide +kernel
theorem dX12_goes_1 : decode cX12_goes 1 = .ok (.istore_n 2, 1) := by decide +kernel
theorem dX12_goes_2 : decode cX12_goes 2 = .ok (.iload_n 2, 1) := by decide +kernel
theorem dX12_goes_3 : decode cX12_goes 3 = .ok (.iconst 4, 1) := by decide +kernel
theorem dX12_goes_4 : decode cX12_goes 4 = .ok (.if_icmp .ge 60, 3) := by decide +kernel
theorem dX12_goes_7 : decode cX12_goes 7 = .ok (.iload_n 1, 1) := by decide +kernel
theorem dX12_goes_8 : decode cX12_goes 8 = .ok (.istore_n 3, 1) := by decide +kernel
theorem dX12_goes_9 : decode cX12_goes 9 = .ok (.iload_n 3, 1) := by decide +kernel
theorem dX12_goes_10 : decode cX12_goes 10 = .ok (.bipush 9, 2) := by decide +kernel
theorem dX12_goes_12 : decode cX12_goes 12 = .ok (.if_icmp .ge 33, 3) := by decide +kernel
theorem dX12_goes_15 : decode cX12_goes 15 = .ok (.aload_n 0, 1) := by decide +kernel
theorem dX12_goes_16 : decode cX12_goes 16 = .ok (.getfield 104, 3) := by decide +kernel
theorem dX12_goes_19 : decode cX12_goes 19 = .ok (.bipush 10, 2) := by decide +kernel
theorem dX12_goes_21 : decode cX12_goes 21 = .ok (.iload_n 2, 1) := by decide +kernel
theorem dX12_goes_22 : decode cX12_goes 22 = .ok (.imul, 1) := by decide +kernel
theorem dX12_goes_23 : decode cX12_goes 23 = .ok (.iload_n 3, 1) := by decide +kernel
theorem dX12_goes_24 : decode cX12_goes 24 = .ok (.iadd, 1) := by decide +kernel
theorem dX12_goes_25 : decode cX12_goes 25 = .ok (.aload_n 0, 1) := by decide +kernel
theorem dX12_goes_26 : decode cX12_goes 26 = .ok (.getfield 104, 3) := by decide +kernel
theorem dX12_goes_29 : decode cX12_goes 29 = .ok (.bipush 10, 2) := by decide +kernel
theorem dX12_goes_31 : decode cX12_goes 31 = .ok (.iload_n 2, 1) := by decide +kernel
theorem dX12_goes_32 : decode cX12_goes 32 = .ok (.imul, 1) := by decide +kernel
theorem dX12_goes_33 : decode cX12_goes 33 = .ok (.iload_n 3, 1) := by decide +kernel
theorem dX12_goes_34 : decode cX12_goes 34 = .ok (.iadd, 1) := by decide +kernel
theorem dX12_goes_35 : decode cX12_goes 35 = .ok (.iconst 1, 1) := by decide +kernel
theorem dX12_goes_36 : decode cX12_goes 36 = .ok (.iadd, 1) := by decide +kernel
theorem dX12_goes_37 : decode cX12_goes 37 = .ok (.iaload, 1) := by decide +kernel
theorem dX12_goes_38 : decode cX12_goes 38 = .ok (.iastore, 1) := by decide +kernel
theorem dX12_goes_39 : decode cX12_goes 39 = .ok (.iinc 3 1, 3) := by decide +kernel
theorem dX12_goes_42 : decode cX12_goes 42 = .ok (.goto (-33), 3) := by decide +kernel
theorem dX12_goes_45 : decode cX12_goes 45 = .ok (.aload_n 0, 1) := by decide +kernel
theorem dX12_goes_46 : decode cX12_goes 46 = .ok (.getfield 104, 3) := by decide +kernel
theorem dX12_goes_49 : decode cX12_goes 49 = .ok (.bipush 10, 2) := by decide +kernel
theorem dX12_goes_51 : decode cX12_goes 51 = .ok (.iload_n 2, 1) := by decide +kernel
theorem dX12_goes_52 : decode cX12_goes 52 = .ok (.imul, 1) := by decide +kernel
theorem dX12_goes_53 : decode cX12_goes 53 = .ok (.bipush 9, 2) := by decide +kernel
theorem dX12_goes_55 : decode cX12_goes 55 = .ok (.iadd, 1) := by decide +kernel
theorem dX12_goes_56 : decode cX12_goes 56 = .ok (.iconst 0, 1) := by decide +kernel
theorem dX12_goes_57 : decode cX12_goes 57 = .ok (.iastore, 1) := by decide +kernel
theorem dX12_goes_58 : decode cX12_goes 58 = .ok (.iinc 2 1, 3) := by decide +kernel
theorem dX12_goes_61 : decode cX12_goes 61 = .ok (.goto (-59), 3) := by decide +kernel
theorem dX12_goes_64 : decode cX12_goes 64 = .ok (.aload_n 0, 1) := by decide +kernel
theorem dX12_goes_65 : decode cX12_goes 65 = .ok (.getfield 104, 3) := by decide +kernel
theorem dX12_goes_68 : decode cX12_goes 68 = .ok (.bipush 40, 2) := by decide +kernel
theorem dX12_goes_70 : decode cX12_goes 70 = .ok (.dup2, 1) := by decide +kernel
theorem dX12_goes_71 : decode cX12_goes 71 = .ok (.iaload, 1) := by decide +kernel
theorem dX12_goes_72 : decode cX12_goes 72 = .ok (.iconst 1, 1) := by decide +kernel
theorem dX12_goes_73 : decode cX12_goes 73 = .ok (.isub, 1) := by decide +kernel
theorem dX12_goes_74 : decode cX12_goes 74 = .ok (.iastore, 1) := by decide +kernel
theorem dX12_goes_75 : decode cX12_goes 75 = .ok (.return_, 1) := by decide +kernel
theorem dX12_build_0 : decode cX12_build 0 = .ok (.aload_n 0, 1) := by decide +kernel
theorem dX12_build_1 : decode cX12_build 1 = .ok (.getfield 101, 3) := by decide +kernel
theorem dX12_build_4 : decode cX12_build 4 = .ok (.bipush 40, 2) := by decide +kernel
theorem dX12_build_6 : decode cX12_build 6 = .ok (.iaload, 1) := by decide +kernel
theorem dX12_build_7 : decode cX12_build 7 = .ok (.bipush 10, 2) := by decide +kernel
theorem dX12_build_9 : decode cX12_build 9 = .ok (.if_icmp .eq 29, 3) := by decide +kernel
theorem dX12_build_12 : decode cX12_build 12 = .ok (.iload_n 1, 1) := by decide +kernel
theorem dX12_build_13 : decode cX12_build 13 = .ok (.iconst 0, 1) := by decide +kernel
theorem dX12_build_14 : decode cX12_build 14 = .ok (.aload_n 0, 1) := by decide +kernel
theorem dX12_build_15 : decode cX12_build 15 = .ok (.getfield 101, 3) := by decide +kernel
theorem dX12_build_18 : decode cX12_build 18 = .ok (.bipush 40, 2) := by decide +kernel
theorem dX12_build_20 : decode cX12_build 20 = .ok (.iaload, 1) := by decide +kernel
theorem dX12_build_21 : decode cX12_build 21 = .ok (.invokestatic 276, 3) := by decide +kernel
theorem dX12_build_24 : decode cX12_build 24 = .ok (.ifCond .eq 14, 3) := by decide +kernel
theorem dX12_build_27 : decode cX12_build 27 = .ok (.iload_n 2, 1) := by decide +kernel
theorem dX12_build_28 : decode cX12_build 28 = .ok (.iconst 0, 1) := by decide +kernel
theorem dX12_build_29 : decode cX12_build 29 = .ok (.sipush 9999, 3) := by decide +kernel
theorem dX12_build_32 : decode cX12_build 32 = .ok (.invokestatic 276, 3) := by decide +kernel
theorem dX12_build_35 : decode cX12_build 35 = .ok (.ifCond .ne 5, 3) := by decide +kernel
theorem dX12_build_38 : decode cX12_build 38 = .ok (.iconst (-1), 1) := by decide +kernel
theorem dX12_build_39 : decode cX12_build 39 = .ok (.ireturn, 1) := by decide +kernel
theorem dX12_build_40 : decode cX12_build 40 = .ok (.aload_n 0, 1) := by decide +kernel
theorem dX12_build_41 : decode cX12_build 41 = .ok (.invokevirtual 328, 3) := by decide +kernel
theorem dX12_build_44 : decode cX12_build 44 = .ok (.aload_n 0, 1) := by decide +kernel
theorem dX12_build_45 : decode cX12_build 45 = .ok (.iload_n 1, 1) := by decide +kernel
theorem dX12_build_46 : decode cX12_build 46 = .ok (.iload_n 2, 1) := by decide +kernel
theorem dX12_build_47 : decode cX12_build 47 = .ok (.invokevirtual 337, 3) := by decide +kernel
theorem dX12_build_50 : decode cX12_build 50 = .ok (.aload_n 0, 1) := by decide +kernel
theorem dX12_build_51 : decode cX12_build 51 = .ok (.invokevirtual 334, 3) := by decide +kernel
theorem dX12_build_54 : decode cX12_build 54 = .ok (.aload_n 0, 1) := by decide +kernel
theorem dX12_build_55 : decode cX12_build 55 = .ok (.getfield 101, 3) := by decide +kernel
theorem dX12_build_58 : decode cX12_build 58 = .ok (.bipush 40, 2) := by decide +kernel
theorem dX12_build_60 : decode cX12_build 60 = .ok (.iaload, 1) := by decide +kernel
theorem dX12_build_61 : decode cX12_build 61 = .ok (.ireturn, 1) := by decide +kernel
theorem dX12_burn_0 : decode cX12_burn 0 = .ok (.aload_n 0, 1) := by decide +kernel
theorem dX12_burn_1 : decode cX12_burn 1 = .ok (.iload_n 1, 1) := by decide +kernel
theorem dX12_burn_2 : decode cX12_burn 2 = .ok (.invokevirtual 325, 3) := by decide +kernel
theorem dX12_burn_5 : decode cX12_burn 5 = .ok (.ifCond .ne 5, 3) := by decide +kernel
theorem dX12_burn_8 : decode cX12_burn 8 = .ok (.iconst (-1), 1) := by decide +kernel
theorem dX12_burn_9 : decode cX12_burn 9 = .ok (.ireturn, 1) := by decide +kernel
theorem dX12_burn_10 : decode cX12_burn 10 = .ok (.aload_n 0, 1) := by decide +kernel
theorem dX12_burn_11 : decode cX12_burn 11 = .ok (.invokevirtual 328, 3) := by decide +kernel
theorem dX12_burn_14 : decode cX12_burn 14 = .ok (.aload_n 0, 1) := by decide +kernel
theorem dX12_burn_15 : decode cX12_burn 15 = .ok (.getfield 104, 3) := by decide +kernel
theorem dX12_burn_18 : decode cX12_burn 18 = .ok (.iload_n 1, 1) := by decide +kernel
theorem dX12_burn_19 : decode cX12_burn 19 = .ok (.iaload, 1) := by decide +kernel
theorem dX12_burn_20 : decode cX12_burn 20 = .ok (.istore_n 2, 1) := by decide +kernel
theorem dX12_burn_21 : decode cX12_burn 21 = .ok (.aload_n 0, 1) := by decide +kernel
theorem dX12_burn_22 : decode cX12_burn 22 = .ok (.iload_n 1, 1) := by decide +kernel
theorem dX12_burn_23 : decode cX12_burn 23 = .ok (.invokevirtual 340, 3) := by decide +kernel
theorem dX12_burn_26 : decode cX12_burn 26 = .ok (.aload_n 0, 1) := by decide +kernel
theorem dX12_burn_27 : decode cX12_burn 27 = .ok (.invokevirtual 334, 3) := by decide +kernel
theorem dX12_burn_30 : decode cX12_burn 30 = .ok (.iload_n 2, 1) := by decide +kernel
theorem dX12_burn_31 : decode cX12_burn 31 = .ok (.ireturn, 1) := by decide +kernel
theorem dX12_join_0 : decode cX12_join 0 = .ok (.aload_n 0, 1) := by decide +kernel
theorem dX12_join_1 : decode cX12_join 1 = .ok (.iload_n 1, 1) := by decide +kernel
theorem dX12_join_2 : decode cX12_join 2 = .ok (.invokevirtual 325, 3) := by decide +kernel
theorem dX12_join_5 : decode cX12_join 5 = .ok (.ifCond .eq 39, 3) := by decide +kernel
theorem dX12_join_8 : decode cX12_join 8 = .ok (.aload_n 0, 1) := by decide +kernel
theorem dX12_join_9 : decode cX12_join 9 = .ok (.getfield 101, 3) := by decide +kernel
theorem dX12_join_12 : decode cX12_join 12 = .ok (.bipush 40, 2) := by decide +kernel
theorem dX12_join_14 : decode cX12_join 14 = .ok (.iaload, 1) := by decide +kernel
theorem dX12_join_15 : decode cX12_join 15 = .ok (.iconst 2, 1) := by decide +kernel
theorem dX12_join_16 : decode cX12_join 16 = .ok (.if_icmp .lt 28, 3) := by decide +kernel
theorem dX12_join_19 : decode cX12_join 19 = .ok (.aload_n 0, 1) := by decide +kernel
theorem dX12_join_20 : decode cX12_join 20 = .ok (.getfield 49, 3) := by decide +kernel
theorem dX12_join_23 : decode cX12_join 23 = .ok (.aload_n 0, 1) := by decide +kernel
theorem dX12_join_24 : decode cX12_join 24 = .ok (.getfield 212, 3) := by decide +kernel
theorem dX12_join_27 : decode cX12_join 27 = .ok (.baload, 1) := by decide +kernel
theorem dX12_join_28 : decode cX12_join 28 = .ok (.ifCond .eq 18, 3) := by decide +kernel
theorem dX12_join_31 : decode cX12_join 31 = .ok (.iload_n 1, 1) := by decide +kernel
theorem dX12_join_32 : decode cX12_join 32 = .ok (.aload_n 0, 1) := by decide +kernel
theorem dX12_join_33 : decode cX12_join 33 = .ok (.getfield 101, 3) := by decide +kernel
theorem dX12_join_36 : decode cX12_join 36 = .ok (.bipush 40, 2) := by decide +kernel
theorem dX12_join_38 : decode cX12_join 38 = .ok (.iaload, 1) := by decide +kernel
theorem dX12_join_39 : decode cX12_join 39 = .ok (.iconst 1, 1) := by decide +kernel
theorem dX12_join_40 : decode cX12_join 40 = .ok (.isub, 1) := by decide +kernel
theorem dX12_join_41 : decode cX12_join 41 = .ok (.if_icmp .ne 5, 3) := by decide +kernel
theorem dX12_join_44 : decode cX12_join 44 = .ok (.iconst (-1), 1) := by decide +kernel
theorem dX12_join_45 : decode cX12_join 45 = .ok (.ireturn, 1) := by decide +kernel
theorem dX12_join_46 : decode cX12_join 46 = .ok (.aload_n 0, 1) := by decide +kernel
theorem dX12_join_47 : decode cX12_join 47 = .ok (.invokevirtual 328, 3) := by decide +kernel
theorem dX12_join_50 : decode cX12_join 50 = .ok (.iload_n 1, 1) := by decide +kernel
theorem dX12_join_51 : decode cX12_join 51 = .ok (.aload_n 0, 1) := by decide +kernel
theorem dX12_join_52 : decode cX12_join 52 = .ok (.getfield 104, 3) := by decide +kernel
theorem dX12_join_55 : decode cX12_join 55 = .ok (.bipush 40, 2) := by decide +kernel
theorem dX12_join_57 : decode cX12_join 57 = .ok (.iaload, 1) := by decide +kernel
theorem dX12_join_58 : decode cX12_join 58 = .ok (.iconst 1, 1) := by decide +kernel
theorem dX12_join_59 : decode cX12_join 59 = .ok (.isub, 1) := by decide +kernel
theorem dX12_join_60 : decode cX12_join 60 = .ok (.if_icmp .ne 7, 3) := by decide +kernel
theorem dX12_join_63 : decode cX12_join 63 = .ok (.iconst 0, 1) := by decide +kernel
theorem dX12_join_64 : decode cX12_join 64 = .ok (.goto 4, 3) := by decide +kernel
theorem dX12_join_67 : decode cX12_join 67 = .ok (.iload_n 1, 1) := by decide +kernel
theorem dX12_join_68 : decode cX12_join 68 = .ok (.istore_n 2, 1) := by decide +kernel
theorem dX12_join_69 : decode cX12_join 69 = .ok (.iload_n 1, 1) := by decide +kernel
theorem dX12_join_70 : decode cX12_join 70 = .ok (.aload_n 0, 1) := by decide +kernel
theorem dX12_join_71 : decode cX12_join 71 = .ok (.getfield 104, 3) := by decide +kernel
theorem dX12_join_74 : decode cX12_join 74 = .ok (.bipush 40, 2) := by decide +kernel
theorem dX12_join_76 : decode cX12_join 76 = .ok (.iaload, 1) := by decide +kernel
theorem dX12_join_77 : decode cX12_join 77 = .ok (.iconst 1, 1) := by decide +kernel
theorem dX12_join_78 : decode cX12_join 78 = .ok (.isub, 1) := by decide +kernel
theorem dX12_join_79 : decode cX12_join 79 = .ok (.if_icmp .ne 7, 3) := by decide +kernel
theorem dX12_join_82 : decode cX12_join 82 = .ok (.iload_n 1, 1) := by decide +kernel
theorem dX12_join_83 : decode cX12_join 83 = .ok (.goto 6, 3) := by decide +kernel
theorem dX12_join_86 : decode cX12_join 86 = .ok (.iload_n 1, 1) := by decide +kernel
theorem dX12_join_87 : decode cX12_join 87 = .ok (.iconst 1, 1) := by decide +kernel
theorem dX12_join_88 : decode cX12_join 88 = .ok (.iadd, 1) := by decide +kernel
theorem dX12_join_89 : decode cX12_join 89 = .ok (.istore_n 3, 1) := by decide +kernel
theorem dX12_join_90 : decode cX12_join 90 = .ok (.iconst 0, 1) := by decide +kernel
theorem dX12_join_91 : decode cX12_join 91 = .ok (.istore 4, 2) := by decide +kernel
theorem dX12_join_93 : decode cX12_join 93 = .ok (.iload 4, 2) := by decide +kernel
theorem dX12_join_95 : decode cX12_join 95 = .ok (.iconst 4, 1) := by decide +kernel
theorem dX12_join_96 : decode cX12_join 96 = .ok (.if_icmp .ge 36, 3) := by decide +kernel
theorem dX12_join_99 : decode cX12_join 99 = .ok (.aload_n 0, 1) := by decide +kernel
theorem dX12_join_100 : decode cX12_join 100 = .ok (.getfield 104, 3) := by decide +kernel
theorem dX12_join_103 : decode cX12_join 103 = .ok (.bipush 10, 2) := by decide +kernel
theorem dX12_join_105 : decode cX12_join 105 = .ok (.iload 4, 2) := by decide +kernel
theorem dX12_join_107 : decode cX12_join 107 = .ok (.imul, 1) := by decide +kernel
theorem dX12_join_108 : decode cX12_join 108 = .ok (.iload_n 2, 1) := by decide +kernel
theorem dX12_join_109 : decode cX12_join 109 = .ok (.iadd, 1) := by decide +kernel
theorem dX12_join_110 : decode cX12_join 110 = .ok (.dup2, 1) := by decide +kernel
theorem dX12_join_111 : decode cX12_join 111 = .ok (.iaload, 1) := by decide +kernel
theorem dX12_join_112 : decode cX12_join 112 = .ok (.aload_n 0, 1) := by decide +kernel
theorem dX12_join_113 : decode cX12_join 113 = .ok (.getfield 104, 3) := by decide +kernel
theorem dX12_join_116 : decode cX12_join 116 = .ok (.bipush 10, 2) := by decide +kernel
theorem dX12_join_118 : decode cX12_join 118 = .ok (.iload 4, 2) := by decide +kernel
theorem dX12_join_120 : decode cX12_join 120 = .ok (.imul, 1) := by decide +kernel
theorem dX12_join_121 : decode cX12_join 121 = .ok (.iload_n 3, 1) := by decide +kernel
theorem dX12_join_122 : decode cX12_join 122 = .ok (.iadd, 1) := by decide +kernel
theorem dX12_join_123 : decode cX12_join 123 = .ok (.iaload, 1) := by decide +kernel
theorem dX12_join_124 : decode cX12_join 124 = .ok (.iadd, 1) := by decide +kernel
theorem dX12_join_125 : decode cX12_join 125 = .ok (.iastore, 1) := by decide +kernel
theorem dX12_join_126 : decode cX12_join 126 = .ok (.iinc 4 1, 3) := by decide +kernel
theorem dX12_join_129 : decode cX12_join 129 = .ok (.goto (-36), 3) := by decide +kernel
theorem dX12_join_132 : decode cX12_join 132 = .ok (.aload_n 0, 1) := by decide +kernel
theorem dX12_join_133 : decode cX12_join 133 = .ok (.getfield 104, 3) := by decide +kernel
theorem dX12_join_136 : decode cX12_join 136 = .ok (.iload_n 2, 1) := by decide +kernel
theorem dX12_join_137 : decode cX12_join 137 = .ok (.iaload, 1) := by decide +kernel
theorem dX12_join_138 : decode cX12_join 138 = .ok (.istore 4, 2) := by decide +kernel
theorem dX12_join_140 : decode cX12_join 140 = .ok (.aload_n 0, 1) := by decide +kernel
theorem dX12_join_141 : decode cX12_join 141 = .ok (.iload_n 3, 1) := by decide +kernel
theorem dX12_join_142 : decode cX12_join 142 = .ok (.invokevirtual 340, 3) := by decide +kernel
theorem dX12_join_145 : decode cX12_join 145 = .ok (.aload_n 0, 1) := by decide +kernel
theorem dX12_join_146 : decode cX12_join 146 = .ok (.invokevirtual 334, 3) := by decide +kernel
theorem dX12_join_149 : decode cX12_join 149 = .ok (.iload 4, 2) := by decide +kernel
theorem dX12_join_151 : decode cX12_join 151 = .ok (.ireturn, 1) := by decide +kernel
theorem dX12_undo_0 : decode cX12_undo 0 = .ok (.aload_n 0, 1) := by decide +kernel
theorem dX12_undo_1 : decode cX12_undo 1 = .ok (.getfield 230, 3) := by decide +kernel
theorem dX12_undo_4 : decode cX12_undo 4 = .ok (.ifCond .ne 5, 3) := by decide +kernel
theorem dX12_undo_7 : decode cX12_undo 7 = .ok (.iconst 0, 1) := by decide +kernel
theorem dX12_undo_8 : decode cX12_undo 8 = .ok (.ireturn, 1) := by decide +kernel
theorem dX12_undo_9 : decode cX12_undo 9 = .ok (.aload_n 0, 1) := by decide +kernel
theorem dX12_undo_10 : decode cX12_undo 10 = .ok (.dup, 1) := by decide +kernel
theorem dX12_undo_11 : decode cX12_undo 11 = .ok (.getfield 230, 3) := by decide +kernel
theorem dX12_undo_14 : decode cX12_undo 14 = .ok (.iconst 1, 1) := by decide +kernel
theorem dX12_undo_15 : decode cX12_undo 15 = .ok (.isub, 1) := by decide +kernel
theorem dX12_undo_16 : decode cX12_undo 16 = .ok (.putfield 230, 3) := by decide +kernel
theorem dX12_undo_19 : decode cX12_undo 19 = .ok (.iconst 0, 1) := by decide +kernel
theorem dX12_undo_20 : decode cX12_undo 20 = .ok (.istore_n 1, 1) := by decide +kernel
theorem dX12_undo_21 : decode cX12_undo 21 = .ok (.iload_n 1, 1) := by decide +kernel
theorem dX12_undo_22 : decode cX12_undo 22 = .ok (.bipush 60, 2) := by decide +kernel
theorem dX12_undo_24 : decode cX12_undo 24 = .ok (.if_icmp .ge 29, 3) := by decide +kernel
theorem dX12_undo_27 : decode cX12_undo 27 = .ok (.aload_n 0, 1) := by decide +kernel
theorem dX12_undo_28 : decode cX12_undo 28 = .ok (.getfield 101, 3) := by decide +kernel
theorem dX12_undo_31 : decode cX12_undo 31 = .ok (.iload_n 1, 1) := by decide +kernel
theorem dX12_undo_32 : decode cX12_undo 32 = .ok (.aload_n 0, 1) := by decide +kernel
theorem dX12_undo_33 : decode cX12_undo 33 = .ok (.getfield 110, 3) := by decide +kernel
theorem dX12_undo_36 : decode cX12_undo 36 = .ok (.bipush 60, 2) := by decide +kernel
theorem dX12_undo_38 : decode cX12_undo 38 = .ok (.aload_n 0, 1) := by decide +kernel
theorem dX12_undo_39 : decode cX12_undo 39 = .ok (.getfield 230, 3) := by decide +kernel
theorem dX12_undo_42 : decode cX12_undo 42 = .ok (.imul, 1) := by decide +kernel
theorem dX12_undo_43 : decode cX12_undo 43 = .ok (.iload_n 1, 1) := by decide +kernel
theorem dX12_undo_44 : decode cX12_undo 44 = .ok (.iadd, 1) := by decide +kernel
theorem dX12_undo_45 : decode cX12_undo 45 = .ok (.iaload, 1) := by decide +kernel
theorem dX12_undo_46 : decode cX12_undo 46 = .ok (.iastore, 1) := by decide +kernel
theorem dX12_undo_47 : decode cX12_undo 47 = .ok (.iinc 1 1, 3) := by decide +kernel
theorem dX12_undo_50 : decode cX12_undo 50 = .ok (.goto (-29), 3) := by decide +kernel
theorem dX12_undo_53 : decode cX12_undo 53 = .ok (.iconst 1, 1) := by decide +kernel
theorem dX12_undo_54 : decode cX12_undo 54 = .ok (.ireturn, 1) := by decide +kernel
theorem dX12_isAlike_0 : decode cX12_isAlike 0 = .ok (.iconst 0, 1) := by decide +kernel
theorem dX12_isAlike_1 : decode cX12_isAlike 1 = .ok (.istore_n 3, 1) := by decide +kernel
theorem dX12_isAlike_2 : decode cX12_isAlike 2 = .ok (.iload_n 3, 1) := by decide +kernel
theorem dX12_isAlike_3 : decode cX12_isAlike 3 = .ok (.bipush 21, 2) := by decide +kernel
theorem dX12_isAlike_5 : decode cX12_isAlike 5 = .ok (.if_icmp .ge 36, 3) := by decide +kernel
theorem dX12_isAlike_8 : decode cX12_isAlike 8 = .ok (.aload_n 0, 1) := by decide +kernel
theorem dX12_isAlike_9 : decode cX12_isAlike 9 = .ok (.getfield 113, 3) := by decide +kernel
theorem dX12_isAlike_12 : decode cX12_isAlike 12 = .ok (.bipush 21, 2) := by decide +kernel
theorem dX12_isAlike_14 : decode cX12_isAlike 14 = .ok (.iload_n 1, 1) := by decide +kernel
theorem dX12_isAlike_15 : decode cX12_isAlike 15 = .ok (.imul, 1) := by decide +kernel
theorem dX12_isAlike_16 : decode cX12_isAlike 16 = .ok (.iload_n 3, 1) := by decide +kernel
theorem dX12_isAlike_17 : decode cX12_isAlike 17 = .ok (.iadd, 1) := by decide +kernel
theorem dX12_isAlike_18 : decode cX12_isAlike 18 = .ok (.iaload, 1) := by decide +kernel
theorem dX12_isAlike_19 : decode cX12_isAlike 19 = .ok (.aload_n 0, 1) := by decide +kernel
theorem dX12_isAlike_20 : decode cX12_isAlike 20 = .ok (.getfield 113, 3) := by decide +kernel
theorem dX12_isAlike_23 : decode cX12_isAlike 23 = .ok (.bipush 21, 2) := by decide +kernel
theorem dX12_isAlike_25 : decode cX12_isAlike 25 = .ok (.iload_n 2, 1) := by decide +kernel
theorem dX12_isAlike_26 : decode cX12_isAlike 26 = .ok (.imul, 1) := by decide +kernel
theorem dX12_isAlike_27 : decode cX12_isAlike 27 = .ok (.iload_n 3, 1) := by decide +kernel
theorem dX12_isAlike_28 : decode cX12_isAlike 28 = .ok (.iadd, 1) := by decide +kernel
theorem dX12_isAlike_29 : decode cX12_isAlike 29 = .ok (.iaload, 1) := by decide +kernel
theorem dX12_isAlike_30 : decode cX12_isAlike 30 = .ok (.if_icmp .eq 5, 3) := by decide +kernel
theorem dX12_isAlike_33 : decode cX12_isAlike 33 = .ok (.iconst 0, 1) := by decide +kernel
theorem dX12_isAlike_34 : decode cX12_isAlike 34 = .ok (.ireturn, 1) := by decide +kernel
theorem dX12_isAlike_35 : decode cX12_isAlike 35 = .ok (.iinc 3 1, 3) := by decide +kernel
theorem dX12_isAlike_38 : decode cX12_isAlike 38 = .ok (.goto (-36), 3) := by decide +kernel
theorem dX12_isAlike_41 : decode cX12_isAlike 41 = .ok (.iconst 1, 1) := by decide +kernel
theorem dX12_isAlike_42 : decode cX12_isAlike 42 = .ok (.ireturn, 1) := by decide +kernel
theorem dX12_becomes_0 : decode cX12_becomes 0 = .ok (.iload_n 1, 1) := by decide +kernel
theorem dX12_becomes_1 : decode cX12_becomes 1 = .ok (.iconst 0, 1) := by decide +kernel
theorem dX12_becomes_2 : decode cX12_becomes 2 = .ok (.iconst 1, 1) := by decide +kernel
theorem dX12_becomes_3 : decode cX12_becomes 3 = .ok (.invokestatic 276, 3) := by decide +kernel
theorem dX12_becomes_6 : decode cX12_becomes 6 = .ok (.ifCond .ne 5, 3) := by decide +kernel
theorem dX12_becomes_9 : decode cX12_becomes 9 = .ok (.iconst (-1), 1) := by decide +kernel
theorem dX12_becomes_10 : decode cX12_becomes 10 = .ok (.ireturn, 1) := by decide +kernel
theorem dX12_becomes_11 : decode cX12_becomes 11 = .ok (.aload_n 0, 1) := by decide +kernel
theorem dX12_becomes_12 : decode cX12_becomes 12 = .ok (.invokevirtual 328, 3) := by decide +kernel
theorem dX12_becomes_15 : decode cX12_becomes 15 = .ok (.iconst 0, 1) := by decide +kernel
theorem dX12_becomes_16 : decode cX12_becomes 16 = .ok (.istore_n 2, 1) := by decide +kernel
theorem dX12_becomes_17 : decode cX12_becomes 17 = .ok (.iload_n 2, 1) := by decide +kernel
theorem dX12_becomes_18 : decode cX12_becomes 18 = .ok (.sipush 300, 3) := by decide +kernel
theorem dX12_becomes_21 : decode cX12_becomes 21 = .ok (.if_icmp .gt 72, 3) := by decide +kernel
theorem dX12_becomes_24 : decode cX12_becomes 24 = .ok (.iconst 0, 1) := by decide +kernel
theorem dX12_becomes_25 : decode cX12_becomes 25 = .ok (.istore_n 3, 1) := by decide +kernel
theorem dX12_becomes_26 : decode cX12_becomes 26 = .ok (.iload_n 3, 1) := by decide +kernel
theorem dX12_becomes_27 : decode cX12_becomes 27 = .ok (.bipush 20, 2) := by decide +kernel
theorem dX12_becomes_29 : decode cX12_becomes 29 = .ok (.if_icmp .ge 26, 3) := by decide +kernel
theorem dX12_becomes_32 : decode cX12_becomes 32 = .ok (.aload_n 0, 1) := by decide +kernel
theorem dX12_becomes_33 : decode cX12_becomes 33 = .ok (.getfield 113, 3) := by decide +kernel
theorem dX12_becomes_36 : decode cX12_becomes 36 = .ok (.bipush 21, 2) := by decide +kernel
theorem dX12_becomes_38 : decode cX12_becomes 38 = .ok (.iload_n 2, 1) := by decide +kernel
theorem dX12_becomes_39 : decode cX12_becomes 39 = .ok (.imul, 1) := by decide +kernel
theorem dX12_becomes_40 : decode cX12_becomes 40 = .ok (.iload_n 3, 1) := by decide +kernel
theorem dX12_becomes_41 : decode cX12_becomes 41 = .ok (.iadd, 1) := by decide +kernel
theorem dX12_becomes_42 : decode cX12_becomes 42 = .ok (.aload_n 0, 1) := by decide +kernel
theorem dX12_becomes_43 : decode cX12_becomes 43 = .ok (.getfield 104, 3) := by decide +kernel
theorem dX12_becomes_46 : decode cX12_becomes 46 = .ok (.iload_n 3, 1) := by decide +kernel
theorem dX12_becomes_47 : decode cX12_becomes 47 = .ok (.iaload, 1) := by decide +kernel
theorem dX12_becomes_48 : decode cX12_becomes 48 = .ok (.iastore, 1) := by decide +kernel
theorem dX12_becomes_49 : decode cX12_becomes 49 = .ok (.iinc 3 1, 3) := by decide +kernel
theorem dX12_becomes_52 : decode cX12_becomes 52 = .ok (.goto (-26), 3) := by decide +kernel
theorem dX12_becomes_55 : decode cX12_becomes 55 = .ok (.aload_n 0, 1) := by decide +kernel
theorem dX12_becomes_56 : decode cX12_becomes 56 = .ok (.getfield 113, 3) := by decide +kernel
theorem dX12_becomes_59 : decode cX12_becomes 59 = .ok (.bipush 21, 2) := by decide +kernel
theorem dX12_becomes_61 : decode cX12_becomes 61 = .ok (.iload_n 2, 1) := by decide +kernel
theorem dX12_becomes_62 : decode cX12_becomes 62 = .ok (.imul, 1) := by decide +kernel
theorem dX12_becomes_63 : decode cX12_becomes 63 = .ok (.bipush 20, 2) := by decide +kernel
theorem dX12_becomes_65 : decode cX12_becomes 65 = .ok (.iadd, 1) := by decide +kernel
theorem dX12_becomes_66 : decode cX12_becomes 66 = .ok (.aload_n 0, 1) := by decide +kernel
theorem dX12_becomes_67 : decode cX12_becomes 67 = .ok (.getfield 104, 3) := by decide +kernel
theorem dX12_becomes_70 : decode cX12_becomes 70 = .ok (.bipush 41, 2) := by decide +kernel
theorem dX12_becomes_72 : decode cX12_becomes 72 = .ok (.iaload, 1) := by decide +kernel
theorem dX12_becomes_73 : decode cX12_becomes 73 = .ok (.iastore, 1) := by decide +kernel
theorem dX12_becomes_74 : decode cX12_becomes 74 = .ok (.aload_n 0, 1) := by decide +kernel
theorem dX12_becomes_75 : decode cX12_becomes 75 = .ok (.aload_n 0, 1) := by decide +kernel
theorem dX12_becomes_76 : decode cX12_becomes 76 = .ok (.getfield 56, 3) := by decide +kernel
theorem dX12_becomes_79 : decode cX12_becomes 79 = .ok (.aload_n 0, 1) := by decide +kernel
theorem dX12_becomes_80 : decode cX12_becomes 80 = .ok (.getfield 212, 3) := by decide +kernel
theorem dX12_becomes_83 : decode cX12_becomes 83 = .ok (.iaload, 1) := by decide +kernel
theorem dX12_becomes_84 : decode cX12_becomes 84 = .ok (.invokevirtual 322, 3) := by decide +kernel
theorem dX12_becomes_87 : decode cX12_becomes 87 = .ok (.iinc 2 1, 3) := by decide +kernel
theorem dX12_becomes_90 : decode cX12_becomes 90 = .ok (.goto (-73), 3) := by decide +kernel
theorem dX12_becomes_93 : decode cX12_becomes 93 = .ok (.iconst 1, 1) := by decide +kernel
theorem dX12_becomes_94 : decode cX12_becomes 94 = .ok (.istore_n 2, 1) := by decide +kernel
theorem dX12_becomes_95 : decode cX12_becomes 95 = .ok (.iload_n 2, 1) := by decide +kernel
theorem dX12_becomes_96 : decode cX12_becomes 96 = .ok (.sipush 300, 3) := by decide +kernel
theorem dX12_becomes_99 : decode cX12_becomes 99 = .ok (.if_icmp .gt 47, 3) := by decide +kernel
theorem dX12_becomes_102 : decode cX12_becomes 102 = .ok (.iconst 0, 1) := by decide +kernel
theorem dX12_becomes_103 : decode cX12_becomes 103 = .ok (.istore_n 3, 1) := by decide +kernel
theorem dX12_becomes_104 : decode cX12_becomes 104 = .ok (.iload_n 3, 1) := by decide +kernel
theorem dX12_becomes_105 : decode cX12_becomes 105 = .ok (.iload_n 2, 1) := by decide +kernel
theorem dX12_becomes_106 : decode cX12_becomes 106 = .ok (.iadd, 1) := by decide +kernel
theorem dX12_becomes_107 : decode cX12_becomes 107 = .ok (.sipush 300, 3) := by decide +kernel
theorem dX12_becomes_110 : decode cX12_becomes 110 = .ok (.if_icmp .gt 30, 3) := by decide +kernel
theorem dX12_becomes_113 : decode cX12_becomes 113 = .ok (.aload_n 0, 1) := by decide +kernel
theorem dX12_becomes_114 : decode cX12_becomes 114 = .ok (.iload_n 3, 1) := by decide +kernel
theorem dX12_becomes_115 : decode cX12_becomes 115 = .ok (.iload_n 3, 1) := by decide +kernel
theorem dX12_becomes_116 : decode cX12_becomes 116 = .ok (.iload_n 2, 1) := by decide +kernel
theorem dX12_becomes_117 : decode cX12_becomes 117 = .ok (.iadd, 1) := by decide +kernel
theorem dX12_becomes_118 : decode cX12_becomes 118 = .ok (.invokevirtual 343, 3) := by decide +kernel
theorem dX12_becomes_121 : decode cX12_becomes 121 = .ok (.ifCond .eq 13, 3) := by decide +kernel
theorem dX12_becomes_124 : decode cX12_becomes 124 = .ok (.iload_n 1, 1) := by decide +kernel
theorem dX12_becomes_125 : decode cX12_becomes 125 = .ok (.ifCond .ne 7, 3) := by decide +kernel
theorem dX12_becomes_128 : decode cX12_becomes 128 = .ok (.iload_n 2, 1) := by decide +kernel
theorem dX12_becomes_129 : decode cX12_becomes 129 = .ok (.goto 4, 3) := by decide +kernel
theorem dX12_becomes_132 : decode cX12_becomes 132 = .ok (.iload_n 3, 1) := by decide +kernel
theorem dX12_becomes_133 : decode cX12_becomes 133 = .ok (.ireturn, 1) := by decide +kernel
theorem dX12_becomes_134 : decode cX12_becomes 134 = .ok (.iinc 3 1, 3) := by decide +kernel
theorem dX12_becomes_137 : decode cX12_becomes 137 = .ok (.goto (-33), 3) := by decide +kernel
theorem dX12_becomes_140 : decode cX12_becomes 140 = .ok (.iinc 2 1, 3) := by decide +kernel
theorem dX12_becomes_143 : decode cX12_becomes 143 = .ok (.goto (-48), 3) := by decide +kernel
theorem dX12_becomes_146 : decode cX12_becomes 146 = .ok (.bipush (-2), 2) := by decide +kernel
theorem dX12_becomes_148 : decode cX12_becomes 148 = .ok (.ireturn, 1) := by decide +kernel
theorem dX12_apartNow_0 : decode cX12_apartNow 0 = .ok (.aload_n 0, 1) := by decide +kernel
theorem dX12_apartNow_1 : decode cX12_apartNow 1 = .ok (.getfield 104, 3) := by decide +kernel
theorem dX12_apartNow_4 : decode cX12_apartNow 4 = .ok (.bipush 40, 2) := by decide +kernel
theorem dX12_apartNow_6 : decode cX12_apartNow 6 = .ok (.iaload, 1) := by decide +kernel
theorem dX12_apartNow_7 : decode cX12_apartNow 7 = .ok (.ifCond .ne 5, 3) := by decide +kernel
theorem dX12_apartNow_10 : decode cX12_apartNow 10 = .ok (.iconst 0, 1) := by decide +kernel
theorem dX12_apartNow_11 : decode cX12_apartNow 11 = .ok (.ireturn, 1) := by decide +kernel
theorem dX12_apartNow_12 : decode cX12_apartNow 12 = .ok (.aload_n 0, 1) := by decide +kernel
theorem dX12_apartNow_13 : decode cX12_apartNow 13 = .ok (.getfield 104, 3) := by decide +kernel
theorem dX12_apartNow_16 : decode cX12_apartNow 16 = .ok (.iconst 0, 1) := by decide +kernel
theorem dX12_apartNow_17 : decode cX12_apartNow 17 = .ok (.iaload, 1) := by decide +kernel
theorem dX12_apartNow_18 : decode cX12_apartNow 18 = .ok (.istore_n 1, 1) := by decide +kernel
theorem dX12_apartNow_19 : decode cX12_apartNow 19 = .ok (.aload_n 0, 1) := by decide +kernel
theorem dX12_apartNow_20 : decode cX12_apartNow 20 = .ok (.getfield 104, 3) := by decide +kernel
theorem dX12_apartNow_23 : decode cX12_apartNow 23 = .ok (.iconst 0, 1) := by decide +kernel
theorem dX12_apartNow_24 : decode cX12_apartNow 24 = .ok (.iaload, 1) := by decide +kernel
theorem dX12_apartNow_25 : decode cX12_apartNow 25 = .ok (.istore_n 2, 1) := by decide +kernel
theorem dX12_apartNow_26 : decode cX12_apartNow 26 = .ok (.iconst 1, 1) := by decide +kernel
theorem dX12_apartNow_27 : decode cX12_apartNow 27 = .ok (.istore_n 3, 1) := by decide +kernel
theorem dX12_apartNow_28 : decode cX12_apartNow 28 = .ok (.iload_n 3, 1) := by decide +kernel
theorem dX12_apartNow_29 : decode cX12_apartNow 29 = .ok (.aload_n 0, 1) := by decide +kernel
theorem dX12_apartNow_30 : decode cX12_apartNow 30 = .ok (.getfield 104, 3) := by decide +kernel
theorem dX12_apartNow_33 : decode cX12_apartNow 33 = .ok (.bipush 40, 2) := by decide +kernel
theorem dX12_apartNow_35 : decode cX12_apartNow 35 = .ok (.iaload, 1) := by decide +kernel
theorem dX12_apartNow_36 : decode cX12_apartNow 36 = .ok (.if_icmp .ge 43, 3) := by decide +kernel
theorem dX12_apartNow_39 : decode cX12_apartNow 39 = .ok (.aload_n 0, 1) := by decide +kernel
theorem dX12_apartNow_40 : decode cX12_apartNow 40 = .ok (.getfield 104, 3) := by decide +kernel
theorem dX12_apartNow_43 : decode cX12_apartNow 43 = .ok (.iload_n 3, 1) := by decide +kernel
theorem dX12_apartNow_44 : decode cX12_apartNow 44 = .ok (.iaload, 1) := by decide +kernel
theorem dX12_apartNow_45 : decode cX12_apartNow 45 = .ok (.iload_n 1, 1) := by decide +kernel
theorem dX12_apartNow_46 : decode cX12_apartNow 46 = .ok (.if_icmp .ge 10, 3) := by decide +kernel
theorem dX12_apartNow_49 : decode cX12_apartNow 49 = .ok (.aload_n 0, 1) := by decide +kernel
theorem dX12_apartNow_50 : decode cX12_apartNow 50 = .ok (.getfield 104, 3) := by decide +kernel
theorem dX12_apartNow_53 : decode cX12_apartNow 53 = .ok (.iload_n 3, 1) := by decide +kernel
theorem dX12_apartNow_54 : decode cX12_apartNow 54 = .ok (.iaload, 1) := by decide +kernel
theorem dX12_apartNow_55 : decode cX12_apartNow 55 = .ok (.istore_n 1, 1) := by decide +kernel
theorem dX12_apartNow_56 : decode cX12_apartNow 56 = .ok (.aload_n 0, 1) := by decide +kernel
theorem dX12_apartNow_57 : decode cX12_apartNow 57 = .ok (.getfield 104, 3) := by decide +kernel
theorem dX12_apartNow_60 : decode cX12_apartNow 60 = .ok (.iload_n 3, 1) := by decide +kernel
theorem dX12_apartNow_61 : decode cX12_apartNow 61 = .ok (.iaload, 1) := by decide +kernel
theorem dX12_apartNow_62 : decode cX12_apartNow 62 = .ok (.iload_n 2, 1) := by decide +kernel
theorem dX12_apartNow_63 : decode cX12_apartNow 63 = .ok (.if_icmp .le 10, 3) := by decide +kernel
theorem dX12_apartNow_66 : decode cX12_apartNow 66 = .ok (.aload_n 0, 1) := by decide +kernel
theorem dX12_apartNow_67 : decode cX12_apartNow 67 = .ok (.getfield 104, 3) := by decide +kernel
theorem dX12_apartNow_70 : decode cX12_apartNow 70 = .ok (.iload_n 3, 1) := by decide +kernel
theorem dX12_apartNow_71 : decode cX12_apartNow 71 = .ok (.iaload, 1) := by decide +kernel
theorem dX12_apartNow_72 : decode cX12_apartNow 72 = .ok (.istore_n 2, 1) := by decide +kernel
theorem dX12_apartNow_73 : decode cX12_apartNow 73 = .ok (.iinc 3 1, 3) := by decide +kernel
theorem dX12_apartNow_76 : decode cX12_apartNow 76 = .ok (.goto (-48), 3) := by decide +kernel
theorem dX12_apartNow_79 : decode cX12_apartNow 79 = .ok (.iload_n 2, 1) := by decide +kernel
theorem dX12_apartNow_80 : decode cX12_apartNow 80 = .ok (.iload_n 1, 1) := by decide +kernel
theorem dX12_apartNow_81 : decode cX12_apartNow 81 = .ok (.isub, 1) := by decide +kernel
theorem dX12_apartNow_82 : decode cX12_apartNow 82 = .ok (.ireturn, 1) := by decide +kernel
theorem dX12_apart_0 : decode cX12_apart 0 = .ok (.iload_n 1, 1) := by decide +kernel
theorem dX12_apart_1 : decode cX12_apart 1 = .ok (.iconst 0, 1) := by decide +kernel
theorem dX12_apart_2 : decode cX12_apart 2 = .ok (.sipush 300, 3) := by decide +kernel
theorem dX12_apart_5 : decode cX12_apart 5 = .ok (.invokestatic 276, 3) := by decide +kernel
theorem dX12_apart_8 : decode cX12_apart 8 = .ok (.ifCond .ne 5, 3) := by decide +kernel
theorem dX12_apart_11 : decode cX12_apart 11 = .ok (.iconst (-1), 1) := by decide +kernel
theorem dX12_apart_12 : decode cX12_apart 12 = .ok (.ireturn, 1) := by decide +kernel
theorem dX12_apart_13 : decode cX12_apart 13 = .ok (.aload_n 0, 1) := by decide +kernel
theorem dX12_apart_14 : decode cX12_apart 14 = .ok (.invokevirtual 328, 3) := by decide +kernel
theorem dX12_apart_17 : decode cX12_apart 17 = .ok (.aload_n 0, 1) := by decide +kernel
theorem dX12_apart_18 : decode cX12_apart 18 = .ok (.iload_n 1, 1) := by decide +kernel
theorem dX12_apart_19 : decode cX12_apart 19 = .ok (.invokevirtual 331, 3) := by decide +kernel
theorem dX12_apart_22 : decode cX12_apart 22 = .ok (.aload_n 0, 1) := by decide +kernel
theorem dX12_apart_23 : decode cX12_apart 23 = .ok (.invokevirtual 347, 3) := by decide +kernel
theorem dX12_apart_26 : decode cX12_apart 26 = .ok (.ireturn, 1) := by decide +kernel
theorem dX12_evenBy_0 : decode cX12_evenBy 0 = .ok (.aload_n 0, 1) := by decide +kernel
theorem dX12_evenBy_1 : decode cX12_evenBy 1 = .ok (.invokevirtual 328, 3) := by decide +kernel
theorem dX12_evenBy_4 : decode cX12_evenBy 4 = .ok (.iconst 0, 1) := by decide +kernel
theorem dX12_evenBy_5 : decode cX12_evenBy 5 = .ok (.istore_n 3, 1) := by decide +kernel
theorem dX12_evenBy_6 : decode cX12_evenBy 6 = .ok (.iload_n 3, 1) := by decide +kernel
theorem dX12_evenBy_7 : decode cX12_evenBy 7 = .ok (.sipush 300, 3) := by decide +kernel
theorem dX12_evenBy_10 : decode cX12_evenBy 10 = .ok (.if_icmp .gt 24, 3) := by decide +kernel
theorem dX12_evenBy_13 : decode cX12_evenBy 13 = .ok (.aload_n 0, 1) := by decide +kernel
theorem dX12_evenBy_14 : decode cX12_evenBy 14 = .ok (.invokevirtual 347, 3) := by decide +kernel
theorem dX12_evenBy_17 : decode cX12_evenBy 17 = .ok (.iload_n 1, 1) := by decide +kernel
theorem dX12_evenBy_18 : decode cX12_evenBy 18 = .ok (.if_icmp .gt 5, 3) := by decide +kernel
theorem dX12_evenBy_21 : decode cX12_evenBy 21 = .ok (.iload_n 3, 1) := by decide +kernel
theorem dX12_evenBy_22 : decode cX12_evenBy 22 = .ok (.ireturn, 1) := by decide +kernel
theorem dX12_evenBy_23 : decode cX12_evenBy 23 = .ok (.aload_n 0, 1) := by decide +kernel
theorem dX12_evenBy_24 : decode cX12_evenBy 24 = .ok (.iload_n 2, 1) := by decide +kernel
theorem dX12_evenBy_25 : decode cX12_evenBy 25 = .ok (.invokevirtual 322, 3) := by decide +kernel
theorem dX12_evenBy_28 : decode cX12_evenBy 28 = .ok (.iinc 3 1, 3) := by decide +kernel
theorem dX12_evenBy_31 : decode cX12_evenBy 31 = .ok (.goto (-25), 3) := by decide +kernel
theorem dX12_evenBy_34 : decode cX12_evenBy 34 = .ok (.bipush (-2), 2) := by decide +kernel
theorem dX12_evenBy_36 : decode cX12_evenBy 36 = .ok (.ireturn, 1) := by decide +kernel
theorem dX12_even_0 : decode cX12_even 0 = .ok (.iload_n 1, 1) := by decide +kernel
theorem dX12_even_1 : decode cX12_even 1 = .ok (.ifCond .lt 12, 3) := by decide +kernel
theorem dX12_even_4 : decode cX12_even 4 = .ok (.iload_n 2, 1) := by decide +kernel
theorem dX12_even_5 : decode cX12_even 5 = .ok (.iconst 0, 1) := by decide +kernel
theorem dX12_even_6 : decode cX12_even 6 = .ok (.iconst 2, 1) := by decide +kernel
theorem dX12_even_7 : decode cX12_even 7 = .ok (.invokestatic 276, 3) := by decide +kernel
theorem dX12_even_10 : decode cX12_even 10 = .ok (.ifCond .ne 7, 3) := by decide +kernel
theorem dX12_even_13 : decode cX12_even 13 = .ok (.iconst (-1), 1) := by decide +kernel
theorem dX12_even_14 : decode cX12_even 14 = .ok (.goto 9, 3) := by decide +kernel
theorem dX12_even_17 : decode cX12_even 17 = .ok (.aload_n 0, 1) := by decide +kernel
theorem dX12_even_18 : decode cX12_even 18 = .ok (.iload_n 1, 1) := by decide +kernel
theorem dX12_even_19 : decode cX12_even 19 = .ok (.iload_n 2, 1) := by decide +kernel
theorem dX12_even_20 : decode cX12_even 20 = .ok (.invokevirtual 351, 3) := by decide +kernel
theorem dX12_even_23 : decode cX12_even 23 = .ok (.ireturn, 1) := by decide +kernel
theorem dX12_soonest_0 : decode cX12_soonest 0 = .ok (.iload_n 1, 1) := by decide +kernel
theorem dX12_soonest_1 : decode cX12_soonest 1 = .ok (.ifCond .ge 5, 3) := by decide +kernel
theorem dX12_soonest_4 : decode cX12_soonest 4 = .ok (.iconst (-1), 1) := by decide +kernel
theorem dX12_soonest_5 : decode cX12_soonest 5 = .ok (.ireturn, 1) := by decide +kernel
theorem dX12_soonest_6 : decode cX12_soonest 6 = .ok (.bipush (-2), 2) := by decide +kernel
theorem dX12_soonest_8 : decode cX12_soonest 8 = .ok (.istore_n 2, 1) := by decide +kernel
theorem dX12_soonest_9 : decode cX12_soonest 9 = .ok (.iconst 0, 1) := by decide +kernel
theorem dX12_soonest_10 : decode cX12_soonest 10 = .ok (.istore_n 3, 1) := by decide +kernel
theorem dX12_soonest_11 : decode cX12_soonest 11 = .ok (.iconst 0, 1) := by decide +kernel
theorem dX12_soonest_12 : decode cX12_soonest 12 = .ok (.istore 4, 2) := by decide +kernel
theorem dX12_soonest_14 : decode cX12_soonest 14 = .ok (.iload 4, 2) := by decide +kernel
theorem dX12_soonest_16 : decode cX12_soonest 16 = .ok (.iconst 3, 1) := by decide +kernel
theorem dX12_soonest_17 : decode cX12_soonest 17 = .ok (.if_icmp .ge 42, 3) := by decide +kernel
theorem dX12_soonest_20 : decode cX12_soonest 20 = .ok (.aload_n 0, 1) := by decide +kernel
theorem dX12_soonest_21 : decode cX12_soonest 21 = .ok (.iload_n 1, 1) := by decide +kernel
theorem dX12_soonest_22 : decode cX12_soonest 22 = .ok (.iload 4, 2) := by decide +kernel
theorem dX12_soonest_24 : decode cX12_soonest 24 = .ok (.invokevirtual 351, 3) := by decide +kernel
theorem dX12_soonest_27 : decode cX12_soonest 27 = .ok (.istore 5, 2) := by decide +kernel
theorem dX12_soonest_29 : decode cX12_soonest 29 = .ok (.iload 5, 2) := by decide +kernel
theorem dX12_soonest_31 : decode cX12_soonest 31 = .ok (.ifCond .lt 22, 3) := by decide +kernel
theorem dX12_soonest_34 : decode cX12_soonest 34 = .ok (.iload_n 2, 1) := by decide +kernel
theorem dX12_soonest_35 : decode cX12_soonest 35 = .ok (.ifCond .lt 12, 3) := by decide +kernel
theorem dX12_soonest_38 : decode cX12_soonest 38 = .ok (.iload 5, 2) := by decide +kernel
theorem dX12_soonest_40 : decode cX12_soonest 40 = .ok (.iload_n 3, 1) := by decide +kernel
theorem dX12_soonest_41 : decode cX12_soonest 41 = .ok (.if_icmp .lt 6, 3) := by decide +kernel
theorem dX12_soonest_44 : decode cX12_soonest 44 = .ok (.goto 9, 3) := by decide +kernel
theorem dX12_soonest_47 : decode cX12_soonest 47 = .ok (.iload 4, 2) := by decide +kernel
theorem dX12_soonest_49 : decode cX12_soonest 49 = .ok (.istore_n 2, 1) := by decide +kernel
theorem dX12_soonest_50 : decode cX12_soonest 50 = .ok (.iload 5, 2) := by decide +kernel
theorem dX12_soonest_52 : decode cX12_soonest 52 = .ok (.istore_n 3, 1) := by decide +kernel
theorem dX12_soonest_53 : decode cX12_soonest 53 = .ok (.iinc 4 1, 3) := by decide +kernel
theorem dX12_soonest_56 : decode cX12_soonest 56 = .ok (.goto (-42), 3) := by decide +kernel
theorem dX12_soonest_59 : decode cX12_soonest 59 = .ok (.iload_n 2, 1) := by decide +kernel
theorem dX12_soonest_60 : decode cX12_soonest 60 = .ok (.ireturn, 1) := by decide +kernel
theorem dX12_start_0 : decode cX12_start 0 = .ok (.aload_n 0, 1) := by decide +kernel
theorem dX12_start_1 : decode cX12_start 1 = .ok (.iload_n 1, 1) := by decide +kernel
theorem dX12_start_2 : decode cX12_start 2 = .ok (.invokevirtual 325, 3) := by decide +kernel
theorem dX12_start_5 : decode cX12_start 5 = .ok (.ifCond .eq 12, 3) := by decide +kernel
theorem dX12_start_8 : decode cX12_start 8 = .ok (.iload_n 2, 1) := by decide +kernel
theorem dX12_start_9 : decode cX12_start 9 = .ok (.iconst 0, 1) := by decide +kernel
theorem dX12_start_10 : decode cX12_start 10 = .ok (.iconst 1, 1) := by decide +kernel
theorem dX12_start_11 : decode cX12_start 11 = .ok (.invokestatic 276, 3) := by decide +kernel
theorem dX12_start_14 : decode cX12_start 14 = .ok (.ifCond .ne 5, 3) := by decide +kernel
theorem dX12_start_17 : decode cX12_start 17 = .ok (.iconst (-1), 1) := by decide +kernel
theorem dX12_start_18 : decode cX12_start 18 = .ok (.ireturn, 1) := by decide +kernel
theorem dX12_start_19 : decode cX12_start 19 = .ok (.iconst (-1), 1) := by decide +kernel
theorem dX12_start_20 : decode cX12_start 20 = .ok (.istore_n 3, 1) := by decide +kernel
theorem dX12_start_21 : decode cX12_start 21 = .ok (.iconst 0, 1) := by decide +kernel
theorem dX12_start_22 : decode cX12_start 22 = .ok (.istore 4, 2) := by decide +kernel
theorem dX12_start_24 : decode cX12_start 24 = .ok (.iconst 0, 1) := by decide +kernel
theorem dX12_start_25 : decode cX12_start 25 = .ok (.istore 5, 2) := by decide +kernel
theorem dX12_start_27 : decode cX12_start 27 = .ok (.iload 5, 2) := by decide +kernel
theorem dX12_start_29 : decode cX12_start 29 = .ok (.aload_n 0, 1) := by decide +kernel
theorem dX12_start_30 : decode cX12_start 30 = .ok (.getfield 101, 3) := by decide +kernel
theorem dX12_start_33 : decode cX12_start 33 = .ok (.bipush 40, 2) := by decide +kernel
theorem dX12_start_35 : decode cX12_start 35 = .ok (.iaload, 1) := by decide +kernel
theorem dX12_start_36 : decode cX12_start 36 = .ok (.if_icmp .ge 49, 3) := by decide +kernel
theorem dX12_start_39 : decode cX12_start 39 = .ok (.aload_n 0, 1) := by decide +kernel
theorem dX12_start_40 : decode cX12_start 40 = .ok (.invokevirtual 328, 3) := by decide +kernel
theorem dX12_start_43 : decode cX12_start 43 = .ok (.aload_n 0, 1) := by decide +kernel
theorem dX12_start_44 : decode cX12_start 44 = .ok (.iconst 1, 1) := by decide +kernel
theorem dX12_start_45 : decode cX12_start 45 = .ok (.iload 5, 2) := by decide +kernel
theorem dX12_start_47 : decode cX12_start 47 = .ok (.invokevirtual 315, 3) := by decide +kernel
theorem dX12_start_50 : decode cX12_start 50 = .ok (.iload_n 3, 1) := by decide +kernel
theorem dX12_start_51 : decode cX12_start 51 = .ok (.ifCond .lt 17, 3) := by decide +kernel
theorem dX12_start_54 : decode cX12_start 54 = .ok (.aload_n 0, 1) := by decide +kernel
theorem dX12_start_55 : decode cX12_start 55 = .ok (.getfield 104, 3) := by decide +kernel
theorem dX12_start_58 : decode cX12_start 58 = .ok (.iload_n 1, 1) := by decide +kernel
theorem dX12_start_59 : decode cX12_start 59 = .ok (.iaload, 1) := by decide +kernel
theorem dX12_start_60 : decode cX12_start 60 = .ok (.iload 4, 2) := by decide +kernel
theorem dX12_start_62 : decode cX12_start 62 = .ok (.if_icmp .gt 6, 3) := by decide +kernel
theorem dX12_start_65 : decode cX12_start 65 = .ok (.goto 14, 3) := by decide +kernel
theorem dX12_start_68 : decode cX12_start 68 = .ok (.iload 5, 2) := by decide +kernel
theorem dX12_start_70 : decode cX12_start 70 = .ok (.istore_n 3, 1) := by decide +kernel
theorem dX12_start_71 : decode cX12_start 71 = .ok (.aload_n 0, 1) := by decide +kernel
theorem dX12_start_72 : decode cX12_start 72 = .ok (.getfield 104, 3) := by decide +kernel
theorem dX12_start_75 : decode cX12_start 75 = .ok (.iload_n 1, 1) := by decide +kernel
theorem dX12_start_76 : decode cX12_start 76 = .ok (.iaload, 1) := by decide +kernel
theorem dX12_start_77 : decode cX12_start 77 = .ok (.istore 4, 2) := by decide +kernel
theorem dX12_start_79 : decode cX12_start 79 = .ok (.iinc 5 1, 3) := by decide +kernel
theorem dX12_start_82 : decode cX12_start 82 = .ok (.goto (-55), 3) := by decide +kernel
theorem dX12_start_85 : decode cX12_start 85 = .ok (.iload_n 2, 1) := by decide +kernel
theorem dX12_start_86 : decode cX12_start 86 = .ok (.ifCond .ne 7, 3) := by decide +kernel
theorem dX12_start_89 : decode cX12_start 89 = .ok (.iload_n 3, 1) := by decide +kernel
theorem dX12_start_90 : decode cX12_start 90 = .ok (.goto 5, 3) := by decide +kernel
theorem dX12_start_93 : decode cX12_start 93 = .ok (.iload 4, 2) := by decide +kernel
theorem dX12_start_95 : decode cX12_start 95 = .ok (.ireturn, 1) := by decide +kernel
theorem dX12_paidBy_0 : decode cX12_paidBy 0 = .ok (.aload_n 0, 1) := by decide +kernel
theorem dX12_paidBy_1 : decode cX12_paidBy 1 = .ok (.aload_n 0, 1) := by decide +kernel
theorem dX12_paidBy_2 : decode cX12_paidBy 2 = .ok (.getfield 56, 3) := by decide +kernel
theorem dX12_paidBy_5 : decode cX12_paidBy 5 = .ok (.aload_n 0, 1) := by decide +kernel
theorem dX12_paidBy_6 : decode cX12_paidBy 6 = .ok (.getfield 212, 3) := by decide +kernel
theorem dX12_paidBy_9 : decode cX12_paidBy 9 = .ok (.iaload, 1) := by decide +kernel
theorem dX12_paidBy_10 : decode cX12_paidBy 10 = .ok (.invokevirtual 322, 3) := by decide +kernel
theorem dX12_paidBy_13 : decode cX12_paidBy 13 = .ok (.aload_n 0, 1) := by decide +kernel
theorem dX12_paidBy_14 : decode cX12_paidBy 14 = .ok (.getfield 104, 3) := by decide +kernel
theorem dX12_paidBy_17 : decode cX12_paidBy 17 = .ok (.bipush 20, 2) := by decide +kernel
theorem dX12_paidBy_19 : decode cX12_paidBy 19 = .ok (.iload_n 1, 1) := by decide +kernel
theorem dX12_paidBy_20 : decode cX12_paidBy 20 = .ok (.iadd, 1) := by decide +kernel
theorem dX12_paidBy_21 : decode cX12_paidBy 21 = .ok (.iaload, 1) := by decide +kernel
theorem dX12_paidBy_22 : decode cX12_paidBy 22 = .ok (.ireturn, 1) := by decide +kernel
theorem dX12_wealth_0 : decode cX12_wealth 0 = .ok (.aload_n 0, 1) := by decide +kernel
theorem dX12_wealth_1 : decode cX12_wealth 1 = .ok (.iload_n 1, 1) := by decide +kernel
theorem dX12_wealth_2 : decode cX12_wealth 2 = .ok (.invokevirtual 325, 3) := by decide +kernel
theorem dX12_wealth_5 : decode cX12_wealth 5 = .ok (.ifCond .eq 11, 3) := by decide +kernel
theorem dX12_wealth_8 : decode cX12_wealth 8 = .ok (.aload_n 0, 1) := by decide +kernel
theorem dX12_wealth_9 : decode cX12_wealth 9 = .ok (.iload_n 2, 1) := by decide +kernel
theorem dX12_wealth_10 : decode cX12_wealth 10 = .ok (.invokevirtual 325, 3) := by decide +kernel
theorem dX12_wealth_13 : decode cX12_wealth 13 = .ok (.ifCond .ne 7, 3) := by decide +kernel
theorem dX12_wealth_16 : decode cX12_wealth 16 = .ok (.ldc_w 354, 3) := by decide +kernel
theorem dX12_wealth_19 : decode cX12_wealth 19 = .ok (.ireturn, 1) := by decide +kernel
theorem dX12_wealth_20 : decode cX12_wealth 20 = .ok (.aload_n 0, 1) := by decide +kernel
theorem dX12_wealth_21 : decode cX12_wealth 21 = .ok (.invokevirtual 328, 3) := by decide +kernel
theorem dX12_wealth_24 : decode cX12_wealth 24 = .ok (.iload_n 3, 1) := by decide +kernel
theorem dX12_wealth_25 : decode cX12_wealth 25 = .ok (.iconst 0, 1) := by decide +kernel
theorem dX12_wealth_26 : decode cX12_wealth 26 = .ok (.aload_n 0, 1) := by decide +kernel
theorem dX12_wealth_27 : decode cX12_wealth 27 = .ok (.iload_n 1, 1) := by decide +kernel
theorem dX12_wealth_28 : decode cX12_wealth 28 = .ok (.invokevirtual 280, 3) := by decide +kernel
theorem dX12_wealth_31 : decode cX12_wealth 31 = .ok (.invokestatic 276, 3) := by decide +kernel
theorem dX12_wealth_34 : decode cX12_wealth 34 = .ok (.ifCond .ne 7, 3) := by decide +kernel
theorem dX12_wealth_37 : decode cX12_wealth 37 = .ok (.ldc_w 354, 3) := by decide +kernel
theorem dX12_wealth_40 : decode cX12_wealth 40 = .ok (.ireturn, 1) := by decide +kernel
theorem dX12_wealth_41 : decode cX12_wealth 41 = .ok (.aload_n 0, 1) := by decide +kernel
theorem dX12_wealth_42 : decode cX12_wealth 42 = .ok (.iload_n 2, 1) := by decide +kernel
theorem dX12_wealth_43 : decode cX12_wealth 43 = .ok (.invokevirtual 355, 3) := by decide +kernel
theorem dX12_wealth_46 : decode cX12_wealth 46 = .ok (.istore 4, 2) := by decide +kernel
theorem dX12_wealth_48 : decode cX12_wealth 48 = .ok (.aload_n 0, 1) := by decide +kernel
theorem dX12_wealth_49 : decode cX12_wealth 49 = .ok (.invokevirtual 328, 3) := by decide +kernel
theorem dX12_wealth_52 : decode cX12_wealth 52 = .ok (.aload_n 0, 1) := by decide +kernel
theorem dX12_wealth_53 : decode cX12_wealth 53 = .ok (.getfield 104, 3) := by decide +kernel
theorem dX12_wealth_56 : decode cX12_wealth 56 = .ok (.iload_n 1, 1) := by decide +kernel
theorem dX12_wealth_57 : decode cX12_wealth 57 = .ok (.dup2, 1) := by decide +kernel
theorem dX12_wealth_58 : decode cX12_wealth 58 = .ok (.iaload, 1) := by decide +kernel
theorem dX12_wealth_59 : decode cX12_wealth 59 = .ok (.iload_n 3, 1) := by decide +kernel
theorem dX12_wealth_60 : decode cX12_wealth 60 = .ok (.isub, 1) := by decide +kernel
theorem dX12_wealth_61 : decode cX12_wealth 61 = .ok (.iastore, 1) := by decide +kernel
theorem dX12_wealth_62 : decode cX12_wealth 62 = .ok (.iload 4, 2) := by decide +kernel
theorem dX12_wealth_64 : decode cX12_wealth 64 = .ok (.aload_n 0, 1) := by decide +kernel
theorem dX12_wealth_65 : decode cX12_wealth 65 = .ok (.iload_n 2, 1) := by decide +kernel
theorem dX12_wealth_66 : decode cX12_wealth 66 = .ok (.invokevirtual 355, 3) := by decide +kernel
theorem dX12_wealth_69 : decode cX12_wealth 69 = .ok (.isub, 1) := by decide +kernel
theorem dX12_wealth_70 : decode cX12_wealth 70 = .ok (.ireturn, 1) := by decide +kernel
theorem dX12_frees_0 : decode cX12_frees 0 = .ok (.aload_n 0, 1) := by decide +kernel
theorem dX12_frees_1 : decode cX12_frees 1 = .ok (.invokevirtual 328, 3) := by decide +kernel
theorem dX12_frees_4 : decode cX12_frees 4 = .ok (.aload_n 0, 1) := by decide +kernel
theorem dX12_frees_5 : decode cX12_frees 5 = .ok (.bipush (-2), 2) := by decide +kernel
theorem dX12_frees_7 : decode cX12_frees 7 = .ok (.putfield 358, 3) := by decide +kernel
theorem dX12_frees_10 : decode cX12_frees 10 = .ok (.aload_n 0, 1) := by decide +kernel
theorem dX12_frees_11 : decode cX12_frees 11 = .ok (.iload_n 1, 1) := by decide +kernel
theorem dX12_frees_12 : decode cX12_frees 12 = .ok (.invokevirtual 303, 3) := by decide +kernel
theorem dX12_frees_15 : decode cX12_frees 15 = .ok (.ifCond .ne 5, 3) := by decide +kernel
theorem dX12_frees_18 : decode cX12_frees 18 = .ok (.iconst 0, 1) := by decide +kernel
theorem dX12_frees_19 : decode cX12_frees 19 = .ok (.ireturn, 1) := by decide +kernel
theorem dX12_frees_20 : decode cX12_frees 20 = .ok (.aload_n 0, 1) := by decide +kernel
theorem dX12_frees_21 : decode cX12_frees 21 = .ok (.iload_n 1, 1) := by decide +kernel
theorem dX12_frees_22 : decode cX12_frees 22 = .ok (.invokevirtual 280, 3) := by decide +kernel
theorem dX12_frees_25 : decode cX12_frees 25 = .ok (.sipush 2000, 3) := by decide +kernel
theorem dX12_frees_28 : decode cX12_frees 28 = .ok (.if_icmp .ge 11, 3) := by decide +kernel
theorem dX12_frees_31 : decode cX12_frees 31 = .ok (.aload_n 0, 1) := by decide +kernel
theorem dX12_frees_32 : decode cX12_frees 32 = .ok (.iload_n 1, 1) := by decide +kernel
theorem dX12_frees_33 : decode cX12_frees 33 = .ok (.invokevirtual 280, 3) := by decide +kernel
theorem dX12_frees_36 : decode cX12_frees 36 = .ok (.goto 6, 3) := by decide +kernel
theorem dX12_frees_39 : decode cX12_frees 39 = .ok (.sipush 2000, 3) := by decide +kernel
theorem dX12_frees_42 : decode cX12_frees 42 = .ok (.istore_n 2, 1) := by decide +kernel
theorem dX12_frees_43 : decode cX12_frees 43 = .ok (.iconst 1, 1) := by decide +kernel
theorem dX12_frees_44 : decode cX12_frees 44 = .ok (.istore_n 3, 1) := by decide +kernel
theorem dX12_frees_45 : decode cX12_frees 45 = .ok (.iload_n 3, 1) := by decide +kernel
theorem dX12_frees_46 : decode cX12_frees 46 = .ok (.iload_n 2, 1) := by decide +kernel
theorem dX12_frees_47 : decode cX12_frees 47 = .ok (.if_icmp .gt 112, 3) := by decide +kernel
theorem dX12_frees_50 : decode cX12_frees 50 = .ok (.iconst 0, 1) := by decide +kernel
theorem dX12_frees_51 : decode cX12_frees 51 = .ok (.istore 4, 2) := by decide +kernel
theorem dX12_frees_53 : decode cX12_frees 53 = .ok (.iload 4, 2) := by decide +kernel
theorem dX12_frees_55 : decode cX12_frees 55 = .ok (.aload_n 0, 1) := by decide +kernel
theorem dX12_frees_56 : decode cX12_frees 56 = .ok (.getfield 104, 3) := by decide +kernel
theorem dX12_frees_59 : decode cX12_frees 59 = .ok (.bipush 40, 2) := by decide +kernel
theorem dX12_frees_61 : decode cX12_frees 61 = .ok (.iaload, 1) := by decide +kernel
theorem dX12_frees_62 : decode cX12_frees 62 = .ok (.if_icmp .ge 91, 3) := by decide +kernel
theorem dX12_frees_65 : decode cX12_frees 65 = .ok (.iload 4, 2) := by decide +kernel
theorem dX12_frees_67 : decode cX12_frees 67 = .ok (.iload_n 1, 1) := by decide +kernel
theorem dX12_frees_68 : decode cX12_frees 68 = .ok (.if_icmp .ne 6, 3) := by decide +kernel
theorem dX12_frees_71 : decode cX12_frees 71 = .ok (.goto 76, 3) := by decide +kernel
theorem dX12_frees_74 : decode cX12_frees 74 = .ok (.aload_n 0, 1) := by decide +kernel
theorem dX12_frees_75 : decode cX12_frees 75 = .ok (.getfield 104, 3) := by decide +kernel
theorem dX12_frees_78 : decode cX12_frees 78 = .ok (.iload_n 1, 1) := by decide +kernel
theorem dX12_frees_79 : decode cX12_frees 79 = .ok (.dup2, 1) := by decide +kernel
theorem dX12_frees_80 : decode cX12_frees 80 = .ok (.iaload, 1) := by decide +kernel
theorem dX12_frees_81 : decode cX12_frees 81 = .ok (.iload_n 3, 1) := by decide +kernel
theorem dX12_frees_82 : decode cX12_frees 82 = .ok (.isub, 1) := by decide +kernel
theorem dX12_frees_83 : decode cX12_frees 83 = .ok (.iastore, 1) := by decide +kernel
theorem dX12_frees_84 : decode cX12_frees 84 = .ok (.aload_n 0, 1) := by decide +kernel
theorem dX12_frees_85 : decode cX12_frees 85 = .ok (.getfield 104, 3) := by decide +kernel
theorem dX12_frees_88 : decode cX12_frees 88 = .ok (.iload 4, 2) := by decide +kernel
theorem dX12_frees_90 : decode cX12_frees 90 = .ok (.dup2, 1) := by decide +kernel
theorem dX12_frees_91 : decode cX12_frees 91 = .ok (.iaload, 1) := by decide +kernel
theorem dX12_frees_92 : decode cX12_frees 92 = .ok (.iload_n 3, 1) := by decide +kernel
theorem dX12_frees_93 : decode cX12_frees 93 = .ok (.iadd, 1) := by decide +kernel
theorem dX12_frees_94 : decode cX12_frees 94 = .ok (.iastore, 1) := by decide +kernel
theorem dX12_frees_95 : decode cX12_frees 95 = .ok (.aload_n 0, 1) := by decide +kernel
theorem dX12_frees_96 : decode cX12_frees 96 = .ok (.iload_n 1, 1) := by decide +kernel
theorem dX12_frees_97 : decode cX12_frees 97 = .ok (.invokevirtual 303, 3) := by decide +kernel
theorem dX12_frees_100 : decode cX12_frees 100 = .ok (.ifCond .ne 7, 3) := by decide +kernel
theorem dX12_frees_103 : decode cX12_frees 103 = .ok (.iconst 1, 1) := by decide +kernel
theorem dX12_frees_104 : decode cX12_frees 104 = .ok (.goto 4, 3) := by decide +kernel
theorem dX12_frees_107 : decode cX12_frees 107 = .ok (.iconst 0, 1) := by decide +kernel
theorem dX12_frees_108 : decode cX12_frees 108 = .ok (.istore 5, 2) := by decide +kernel
theorem dX12_frees_110 : decode cX12_frees 110 = .ok (.aload_n 0, 1) := by decide +kernel
theorem dX12_frees_111 : decode cX12_frees 111 = .ok (.getfield 104, 3) := by decide +kernel
theorem dX12_frees_114 : decode cX12_frees 114 = .ok (.iload_n 1, 1) := by decide +kernel
theorem dX12_frees_115 : decode cX12_frees 115 = .ok (.dup2, 1) := by decide +kernel
theorem dX12_frees_116 : decode cX12_frees 116 = .ok (.iaload, 1) := by decide +kernel
theorem dX12_frees_117 : decode cX12_frees 117 = .ok (.iload_n 3, 1) := by decide +kernel
theorem dX12_frees_118 : decode cX12_frees 118 = .ok (.iadd, 1) := by decide +kernel
theorem dX12_frees_119 : decode cX12_frees 119 = .ok (.iastore, 1) := by decide +kernel
theorem dX12_frees_120 : decode cX12_frees 120 = .ok (.aload_n 0, 1) := by decide +kernel
theorem dX12_frees_121 : decode cX12_frees 121 = .ok (.getfield 104, 3) := by decide +kernel
theorem dX12_frees_124 : decode cX12_frees 124 = .ok (.iload 4, 2) := by decide +kernel
theorem dX12_frees_126 : decode cX12_frees 126 = .ok (.dup2, 1) := by decide +kernel
theorem dX12_frees_127 : decode cX12_frees 127 = .ok (.iaload, 1) := by decide +kernel
theorem dX12_frees_128 : decode cX12_frees 128 = .ok (.iload_n 3, 1) := by decide +kernel
theorem dX12_frees_129 : decode cX12_frees 129 = .ok (.isub, 1) := by decide +kernel
theorem dX12_frees_130 : decode cX12_frees 130 = .ok (.iastore, 1) := by decide +kernel
theorem dX12_frees_131 : decode cX12_frees 131 = .ok (.iload 5, 2) := by decide +kernel
theorem dX12_frees_133 : decode cX12_frees 133 = .ok (.ifCond .ne 6, 3) := by decide +kernel
theorem dX12_frees_136 : decode cX12_frees 136 = .ok (.goto 11, 3) := by decide +kernel
theorem dX12_frees_139 : decode cX12_frees 139 = .ok (.aload_n 0, 1) := by decide +kernel
theorem dX12_frees_140 : decode cX12_frees 140 = .ok (.iload 4, 2) := by decide +kernel
theorem dX12_frees_142 : decode cX12_frees 142 = .ok (.putfield 358, 3) := by decide +kernel
theorem dX12_frees_145 : decode cX12_frees 145 = .ok (.iload_n 3, 1) := by decide +kernel
theorem dX12_frees_146 : decode cX12_frees 146 = .ok (.ireturn, 1) := by decide +kernel
theorem dX12_frees_147 : decode cX12_frees 147 = .ok (.iinc 4 1, 3) := by decide +kernel
theorem dX12_frees_150 : decode cX12_frees 150 = .ok (.goto (-97), 3) := by decide +kernel
theorem dX12_frees_153 : decode cX12_frees 153 = .ok (.iinc 3 1, 3) := by decide +kernel
theorem dX12_frees_156 : decode cX12_frees 156 = .ok (.goto (-111), 3) := by decide +kernel
theorem dX12_frees_159 : decode cX12_frees 159 = .ok (.bipush (-2), 2) := by decide +kernel
theorem dX12_frees_161 : decode cX12_frees 161 = .ok (.ireturn, 1) := by decide +kernel
theorem dX12_free_0 : decode cX12_free 0 = .ok (.aload_n 0, 1) := by decide +kernel
theorem dX12_free_1 : decode cX12_free 1 = .ok (.iload_n 1, 1) := by decide +kernel
theorem dX12_free_2 : decode cX12_free 2 = .ok (.invokevirtual 325, 3) := by decide +kernel
theorem dX12_free_5 : decode cX12_free 5 = .ok (.ifCond .eq 12, 3) := by decide +kernel
theorem dX12_free_8 : decode cX12_free 8 = .ok (.iload_n 2, 1) := by decide +kernel
theorem dX12_free_9 : decode cX12_free 9 = .ok (.iconst 0, 1) := by decide +kernel
theorem dX12_free_10 : decode cX12_free 10 = .ok (.iconst 1, 1) := by decide +kernel
theorem dX12_free_11 : decode cX12_free 11 = .ok (.invokestatic 276, 3) := by decide +kernel
theorem dX12_free_14 : decode cX12_free 14 = .ok (.ifCond .ne 5, 3) := by decide +kernel
theorem dX12_free_17 : decode cX12_free 17 = .ok (.iconst (-1), 1) := by decide +kernel
theorem dX12_free_18 : decode cX12_free 18 = .ok (.ireturn, 1) := by decide +kernel
theorem dX12_free_19 : decode cX12_free 19 = .ok (.aload_n 0, 1) := by decide +kernel
theorem dX12_free_20 : decode cX12_free 20 = .ok (.iload_n 1, 1) := by decide +kernel
theorem dX12_free_21 : decode cX12_free 21 = .ok (.invokevirtual 361, 3) := by decide +kernel
theorem dX12_free_24 : decode cX12_free 24 = .ok (.istore_n 3, 1) := by decide +kernel
theorem dX12_free_25 : decode cX12_free 25 = .ok (.iload_n 2, 1) := by decide +kernel
theorem dX12_free_26 : decode cX12_free 26 = .ok (.ifCond .eq 7, 3) := by decide +kernel
theorem dX12_free_29 : decode cX12_free 29 = .ok (.iload_n 3, 1) := by decide +kernel
theorem dX12_free_30 : decode cX12_free 30 = .ok (.ifCond .ge 7, 3) := by decide +kernel
theorem dX12_free_33 : decode cX12_free 33 = .ok (.iload_n 3, 1) := by decide +kernel
theorem dX12_free_34 : decode cX12_free 34 = .ok (.goto 7, 3) := by decide +kernel
theorem dX12_free_37 : decode cX12_free 37 = .ok (.aload_n 0, 1) := by decide +kernel
theorem dX12_free_38 : decode cX12_free 38 = .ok (.getfield 358, 3) := by decide +kernel
theorem dX12_free_41 : decode cX12_free 41 = .ok (.ireturn, 1) := by decide +kernel
theorem dX12_best_0 : decode cX12_best 0 = .ok (.aload_n 0, 1) := by decide +kernel
theorem dX12_best_1 : decode cX12_best 1 = .ok (.iload_n 1, 1) := by decide +kernel
theorem dX12_best_2 : decode cX12_best 2 = .ok (.invokevirtual 325, 3) := by decide +kernel
theorem dX12_best_5 : decode cX12_best 5 = .ok (.ifCond .eq 34, 3) := by decide +kernel
theorem dX12_best_8 : decode cX12_best 8 = .ok (.iload_n 2, 1) := by decide +kernel
theorem dX12_best_9 : decode cX12_best 9 = .ok (.iconst 1, 1) := by decide +kernel
theorem dX12_best_10 : decode cX12_best 10 = .ok (.sipush 999, 3) := by decide +kernel
theorem dX12_best_13 : decode cX12_best 13 = .ok (.invokestatic 276, 3) := by decide +kernel
theorem dX12_best_16 : decode cX12_best 16 = .ok (.ifCond .eq 23, 3) := by decide +kernel
theorem dX12_best_19 : decode cX12_best 19 = .ok (.iload_n 3, 1) := by decide +kernel
theorem dX12_best_20 : decode cX12_best 20 = .ok (.iconst 1, 1) := by decide +kernel
theorem dX12_best_21 : decode cX12_best 21 = .ok (.bipush 30, 2) := by decide +kernel
theorem dX12_best_23 : decode cX12_best 23 = .ok (.invokestatic 276, 3) := by decide +kernel
theorem dX12_best_26 : decode cX12_best 26 = .ok (.ifCond .eq 13, 3) := by decide +kernel
theorem dX12_best_29 : decode cX12_best 29 = .ok (.iload 4, 2) := by decide +kernel
theorem dX12_best_31 : decode cX12_best 31 = .ok (.iconst 0, 1) := by decide +kernel
theorem dX12_best_32 : decode cX12_best 32 = .ok (.iconst 2, 1) := by decide +kernel
theorem dX12_best_33 : decode cX12_best 33 = .ok (.invokestatic 276, 3) := by decide +kernel
theorem dX12_best_36 : decode cX12_best 36 = .ok (.ifCond .ne 5, 3) := by decide +kernel
theorem dX12_best_39 : decode cX12_best 39 = .ok (.iconst (-1), 1) := by decide +kernel
theorem dX12_best_40 : decode cX12_best 40 = .ok (.ireturn, 1) := by decide +kernel
theorem dX12_best_41 : decode cX12_best 41 = .ok (.aload_n 0, 1) := by decide +kernel
theorem dX12_best_42 : decode cX12_best 42 = .ok (.invokevirtual 328, 3) := by decide +kernel
theorem dX12_best_45 : decode cX12_best 45 = .ok (.aload_n 0, 1) := by decide +kernel
theorem dX12_best_46 : decode cX12_best 46 = .ok (.iload_n 1, 1) := by decide +kernel
theorem dX12_best_47 : decode cX12_best 47 = .ok (.invokevirtual 280, 3) := by decide +kernel
theorem dX12_best_50 : decode cX12_best 50 = .ok (.istore 5, 2) := by decide +kernel
theorem dX12_best_52 : decode cX12_best 52 = .ok (.aload_n 0, 1) := by decide +kernel
theorem dX12_best_53 : decode cX12_best 53 = .ok (.iload_n 3, 1) := by decide +kernel
theorem dX12_best_54 : decode cX12_best 54 = .ok (.invokevirtual 331, 3) := by decide +kernel
theorem dX12_best_57 : decode cX12_best 57 = .ok (.iconst 0, 1) := by decide +kernel
theorem dX12_best_58 : decode cX12_best 58 = .ok (.istore 6, 2) := by decide +kernel
theorem dX12_best_60 : decode cX12_best 60 = .ok (.bipush (-2), 2) := by decide +kernel
theorem dX12_best_62 : decode cX12_best 62 = .ok (.istore 7, 2) := by decide +kernel
theorem dX12_best_64 : decode cX12_best 64 = .ok (.aload_n 0, 1) := by decide +kernel
theorem dX12_best_65 : decode cX12_best 65 = .ok (.getfield 104, 3) := by decide +kernel
theorem dX12_best_68 : decode cX12_best 68 = .ok (.iload_n 1, 1) := by decide +kernel
theorem dX12_best_69 : decode cX12_best 69 = .ok (.iaload, 1) := by decide +kernel
theorem dX12_best_70 : decode cX12_best 70 = .ok (.istore 8, 2) := by decide +kernel
theorem dX12_best_72 : decode cX12_best 72 = .ok (.iconst 1, 1) := by decide +kernel
theorem dX12_best_73 : decode cX12_best 73 = .ok (.istore 9, 2) := by decide +kernel
theorem dX12_best_75 : decode cX12_best 75 = .ok (.iload 9, 2) := by decide +kernel
theorem dX12_best_77 : decode cX12_best 77 = .ok (.bipush 20, 2) := by decide +kernel
theorem dX12_best_79 : decode cX12_best 79 = .ok (.if_icmp .gt 116, 3) := by decide +kernel
theorem dX12_best_82 : decode cX12_best 82 = .ok (.iload 9, 2) := by decide +kernel
theorem dX12_best_84 : decode cX12_best 84 = .ok (.iload_n 2, 1) := by decide +kernel
theorem dX12_best_85 : decode cX12_best 85 = .ok (.imul, 1) := by decide +kernel
theorem dX12_best_86 : decode cX12_best 86 = .ok (.iload 5, 2) := by decide +kernel
theorem dX12_best_88 : decode cX12_best 88 = .ok (.if_icmp .gt 107, 3) := by decide +kernel
theorem dX12_best_91 : decode cX12_best 91 = .ok (.iconst 0, 1) := by decide +kernel
theorem dX12_best_92 : decode cX12_best 92 = .ok (.istore 10, 2) := by decide +kernel
theorem dX12_best_94 : decode cX12_best 94 = .ok (.iload 10, 2) := by decide +kernel
theorem dX12_best_96 : decode cX12_best 96 = .ok (.aload_n 0, 1) := by decide +kernel
theorem dX12_best_97 : decode cX12_best 97 = .ok (.getfield 101, 3) := by decide +kernel
theorem dX12_best_100 : decode cX12_best 100 = .ok (.bipush 40, 2) := by decide +kernel
theorem dX12_best_102 : decode cX12_best 102 = .ok (.iaload, 1) := by decide +kernel
theorem dX12_best_103 : decode cX12_best 103 = .ok (.if_icmp .ge 86, 3) := by decide +kernel
theorem dX12_best_106 : decode cX12_best 106 = .ok (.iload 10, 2) := by decide +kernel
theorem dX12_best_108 : decode cX12_best 108 = .ok (.iload_n 1, 1) := by decide +kernel
theorem dX12_best_109 : decode cX12_best 109 = .ok (.if_icmp .ne 6, 3) := by decide +kernel
theorem dX12_best_112 : decode cX12_best 112 = .ok (.goto 71, 3) := by decide +kernel
theorem dX12_best_115 : decode cX12_best 115 = .ok (.aload_n 0, 1) := by decide +kernel
theorem dX12_best_116 : decode cX12_best 116 = .ok (.invokevirtual 328, 3) := by decide +kernel
theorem dX12_best_119 : decode cX12_best 119 = .ok (.aload_n 0, 1) := by decide +kernel
theorem dX12_best_120 : decode cX12_best 120 = .ok (.getfield 104, 3) := by decide +kernel
theorem dX12_best_123 : decode cX12_best 123 = .ok (.iload_n 1, 1) := by decide +kernel
theorem dX12_best_124 : decode cX12_best 124 = .ok (.dup2, 1) := by decide +kernel
theorem dX12_best_125 : decode cX12_best 125 = .ok (.iaload, 1) := by decide +kernel
theorem dX12_best_126 : decode cX12_best 126 = .ok (.iload 9, 2) := by decide +kernel
theorem dX12_best_128 : decode cX12_best 128 = .ok (.iload_n 2, 1) := by decide +kernel
theorem dX12_best_129 : decode cX12_best 129 = .ok (.imul, 1) := by decide +kernel
theorem dX12_best_130 : decode cX12_best 130 = .ok (.isub, 1) := by decide +kernel
theorem dX12_best_131 : decode cX12_best 131 = .ok (.iastore, 1) := by decide +kernel
theorem dX12_best_132 : decode cX12_best 132 = .ok (.aload_n 0, 1) := by decide +kernel
theorem dX12_best_133 : decode cX12_best 133 = .ok (.getfield 104, 3) := by decide +kernel
theorem dX12_best_136 : decode cX12_best 136 = .ok (.iload 10, 2) := by decide +kernel
theorem dX12_best_138 : decode cX12_best 138 = .ok (.dup2, 1) := by decide +kernel
theorem dX12_best_139 : decode cX12_best 139 = .ok (.iaload, 1) := by decide +kernel
theorem dX12_best_140 : decode cX12_best 140 = .ok (.iload 9, 2) := by decide +kernel
theorem dX12_best_142 : decode cX12_best 142 = .ok (.iload_n 2, 1) := by decide +kernel
theorem dX12_best_143 : decode cX12_best 143 = .ok (.imul, 1) := by decide +kernel
theorem dX12_best_144 : decode cX12_best 144 = .ok (.iadd, 1) := by decide +kernel
theorem dX12_best_145 : decode cX12_best 145 = .ok (.iastore, 1) := by decide +kernel
theorem dX12_best_146 : decode cX12_best 146 = .ok (.aload_n 0, 1) := by decide +kernel
theorem dX12_best_147 : decode cX12_best 147 = .ok (.iload_n 3, 1) := by decide +kernel
theorem dX12_best_148 : decode cX12_best 148 = .ok (.invokevirtual 331, 3) := by decide +kernel
theorem dX12_best_151 : decode cX12_best 151 = .ok (.aload_n 0, 1) := by decide +kernel
theorem dX12_best_152 : decode cX12_best 152 = .ok (.getfield 104, 3) := by decide +kernel
theorem dX12_best_155 : decode cX12_best 155 = .ok (.iload_n 1, 1) := by decide +kernel
theorem dX12_best_156 : decode cX12_best 156 = .ok (.iaload, 1) := by decide +kernel
theorem dX12_best_157 : decode cX12_best 157 = .ok (.iload 8, 2) := by decide +kernel
theorem dX12_best_159 : decode cX12_best 159 = .ok (.if_icmp .gt 6, 3) := by decide +kernel
theorem dX12_best_162 : decode cX12_best 162 = .ok (.goto 21, 3) := by decide +kernel
theorem dX12_best_165 : decode cX12_best 165 = .ok (.iload 9, 2) := by decide +kernel
theorem dX12_best_167 : decode cX12_best 167 = .ok (.iload_n 2, 1) := by decide +kernel
theorem dX12_best_168 : decode cX12_best 168 = .ok (.imul, 1) := by decide +kernel
theorem dX12_best_169 : decode cX12_best 169 = .ok (.istore 6, 2) := by decide +kernel
theorem dX12_best_171 : decode cX12_best 171 = .ok (.iload 10, 2) := by decide +kernel
theorem dX12_best_173 : decode cX12_best 173 = .ok (.istore 7, 2) := by decide +kernel
theorem dX12_best_175 : decode cX12_best 175 = .ok (.aload_n 0, 1) := by decide +kernel
theorem dX12_best_176 : decode cX12_best 176 = .ok (.getfield 104, 3) := by decide +kernel
theorem dX12_best_179 : decode cX12_best 179 = .ok (.iload_n 1, 1) := by decide +kernel
theorem dX12_best_180 : decode cX12_best 180 = .ok (.iaload, 1) := by decide +kernel
theorem dX12_best_181 : decode cX12_best 181 = .ok (.istore 8, 2) := by decide +kernel
theorem dX12_best_183 : decode cX12_best 183 = .ok (.iinc 10 1, 3) := by decide +kernel
theorem dX12_best_186 : decode cX12_best 186 = .ok (.goto (-92), 3) := by decide +kernel
theorem dX12_best_189 : decode cX12_best 189 = .ok (.iinc 9 1, 3) := by decide +kernel
theorem dX12_best_192 : decode cX12_best 192 = .ok (.goto (-117), 3) := by decide +kernel
theorem dX12_best_195 : decode cX12_best 195 = .ok (.iload 4, 2) := by decide +kernel
theorem dX12_best_197 : decode cX12_best 197 = .ok (.ifCond .ne 8, 3) := by decide +kernel
theorem dX12_best_200 : decode cX12_best 200 = .ok (.iload 6, 2) := by decide +kernel
theorem dX12_best_202 : decode cX12_best 202 = .ok (.goto 16, 3) := by decide +kernel
theorem dX12_best_205 : decode cX12_best 205 = .ok (.iload 4, 2) := by decide +kernel
theorem dX12_best_207 : decode cX12_best 207 = .ok (.iconst 1, 1) := by decide +kernel
theorem dX12_best_208 : decode cX12_best 208 = .ok (.if_icmp .ne 8, 3) := by decide +kernel
theorem dX12_best_211 : decode cX12_best 211 = .ok (.iload 7, 2) := by decide +kernel
theorem dX12_best_213 : decode cX12_best 213 = .ok (.goto 5, 3) := by decide +kernel
theorem dX12_best_216 : decode cX12_best 216 = .ok (.iload 8, 2) := by decide +kernel
theorem dX12_best_218 : decode cX12_best 218 = .ok (.ireturn, 1) := by decide +kernel
theorem dX12_loan_0 : decode cX12_loan 0 = .ok (.aload_n 0, 1) := by decide +kernel
theorem dX12_loan_1 : decode cX12_loan 1 = .ok (.iload_n 1, 1) := by decide +kernel
theorem dX12_loan_2 : decode cX12_loan 2 = .ok (.invokevirtual 325, 3) := by decide +kernel
theorem dX12_loan_5 : decode cX12_loan 5 = .ok (.ifCond .eq 16, 3) := by decide +kernel
theorem dX12_loan_8 : decode cX12_loan 8 = .ok (.aload_n 0, 1) := by decide +kernel
theorem dX12_loan_9 : decode cX12_loan 9 = .ok (.iload_n 2, 1) := by decide +kernel
theorem dX12_loan_10 : decode cX12_loan 10 = .ok (.invokevirtual 325, 3) := by decide +kernel
theorem dX12_loan_13 : decode cX12_loan 13 = .ok (.ifCond .eq 8, 3) := by decide +kernel
theorem dX12_loan_16 : decode cX12_loan 16 = .ok (.iload_n 1, 1) := by decide +kernel
theorem dX12_loan_17 : decode cX12_loan 17 = .ok (.iload_n 2, 1) := by decide +kernel
theorem dX12_loan_18 : decode cX12_loan 18 = .ok (.if_icmp .ne 7, 3) := by decide +kernel
theorem dX12_loan_21 : decode cX12_loan 21 = .ok (.ldc_w 354, 3) := by decide +kernel
theorem dX12_loan_24 : decode cX12_loan 24 = .ok (.ireturn, 1) := by decide +kernel
theorem dX12_loan_25 : decode cX12_loan 25 = .ok (.aload_n 0, 1) := by decide +kernel
theorem dX12_loan_26 : decode cX12_loan 26 = .ok (.invokevirtual 328, 3) := by decide +kernel
theorem dX12_loan_29 : decode cX12_loan 29 = .ok (.iload_n 3, 1) := by decide +kernel
theorem dX12_loan_30 : decode cX12_loan 30 = .ok (.iconst 1, 1) := by decide +kernel
theorem dX12_loan_31 : decode cX12_loan 31 = .ok (.aload_n 0, 1) := by decide +kernel
theorem dX12_loan_32 : decode cX12_loan 32 = .ok (.iload_n 1, 1) := by decide +kernel
theorem dX12_loan_33 : decode cX12_loan 33 = .ok (.invokevirtual 280, 3) := by decide +kernel
theorem dX12_loan_36 : decode cX12_loan 36 = .ok (.invokestatic 276, 3) := by decide +kernel
theorem dX12_loan_39 : decode cX12_loan 39 = .ok (.ifCond .ne 7, 3) := by decide +kernel
theorem dX12_loan_42 : decode cX12_loan 42 = .ok (.ldc_w 354, 3) := by decide +kernel
theorem dX12_loan_45 : decode cX12_loan 45 = .ok (.ireturn, 1) := by decide +kernel
theorem dX12_loan_46 : decode cX12_loan 46 = .ok (.aload_n 0, 1) := by decide +kernel
theorem dX12_loan_47 : decode cX12_loan 47 = .ok (.iconst 1, 1) := by decide +kernel
theorem dX12_loan_48 : decode cX12_loan 48 = .ok (.invokevirtual 331, 3) := by decide +kernel
theorem dX12_loan_51 : decode cX12_loan 51 = .ok (.aload_n 0, 1) := by decide +kernel
theorem dX12_loan_52 : decode cX12_loan 52 = .ok (.getfield 104, 3) := by decide +kernel
theorem dX12_loan_55 : decode cX12_loan 55 = .ok (.iload_n 1, 1) := by decide +kernel
theorem dX12_loan_56 : decode cX12_loan 56 = .ok (.iaload, 1) := by decide +kernel
theorem dX12_loan_57 : decode cX12_loan 57 = .ok (.istore 5, 2) := by decide +kernel
theorem dX12_loan_59 : decode cX12_loan 59 = .ok (.aload_n 0, 1) := by decide +kernel
theorem dX12_loan_60 : decode cX12_loan 60 = .ok (.getfield 104, 3) := by decide +kernel
theorem dX12_loan_63 : decode cX12_loan 63 = .ok (.iload_n 2, 1) := by decide +kernel
theorem dX12_loan_64 : decode cX12_loan 64 = .ok (.iaload, 1) := by decide +kernel
theorem dX12_loan_65 : decode cX12_loan 65 = .ok (.istore 6, 2) := by decide +kernel
theorem dX12_loan_67 : decode cX12_loan 67 = .ok (.aload_n 0, 1) := by decide +kernel
theorem dX12_loan_68 : decode cX12_loan 68 = .ok (.invokevirtual 328, 3) := by decide +kernel
theorem dX12_loan_71 : decode cX12_loan 71 = .ok (.aload_n 0, 1) := by decide +kernel
theorem dX12_loan_72 : decode cX12_loan 72 = .ok (.getfield 104, 3) := by decide +kernel
theorem dX12_loan_75 : decode cX12_loan 75 = .ok (.iload_n 1, 1) := by decide +kernel
theorem dX12_loan_76 : decode cX12_loan 76 = .ok (.dup2, 1) := by decide +kernel
theorem dX12_loan_77 : decode cX12_loan 77 = .ok (.iaload, 1) := by decide +kernel
theorem dX12_loan_78 : decode cX12_loan 78 = .ok (.iload_n 3, 1) := by decide +kernel
theorem dX12_loan_79 : decode cX12_loan 79 = .ok (.isub, 1) := by decide +kernel
theorem dX12_loan_80 : decode cX12_loan 80 = .ok (.iastore, 1) := by decide +kernel
theorem dX12_loan_81 : decode cX12_loan 81 = .ok (.aload_n 0, 1) := by decide +kernel
theorem dX12_loan_82 : decode cX12_loan 82 = .ok (.getfield 104, 3) := by decide +kernel
theorem dX12_loan_85 : decode cX12_loan 85 = .ok (.iload_n 2, 1) := by decide +kernel
theorem dX12_loan_86 : decode cX12_loan 86 = .ok (.dup2, 1) := by decide +kernel
theorem dX12_loan_87 : decode cX12_loan 87 = .ok (.iaload, 1) := by decide +kernel
theorem dX12_loan_88 : decode cX12_loan 88 = .ok (.iload_n 3, 1) := by decide +kernel
theorem dX12_loan_89 : decode cX12_loan 89 = .ok (.iadd, 1) := by decide +kernel
theorem dX12_loan_90 : decode cX12_loan 90 = .ok (.iastore, 1) := by decide +kernel
theorem dX12_loan_91 : decode cX12_loan 91 = .ok (.aload_n 0, 1) := by decide +kernel
theorem dX12_loan_92 : decode cX12_loan 92 = .ok (.iconst 1, 1) := by decide +kernel
theorem dX12_loan_93 : decode cX12_loan 93 = .ok (.invokevirtual 331, 3) := by decide +kernel
theorem dX12_loan_96 : decode cX12_loan 96 = .ok (.iload_n 3, 1) := by decide +kernel
theorem dX12_loan_97 : decode cX12_loan 97 = .ok (.aload_n 0, 1) := by decide +kernel
theorem dX12_loan_98 : decode cX12_loan 98 = .ok (.iload_n 2, 1) := by decide +kernel
theorem dX12_loan_99 : decode cX12_loan 99 = .ok (.invokevirtual 280, 3) := by decide +kernel
theorem dX12_loan_102 : decode cX12_loan 102 = .ok (.if_icmp .ge 7, 3) := by decide +kernel
theorem dX12_loan_105 : decode cX12_loan 105 = .ok (.iload_n 3, 1) := by decide +kernel
theorem dX12_loan_106 : decode cX12_loan 106 = .ok (.goto 8, 3) := by decide +kernel
theorem dX12_loan_109 : decode cX12_loan 109 = .ok (.aload_n 0, 1) := by decide +kernel
theorem dX12_loan_110 : decode cX12_loan 110 = .ok (.iload_n 2, 1) := by decide +kernel
theorem dX12_loan_111 : decode cX12_loan 111 = .ok (.invokevirtual 280, 3) := by decide +kernel
theorem dX12_loan_114 : decode cX12_loan 114 = .ok (.istore 7, 2) := by decide +kernel
theorem dX12_loan_116 : decode cX12_loan 116 = .ok (.iload 4, 2) := by decide +kernel
theorem dX12_loan_118 : decode cX12_loan 118 = .ok (.ifCond .eq 18, 3) := by decide +kernel
theorem dX12_loan_121 : decode cX12_loan 121 = .ok (.aload_n 0, 1) := by decide +kernel
theorem dX12_loan_122 : decode cX12_loan 122 = .ok (.getfield 104, 3) := by decide +kernel
theorem dX12_loan_125 : decode cX12_loan 125 = .ok (.iload_n 2, 1) := by decide +kernel
theorem dX12_loan_126 : decode cX12_loan 126 = .ok (.iaload, 1) := by decide +kernel
theorem dX12_loan_127 : decode cX12_loan 127 = .ok (.iload 7, 2) := by decide +kernel
theorem dX12_loan_129 : decode cX12_loan 129 = .ok (.isub, 1) := by decide +kernel
theorem dX12_loan_130 : decode cX12_loan 130 = .ok (.iload 6, 2) := by decide +kernel
theorem dX12_loan_132 : decode cX12_loan 132 = .ok (.isub, 1) := by decide +kernel
theorem dX12_loan_133 : decode cX12_loan 133 = .ok (.goto 15, 3) := by decide +kernel
theorem dX12_loan_136 : decode cX12_loan 136 = .ok (.iload 5, 2) := by decide +kernel
theorem dX12_loan_138 : decode cX12_loan 138 = .ok (.aload_n 0, 1) := by decide +kernel
theorem dX12_loan_139 : decode cX12_loan 139 = .ok (.getfield 104, 3) := by decide +kernel
theorem dX12_loan_142 : decode cX12_loan 142 = .ok (.iload_n 1, 1) := by decide +kernel
theorem dX12_loan_143 : decode cX12_loan 143 = .ok (.iaload, 1) := by decide +kernel
theorem dX12_loan_144 : decode cX12_loan 144 = .ok (.isub, 1) := by decide +kernel
theorem dX12_loan_145 : decode cX12_loan 145 = .ok (.iload 7, 2) := by decide +kernel
theorem dX12_loan_147 : decode cX12_loan 147 = .ok (.isub, 1) := by decide +kernel
theorem dX12_loan_148 : decode cX12_loan 148 = .ok (.ireturn, 1) := by decide +kernel
theorem dX12_site_0 : decode cX12_site 0 = .ok (.iload_n 1, 1) := by decide +kernel
theorem dX12_site_1 : decode cX12_site 1 = .ok (.iconst 0, 1) := by decide +kernel
theorem dX12_site_2 : decode cX12_site 2 = .ok (.sipush 9999, 3) := by decide +kernel
theorem dX12_site_5 : decode cX12_site 5 = .ok (.invokestatic 276, 3) := by decide +kernel
theorem dX12_site_8 : decode cX12_site 8 = .ok (.ifCond .ne 5, 3) := by decide +kernel
theorem dX12_site_11 : decode cX12_site 11 = .ok (.iconst (-1), 1) := by decide +kernel
theorem dX12_site_12 : decode cX12_site 12 = .ok (.ireturn, 1) := by decide +kernel
theorem dX12_site_13 : decode cX12_site 13 = .ok (.aload_n 0, 1) := by decide +kernel
theorem dX12_site_14 : decode cX12_site 14 = .ok (.getfield 101, 3) := by decide +kernel
theorem dX12_site_17 : decode cX12_site 17 = .ok (.bipush 40, 2) := by decide +kernel
theorem dX12_site_19 : decode cX12_site 19 = .ok (.iaload, 1) := by decide +kernel
theorem dX12_site_20 : decode cX12_site 20 = .ok (.bipush 10, 2) := by decide +kernel
theorem dX12_site_22 : decode cX12_site 22 = .ok (.if_icmp .ne 6, 3) := by decide +kernel
theorem dX12_site_25 : decode cX12_site 25 = .ok (.bipush (-2), 2) := by decide +kernel
theorem dX12_site_27 : decode cX12_site 27 = .ok (.ireturn, 1) := by decide +kernel
theorem dX12_site_28 : decode cX12_site 28 = .ok (.iconst (-1), 1) := by decide +kernel
theorem dX12_site_29 : decode cX12_site 29 = .ok (.istore_n 2, 1) := by decide +kernel
theorem dX12_site_30 : decode cX12_site 30 = .ok (.iconst 0, 1) := by decide +kernel
theorem dX12_site_31 : decode cX12_site 31 = .ok (.istore_n 3, 1) := by decide +kernel
theorem dX12_site_32 : decode cX12_site 32 = .ok (.iconst 0, 1) := by decide +kernel
theorem dX12_site_33 : decode cX12_site 33 = .ok (.istore 4, 2) := by decide +kernel
theorem dX12_site_35 : decode cX12_site 35 = .ok (.iload 4, 2) := by decide +kernel
theorem dX12_site_37 : decode cX12_site 37 = .ok (.aload_n 0, 1) := by decide +kernel
theorem dX12_site_38 : decode cX12_site 38 = .ok (.getfield 101, 3) := by decide +kernel
theorem dX12_site_41 : decode cX12_site 41 = .ok (.bipush 40, 2) := by decide +kernel
theorem dX12_site_43 : decode cX12_site 43 = .ok (.iaload, 1) := by decide +kernel
theorem dX12_site_44 : decode cX12_site 44 = .ok (.if_icmp .gt 74, 3) := by decide +kernel
theorem dX12_site_47 : decode cX12_site 47 = .ok (.aload_n 0, 1) := by decide +kernel
theorem dX12_site_48 : decode cX12_site 48 = .ok (.invokevirtual 328, 3) := by decide +kernel
theorem dX12_site_51 : decode cX12_site 51 = .ok (.aload_n 0, 1) := by decide +kernel
theorem dX12_site_52 : decode cX12_site 52 = .ok (.iload 4, 2) := by decide +kernel
theorem dX12_site_54 : decode cX12_site 54 = .ok (.iload_n 1, 1) := by decide +kernel
theorem dX12_site_55 : decode cX12_site 55 = .ok (.invokevirtual 337, 3) := by decide +kernel
theorem dX12_site_58 : decode cX12_site 58 = .ok (.iconst 0, 1) := by decide +kernel
theorem dX12_site_59 : decode cX12_site 59 = .ok (.istore 5, 2) := by decide +kernel
theorem dX12_site_61 : decode cX12_site 61 = .ok (.iconst 0, 1) := by decide +kernel
theorem dX12_site_62 : decode cX12_site 62 = .ok (.istore 6, 2) := by decide +kernel
theorem dX12_site_64 : decode cX12_site 64 = .ok (.iload 6, 2) := by decide +kernel
theorem dX12_site_66 : decode cX12_site 66 = .ok (.aload_n 0, 1) := by decide +kernel
theorem dX12_site_67 : decode cX12_site 67 = .ok (.getfield 104, 3) := by decide +kernel
theorem dX12_site_70 : decode cX12_site 70 = .ok (.bipush 40, 2) := by decide +kernel
theorem dX12_site_72 : decode cX12_site 72 = .ok (.iaload, 1) := by decide +kernel
theorem dX12_site_73 : decode cX12_site 73 = .ok (.if_icmp .ge 20, 3) := by decide +kernel
theorem dX12_site_76 : decode cX12_site 76 = .ok (.iload 5, 2) := by decide +kernel
theorem dX12_site_78 : decode cX12_site 78 = .ok (.aload_n 0, 1) := by decide +kernel
theorem dX12_site_79 : decode cX12_site 79 = .ok (.iload 6, 2) := by decide +kernel
theorem dX12_site_81 : decode cX12_site 81 = .ok (.invokevirtual 303, 3) := by decide +kernel
theorem dX12_site_84 : decode cX12_site 84 = .ok (.iadd, 1) := by decide +kernel
theorem dX12_site_85 : decode cX12_site 85 = .ok (.istore 5, 2) := by decide +kernel
theorem dX12_site_87 : decode cX12_site 87 = .ok (.iinc 6 1, 3) := by decide +kernel
theorem dX12_site_90 : decode cX12_site 90 = .ok (.goto (-26), 3) := by decide +kernel
theorem dX12_site_93 : decode cX12_site 93 = .ok (.iload_n 2, 1) := by decide +kernel
theorem dX12_site_94 : decode cX12_site 94 = .ok (.ifCond .lt 12, 3) := by decide +kernel
theorem dX12_site_97 : decode cX12_site 97 = .ok (.iload 5, 2) := by decide +kernel
theorem dX12_site_99 : decode cX12_site 99 = .ok (.iload_n 3, 1) := by decide +kernel
theorem dX12_site_100 : decode cX12_site 100 = .ok (.if_icmp .lt 6, 3) := by decide +kernel
theorem dX12_site_103 : decode cX12_site 103 = .ok (.goto 9, 3) := by decide +kernel
theorem dX12_site_106 : decode cX12_site 106 = .ok (.iload 4, 2) := by decide +kernel
theorem dX12_site_108 : decode cX12_site 108 = .ok (.istore_n 2, 1) := by decide +kernel
theorem dX12_site_109 : decode cX12_site 109 = .ok (.iload 5, 2) := by decide +kernel
theorem dX12_site_111 : decode cX12_site 111 = .ok (.istore_n 3, 1) := by decide +kernel
theorem dX12_site_112 : decode cX12_site 112 = .ok (.iinc 4 1, 3) := by decide +kernel
theorem dX12_site_115 : decode cX12_site 115 = .ok (.goto (-80), 3) := by decide +kernel
theorem dX12_site_118 : decode cX12_site 118 = .ok (.iload_n 2, 1) := by decide +kernel
theorem dX12_site_119 : decode cX12_site 119 = .ok (.ireturn, 1) := by decide +kernel
theorem dX12_hides_0 : decode cX12_hides 0 = .ok (.aload_n 0, 1) := by decide +kernel
theorem dX12_hides_1 : decode cX12_hides 1 = .ok (.invokevirtual 328, 3) := by decide +kernel
theorem dX12_hides_4 : decode cX12_hides 4 = .ok (.iconst 0, 1) := by decide +kernel
theorem dX12_hides_5 : decode cX12_hides 5 = .ok (.istore_n 3, 1) := by decide +kernel
theorem dX12_hides_6 : decode cX12_hides 6 = .ok (.iload_n 3, 1) := by decide +kernel
theorem dX12_hides_7 : decode cX12_hides 7 = .ok (.aload_n 0, 1) := by decide +kernel
theorem dX12_hides_8 : decode cX12_hides 8 = .ok (.getfield 104, 3) := by decide +kernel
theorem dX12_hides_11 : decode cX12_hides 11 = .ok (.bipush 40, 2) := by decide +kernel
theorem dX12_hides_13 : decode cX12_hides 13 = .ok (.iaload, 1) := by decide +kernel
theorem dX12_hides_14 : decode cX12_hides 14 = .ok (.if_icmp .ge 50, 3) := by decide +kernel
theorem dX12_hides_17 : decode cX12_hides 17 = .ok (.aload_n 0, 1) := by decide +kernel
theorem dX12_hides_18 : decode cX12_hides 18 = .ok (.getfield 104, 3) := by decide +kernel
theorem dX12_hides_21 : decode cX12_hides 21 = .ok (.bipush 10, 2) := by decide +kernel
theorem dX12_hides_23 : decode cX12_hides 23 = .ok (.iload_n 3, 1) := by decide +kernel
theorem dX12_hides_24 : decode cX12_hides 24 = .ok (.iadd, 1) := by decide +kernel
theorem dX12_hides_25 : decode cX12_hides 25 = .ok (.iload_n 1, 1) := by decide +kernel
theorem dX12_hides_26 : decode cX12_hides 26 = .ok (.iload_n 3, 1) := by decide +kernel
theorem dX12_hides_27 : decode cX12_hides 27 = .ok (.ishr, 1) := by decide +kernel
theorem dX12_hides_28 : decode cX12_hides 28 = .ok (.iconst 1, 1) := by decide +kernel
theorem dX12_hides_29 : decode cX12_hides 29 = .ok (.iand, 1) := by decide +kernel
theorem dX12_hides_30 : decode cX12_hides 30 = .ok (.ifCond .ne 7, 3) := by decide +kernel
theorem dX12_hides_33 : decode cX12_hides 33 = .ok (.iconst 0, 1) := by decide +kernel
theorem dX12_hides_34 : decode cX12_hides 34 = .ok (.goto 23, 3) := by decide +kernel
theorem dX12_hides_37 : decode cX12_hides 37 = .ok (.iload_n 2, 1) := by decide +kernel
theorem dX12_hides_38 : decode cX12_hides 38 = .ok (.aload_n 0, 1) := by decide +kernel
theorem dX12_hides_39 : decode cX12_hides 39 = .ok (.getfield 104, 3) := by decide +kernel
theorem dX12_hides_42 : decode cX12_hides 42 = .ok (.iload_n 3, 1) := by decide +kernel
theorem dX12_hides_43 : decode cX12_hides 43 = .ok (.iaload, 1) := by decide +kernel
theorem dX12_hides_44 : decode cX12_hides 44 = .ok (.if_icmp .ge 7, 3) := by decide +kernel
theorem dX12_hides_47 : decode cX12_hides 47 = .ok (.iload_n 2, 1) := by decide +kernel
theorem dX12_hides_48 : decode cX12_hides 48 = .ok (.goto 9, 3) := by decide +kernel
theorem dX12_hides_51 : decode cX12_hides 51 = .ok (.aload_n 0, 1) := by decide +kernel
theorem dX12_hides_52 : decode cX12_hides 52 = .ok (.getfield 104, 3) := by decide +kernel
theorem dX12_hides_55 : decode cX12_hides 55 = .ok (.iload_n 3, 1) := by decide +kernel
theorem dX12_hides_56 : decode cX12_hides 56 = .ok (.iaload, 1) := by decide +kernel
theorem dX12_hides_57 : decode cX12_hides 57 = .ok (.iastore, 1) := by decide +kernel
theorem dX12_hides_58 : decode cX12_hides 58 = .ok (.iinc 3 1, 3) := by decide +kernel
theorem dX12_hides_61 : decode cX12_hides 61 = .ok (.goto (-55), 3) := by decide +kernel
theorem dX12_hides_64 : decode cX12_hides 64 = .ok (.return_, 1) := by decide +kernel
theorem dX12_isResting_0 : decode cX12_isResting 0 = .ok (.iconst 0, 1) := by decide +kernel
theorem dX12_isResting_1 : decode cX12_isResting 1 = .ok (.istore_n 2, 1) := by decide +kernel
theorem dX12_isResting_2 : decode cX12_isResting 2 = .ok (.iload_n 2, 1) := by decide +kernel
theorem dX12_isResting_3 : decode cX12_isResting 3 = .ok (.aload_n 0, 1) := by decide +kernel
theorem dX12_isResting_4 : decode cX12_isResting 4 = .ok (.getfield 101, 3) := by decide +kernel
theorem dX12_isResting_7 : decode cX12_isResting 7 = .ok (.bipush 40, 2) := by decide +kernel
theorem dX12_isResting_9 : decode cX12_isResting 9 = .ok (.iaload, 1) := by decide +kernel
theorem dX12_isResting_10 : decode cX12_isResting 10 = .ok (.if_icmp .ge 40, 3) := by decide +kernel
theorem dX12_isResting_13 : decode cX12_isResting 13 = .ok (.aload_n 0, 1) := by decide +kernel
theorem dX12_isResting_14 : decode cX12_isResting 14 = .ok (.getfield 116, 3) := by decide +kernel
theorem dX12_isResting_17 : decode cX12_isResting 17 = .ok (.bipush 10, 2) := by decide +kernel
theorem dX12_isResting_19 : decode cX12_isResting 19 = .ok (.iload_n 1, 1) := by decide +kernel
theorem dX12_isResting_20 : decode cX12_isResting 20 = .ok (.iconst 1, 1) := by decide +kernel
theorem dX12_isResting_21 : decode cX12_isResting 21 = .ok (.iload_n 2, 1) := by decide +kernel
theorem dX12_isResting_22 : decode cX12_isResting 22 = .ok (.ishl, 1) := by decide +kernel
theorem dX12_isResting_23 : decode cX12_isResting 23 = .ok (.ixor, 1) := by decide +kernel
theorem dX12_isResting_24 : decode cX12_isResting 24 = .ok (.imul, 1) := by decide +kernel
theorem dX12_isResting_25 : decode cX12_isResting 25 = .ok (.iload_n 2, 1) := by decide +kernel
theorem dX12_isResting_26 : decode cX12_isResting 26 = .ok (.iadd, 1) := by decide +kernel
theorem dX12_isResting_27 : decode cX12_isResting 27 = .ok (.iaload, 1) := by decide +kernel
theorem dX12_isResting_28 : decode cX12_isResting 28 = .ok (.aload_n 0, 1) := by decide +kernel
theorem dX12_isResting_29 : decode cX12_isResting 29 = .ok (.getfield 116, 3) := by decide +kernel
theorem dX12_isResting_32 : decode cX12_isResting 32 = .ok (.bipush 10, 2) := by decide +kernel
theorem dX12_isResting_34 : decode cX12_isResting 34 = .ok (.iload_n 1, 1) := by decide +kernel
theorem dX12_isResting_35 : decode cX12_isResting 35 = .ok (.imul, 1) := by decide +kernel
theorem dX12_isResting_36 : decode cX12_isResting 36 = .ok (.iload_n 2, 1) := by decide +kernel
theorem dX12_isResting_37 : decode cX12_isResting 37 = .ok (.iadd, 1) := by decide +kernel
theorem dX12_isResting_38 : decode cX12_isResting 38 = .ok (.iaload, 1) := by decide +kernel
theorem dX12_isResting_39 : decode cX12_isResting 39 = .ok (.if_icmp .le 5, 3) := by decide +kernel
theorem dX12_isResting_42 : decode cX12_isResting 42 = .ok (.iconst 0, 1) := by decide +kernel
theorem dX12_isResting_43 : decode cX12_isResting 43 = .ok (.ireturn, 1) := by decide +kernel
theorem dX12_isResting_44 : decode cX12_isResting 44 = .ok (.iinc 2 1, 3) := by decide +kernel
theorem dX12_isResting_47 : decode cX12_isResting 47 = .ok (.goto (-45), 3) := by decide +kernel
theorem dX12_isResting_50 : decode cX12_isResting 50 = .ok (.iconst 1, 1) := by decide +kernel
theorem dX12_isResting_51 : decode cX12_isResting 51 = .ok (.ireturn, 1) := by decide +kernel
theorem dX12_rests_0 : decode cX12_rests 0 = .ok (.iload_n 1, 1) := by decide +kernel
theorem dX12_rests_1 : decode cX12_rests 1 = .ok (.iconst 1, 1) := by decide +kernel
theorem dX12_rests_2 : decode cX12_rests 2 = .ok (.sipush 999, 3) := by decide +kernel
theorem dX12_rests_5 : decode cX12_rests 5 = .ok (.invokestatic 276, 3) := by decide +kernel
theorem dX12_rests_8 : decode cX12_rests 8 = .ok (.ifCond .eq 8, 3) := by decide +kernel
theorem dX12_rests_11 : decode cX12_rests 11 = .ok (.iload_n 2, 1) := by decide +kernel
theorem dX12_rests_12 : decode cX12_rests 12 = .ok (.iconst (-1), 1) := by decide +kernel
theorem dX12_rests_13 : decode cX12_rests 13 = .ok (.if_icmp .ge 5, 3) := by decide +kernel
theorem dX12_rests_16 : decode cX12_rests 16 = .ok (.iconst (-1), 1) := by decide +kernel
theorem dX12_rests_17 : decode cX12_rests 17 = .ok (.ireturn, 1) := by decide +kernel
theorem dX12_rests_18 : decode cX12_rests 18 = .ok (.aload_n 0, 1) := by decide +kernel
theorem dX12_rests_19 : decode cX12_rests 19 = .ok (.getfield 101, 3) := by decide +kernel
theorem dX12_rests_22 : decode cX12_rests 22 = .ok (.bipush 40, 2) := by decide +kernel
theorem dX12_rests_24 : decode cX12_rests 24 = .ok (.iaload, 1) := by decide +kernel
theorem dX12_rests_25 : decode cX12_rests 25 = .ok (.bipush 8, 2) := by decide +kernel
theorem dX12_rests_27 : decode cX12_rests 27 = .ok (.if_icmp .le 6, 3) := by decide +kernel
theorem dX12_rests_30 : decode cX12_rests 30 = .ok (.bipush (-2), 2) := by decide +kernel
theorem dX12_rests_32 : decode cX12_rests 32 = .ok (.ireturn, 1) := by decide +kernel
theorem dX12_rests_33 : decode cX12_rests 33 = .ok (.iconst 0, 1) := by decide +kernel
theorem dX12_rests_34 : decode cX12_rests 34 = .ok (.istore_n 3, 1) := by decide +kernel
theorem dX12_rests_35 : decode cX12_rests 35 = .ok (.iload_n 3, 1) := by decide +kernel
theorem dX12_rests_36 : decode cX12_rests 36 = .ok (.iconst 1, 1) := by decide +kernel
theorem dX12_rests_37 : decode cX12_rests 37 = .ok (.aload_n 0, 1) := by decide +kernel
theorem dX12_rests_38 : decode cX12_rests 38 = .ok (.getfield 101, 3) := by decide +kernel
theorem dX12_rests_41 : decode cX12_rests 41 = .ok (.bipush 40, 2) := by decide +kernel
theorem dX12_rests_43 : decode cX12_rests 43 = .ok (.iaload, 1) := by decide +kernel
theorem dX12_rests_44 : decode cX12_rests 44 = .ok (.ishl, 1) := by decide +kernel
theorem dX12_rests_45 : decode cX12_rests 45 = .ok (.if_icmp .ge 55, 3) := by decide +kernel
theorem dX12_rests_48 : decode cX12_rests 48 = .ok (.aload_n 0, 1) := by decide +kernel
theorem dX12_rests_49 : decode cX12_rests 49 = .ok (.iload_n 3, 1) := by decide +kernel
theorem dX12_rests_50 : decode cX12_rests 50 = .ok (.iload_n 1, 1) := by decide +kernel
theorem dX12_rests_51 : decode cX12_rests 51 = .ok (.invokevirtual 364, 3) := by decide +kernel
theorem dX12_rests_54 : decode cX12_rests 54 = .ok (.aload_n 0, 1) := by decide +kernel
theorem dX12_rests_55 : decode cX12_rests 55 = .ok (.iconst 1, 1) := by decide +kernel
theorem dX12_rests_56 : decode cX12_rests 56 = .ok (.invokevirtual 331, 3) := by decide +kernel
theorem dX12_rests_59 : decode cX12_rests 59 = .ok (.iconst 0, 1) := by decide +kernel
theorem dX12_rests_60 : decode cX12_rests 60 = .ok (.istore 4, 2) := by decide +kernel
theorem dX12_rests_62 : decode cX12_rests 62 = .ok (.iload 4, 2) := by decide +kernel
theorem dX12_rests_64 : decode cX12_rests 64 = .ok (.bipush 10, 2) := by decide +kernel
theorem dX12_rests_66 : decode cX12_rests 66 = .ok (.if_icmp .ge 28, 3) := by decide +kernel
theorem dX12_rests_69 : decode cX12_rests 69 = .ok (.aload_n 0, 1) := by decide +kernel
theorem dX12_rests_70 : decode cX12_rests 70 = .ok (.getfield 116, 3) := by decide +kernel
theorem dX12_rests_73 : decode cX12_rests 73 = .ok (.bipush 10, 2) := by decide +kernel
theorem dX12_rests_75 : decode cX12_rests 75 = .ok (.iload_n 3, 1) := by decide +kernel
theorem dX12_rests_76 : decode cX12_rests 76 = .ok (.imul, 1) := by decide +kernel
theorem dX12_rests_77 : decode cX12_rests 77 = .ok (.iload 4, 2) := by decide +kernel
theorem dX12_rests_79 : decode cX12_rests 79 = .ok (.iadd, 1) := by decide +kernel
theorem dX12_rests_80 : decode cX12_rests 80 = .ok (.aload_n 0, 1) := by decide +kernel
theorem dX12_rests_81 : decode cX12_rests 81 = .ok (.getfield 104, 3) := by decide +kernel
theorem dX12_rests_84 : decode cX12_rests 84 = .ok (.iload 4, 2) := by decide +kernel
theorem dX12_rests_86 : decode cX12_rests 86 = .ok (.iaload, 1) := by decide +kernel
theorem dX12_rests_87 : decode cX12_rests 87 = .ok (.iastore, 1) := by decide +kernel
theorem dX12_rests_88 : decode cX12_rests 88 = .ok (.iinc 4 1, 3) := by decide +kernel
theorem dX12_rests_91 : decode cX12_rests 91 = .ok (.goto (-29), 3) := by decide +kernel
theorem dX12_rests_94 : decode cX12_rests 94 = .ok (.iinc 3 1, 3) := by decide +kernel
theorem dX12_rests_97 : decode cX12_rests 97 = .ok (.goto (-62), 3) := by decide +kernel
theorem dX12_rests_100 : decode cX12_rests 100 = .ok (.iconst 0, 1) := by decide +kernel
theorem dX12_rests_101 : decode cX12_rests 101 = .ok (.istore_n 3, 1) := by decide +kernel
theorem dX12_rests_102 : decode cX12_rests 102 = .ok (.iconst 0, 1) := by decide +kernel
theorem dX12_rests_103 : decode cX12_rests 103 = .ok (.istore 4, 2) := by decide +kernel
theorem dX12_rests_105 : decode cX12_rests 105 = .ok (.iload 4, 2) := by decide +kernel
theorem dX12_rests_107 : decode cX12_rests 107 = .ok (.iconst 1, 1) := by decide +kernel
theorem dX12_rests_108 : decode cX12_rests 108 = .ok (.aload_n 0, 1) := by decide +kernel
theorem dX12_rests_109 : decode cX12_rests 109 = .ok (.getfield 101, 3) := by decide +kernel
theorem dX12_rests_112 : decode cX12_rests 112 = .ok (.bipush 40, 2) := by decide +kernel
theorem dX12_rests_114 : decode cX12_rests 114 = .ok (.iaload, 1) := by decide +kernel
theorem dX12_rests_115 : decode cX12_rests 115 = .ok (.ishl, 1) := by decide +kernel
theorem dX12_rests_116 : decode cX12_rests 116 = .ok (.if_icmp .ge 32, 3) := by decide +kernel
theorem dX12_rests_119 : decode cX12_rests 119 = .ok (.aload_n 0, 1) := by decide +kernel
theorem dX12_rests_120 : decode cX12_rests 120 = .ok (.iload 4, 2) := by decide +kernel
theorem dX12_rests_122 : decode cX12_rests 122 = .ok (.invokevirtual 367, 3) := by decide +kernel
theorem dX12_rests_125 : decode cX12_rests 125 = .ok (.ifCond .ne 6, 3) := by decide +kernel
theorem dX12_rests_128 : decode cX12_rests 128 = .ok (.goto 14, 3) := by decide +kernel
theorem dX12_rests_131 : decode cX12_rests 131 = .ok (.iload_n 3, 1) := by decide +kernel
theorem dX12_rests_132 : decode cX12_rests 132 = .ok (.iload_n 2, 1) := by decide +kernel
theorem dX12_rests_133 : decode cX12_rests 133 = .ok (.if_icmp .ne 6, 3) := by decide +kernel
theorem dX12_rests_136 : decode cX12_rests 136 = .ok (.iload 4, 2) := by decide +kernel
theorem dX12_rests_138 : decode cX12_rests 138 = .ok (.ireturn, 1) := by decide +kernel
theorem dX12_rests_139 : decode cX12_rests 139 = .ok (.iinc 3 1, 3) := by decide +kernel
theorem dX12_rests_142 : decode cX12_rests 142 = .ok (.iinc 4 1, 3) := by decide +kernel
theorem dX12_rests_145 : decode cX12_rests 145 = .ok (.goto (-40), 3) := by decide +kernel
theorem dX12_rests_148 : decode cX12_rests 148 = .ok (.iload_n 2, 1) := by decide +kernel
theorem dX12_rests_149 : decode cX12_rests 149 = .ok (.iconst (-1), 1) := by decide +kernel
theorem dX12_rests_150 : decode cX12_rests 150 = .ok (.if_icmp .ne 7, 3) := by decide +kernel
theorem dX12_rests_153 : decode cX12_rests 153 = .ok (.iload_n 3, 1) := by decide +kernel
theorem dX12_rests_154 : decode cX12_rests 154 = .ok (.goto 4, 3) := by decide +kernel
theorem dX12_rests_157 : decode cX12_rests 157 = .ok (.iconst (-1), 1) := by decide +kernel
theorem dX12_rests_158 : decode cX12_rests 158 = .ok (.ireturn, 1) := by decide +kernel
theorem dX12_tell__0 : decode cX12_tell_ 0 = .ok (.aload_n 0, 1) := by decide +kernel
theorem dX12_tell__1 : decode cX12_tell_ 1 = .ok (.getfield 233, 3) := by decide +kernel
theorem dX12_tell__4 : decode cX12_tell_ 4 = .ok (.bipush 20, 2) := by decide +kernel
theorem dX12_tell__6 : decode cX12_tell_ 6 = .ok (.if_icmp .eq 22, 3) := by decide +kernel
theorem dX12_tell__9 : decode cX12_tell_ 9 = .ok (.aload_n 0, 1) := by decide +kernel
theorem dX12_tell__10 : decode cX12_tell_ 10 = .ok (.iload_n 1, 1) := by decide +kernel
theorem dX12_tell__11 : decode cX12_tell_ 11 = .ok (.invokevirtual 325, 3) := by decide +kernel
theorem dX12_tell__14 : decode cX12_tell_ 14 = .ok (.ifCond .eq 14, 3) := by decide +kernel
theorem dX12_tell__17 : decode cX12_tell_ 17 = .ok (.iload_n 2, 1) := by decide +kernel
theorem dX12_tell__18 : decode cX12_tell_ 18 = .ok (.iconst 0, 1) := by decide +kernel
theorem dX12_tell__19 : decode cX12_tell_ 19 = .ok (.sipush 9999, 3) := by decide +kernel
theorem dX12_tell__22 : decode cX12_tell_ 22 = .ok (.invokestatic 276, 3) := by decide +kernel
theorem dX12_tell__25 : decode cX12_tell_ 25 = .ok (.ifCond .ne 5, 3) := by decide +kernel
theorem dX12_tell__28 : decode cX12_tell_ 28 = .ok (.iconst (-1), 1) := by decide +kernel
theorem dX12_tell__29 : decode cX12_tell_ 29 = .ok (.ireturn, 1) := by decide +kernel
theorem dX12_tell__30 : decode cX12_tell_ 30 = .ok (.aload_n 0, 1) := by decide +kernel
theorem dX12_tell__31 : decode cX12_tell_ 31 = .ok (.getfield 119, 3) := by decide +kernel
theorem dX12_tell__34 : decode cX12_tell_ 34 = .ok (.aload_n 0, 1) := by decide +kernel
theorem dX12_tell__35 : decode cX12_tell_ 35 = .ok (.getfield 233, 3) := by decide +kernel
theorem dX12_tell__38 : decode cX12_tell_ 38 = .ok (.iload_n 1, 1) := by decide +kernel
theorem dX12_tell__39 : decode cX12_tell_ 39 = .ok (.iastore, 1) := by decide +kernel
theorem dX12_tell__40 : decode cX12_tell_ 40 = .ok (.aload_n 0, 1) := by decide +kernel
theorem dX12_tell__41 : decode cX12_tell_ 41 = .ok (.getfield 122, 3) := by decide +kernel
theorem dX12_tell__44 : decode cX12_tell_ 44 = .ok (.aload_n 0, 1) := by decide +kernel
theorem dX12_tell__45 : decode cX12_tell_ 45 = .ok (.getfield 233, 3) := by decide +kernel
theorem dX12_tell__48 : decode cX12_tell_ 48 = .ok (.iload_n 2, 1) := by decide +kernel
theorem dX12_tell__49 : decode cX12_tell_ 49 = .ok (.iastore, 1) := by decide +kernel
theorem dX12_tell__50 : decode cX12_tell_ 50 = .ok (.aload_n 0, 1) := by decide +kernel
theorem dX12_tell__51 : decode cX12_tell_ 51 = .ok (.dup, 1) := by decide +kernel
theorem dX12_tell__52 : decode cX12_tell_ 52 = .ok (.getfield 233, 3) := by decide +kernel
theorem dX12_tell__55 : decode cX12_tell_ 55 = .ok (.iconst 1, 1) := by decide +kernel
theorem dX12_tell__56 : decode cX12_tell_ 56 = .ok (.iadd, 1) := by decide +kernel
theorem dX12_tell__57 : decode cX12_tell_ 57 = .ok (.putfield 233, 3) := by decide +kernel
theorem dX12_tell__60 : decode cX12_tell_ 60 = .ok (.aload_n 0, 1) := by decide +kernel
theorem dX12_tell__61 : decode cX12_tell_ 61 = .ok (.getfield 233, 3) := by decide +kernel
theorem dX12_tell__64 : decode cX12_tell_ 64 = .ok (.iconst 1, 1) := by decide +kernel
theorem dX12_tell__65 : decode cX12_tell_ 65 = .ok (.isub, 1) := by decide +kernel
theorem dX12_tell__66 : decode cX12_tell_ 66 = .ok (.ireturn, 1) := by decide +kernel
theorem dX12_forget_0 : decode cX12_forget 0 = .ok (.aload_n 0, 1) := by decide +kernel
theorem dX12_forget_1 : decode cX12_forget 1 = .ok (.getfield 233, 3) := by decide +kernel
theorem dX12_forget_4 : decode cX12_forget 4 = .ok (.istore_n 1, 1) := by decide +kernel
theorem dX12_forget_5 : decode cX12_forget 5 = .ok (.aload_n 0, 1) := by decide +kernel
theorem dX12_forget_6 : decode cX12_forget 6 = .ok (.iconst 0, 1) := by decide +kernel
theorem dX12_forget_7 : decode cX12_forget 7 = .ok (.putfield 233, 3) := by decide +kernel
theorem dX12_forget_10 : decode cX12_forget 10 = .ok (.iload_n 1, 1) := by decide +kernel
theorem dX12_forget_11 : decode cX12_forget 11 = .ok (.ireturn, 1) := by decide +kernel
theorem dX12_rowsOf_0 : decode cX12_rowsOf 0 = .ok (.iconst 1, 1) := by decide +kernel
theorem dX12_rowsOf_1 : decode cX12_rowsOf 1 = .ok (.istore_n 2, 1) := by decide +kernel
theorem dX12_rowsOf_2 : decode cX12_rowsOf 2 = .ok (.iconst 0, 1) := by decide +kernel
theorem dX12_rowsOf_3 : decode cX12_rowsOf 3 = .ok (.istore_n 3, 1) := by decide +kernel
theorem dX12_rowsOf_4 : decode cX12_rowsOf 4 = .ok (.iload_n 3, 1) := by decide +kernel
theorem dX12_rowsOf_5 : decode cX12_rowsOf 5 = .ok (.aload_n 0, 1) := by decide +kernel
theorem dX12_rowsOf_6 : decode cX12_rowsOf 6 = .ok (.getfield 101, 3) := by decide +kernel
theorem dX12_rowsOf_9 : decode cX12_rowsOf 9 = .ok (.bipush 40, 2) := by decide +kernel
theorem dX12_rowsOf_11 : decode cX12_rowsOf 11 = .ok (.iaload, 1) := by decide +kernel
theorem dX12_rowsOf_12 : decode cX12_rowsOf 12 = .ok (.if_icmp .ge 25, 3) := by decide +kernel
theorem dX12_rowsOf_15 : decode cX12_rowsOf 15 = .ok (.iload_n 2, 1) := by decide +kernel
theorem dX12_rowsOf_16 : decode cX12_rowsOf 16 = .ok (.iload_n 1, 1) := by decide +kernel
theorem dX12_rowsOf_17 : decode cX12_rowsOf 17 = .ok (.iconst 1, 1) := by decide +kernel
theorem dX12_rowsOf_18 : decode cX12_rowsOf 18 = .ok (.iadd, 1) := by decide +kernel
theorem dX12_rowsOf_19 : decode cX12_rowsOf 19 = .ok (.imul, 1) := by decide +kernel
theorem dX12_rowsOf_20 : decode cX12_rowsOf 20 = .ok (.istore_n 2, 1) := by decide +kernel
theorem dX12_rowsOf_21 : decode cX12_rowsOf 21 = .ok (.iload_n 2, 1) := by decide +kernel
theorem dX12_rowsOf_22 : decode cX12_rowsOf 22 = .ok (.ldc_w 370, 3) := by decide +kernel
theorem dX12_rowsOf_25 : decode cX12_rowsOf 25 = .ok (.if_icmp .le 6, 3) := by decide +kernel
theorem dX12_rowsOf_28 : decode cX12_rowsOf 28 = .ok (.bipush (-2), 2) := by decide +kernel
theorem dX12_rowsOf_30 : decode cX12_rowsOf 30 = .ok (.ireturn, 1) := by decide +kernel
theorem dX12_rowsOf_31 : decode cX12_rowsOf 31 = .ok (.iinc 3 1, 3) := by decide +kernel
theorem dX12_rowsOf_34 : decode cX12_rowsOf 34 = .ok (.goto (-30), 3) := by decide +kernel
theorem dX12_rowsOf_37 : decode cX12_rowsOf 37 = .ok (.iload_n 2, 1) := by decide +kernel
theorem dX12_rowsOf_38 : decode cX12_rowsOf 38 = .ok (.ireturn, 1) := by decide +kernel
theorem dX12_takesRow_0 : decode cX12_takesRow 0 = .ok (.aload_n 0, 1) := by decide +kernel
theorem dX12_takesRow_1 : decode cX12_takesRow 1 = .ok (.invokevirtual 328, 3) := by decide +kernel
theorem dX12_takesRow_4 : decode cX12_takesRow 4 = .ok (.iload_n 1, 1) := by decide +kernel
theorem dX12_takesRow_5 : decode cX12_takesRow 5 = .ok (.istore_n 3, 1) := by decide +kernel
theorem dX12_takesRow_6 : decode cX12_takesRow 6 = .ok (.iconst 0, 1) := by decide +kernel
theorem dX12_takesRow_7 : decode cX12_takesRow 7 = .ok (.istore 4, 2) := by decide +kernel
theorem dX12_takesRow_9 : decode cX12_takesRow 9 = .ok (.iload 4, 2) := by decide +kernel
theorem dX12_takesRow_11 : decode cX12_takesRow 11 = .ok (.aload_n 0, 1) := by decide +kernel
theorem dX12_takesRow_12 : decode cX12_takesRow 12 = .ok (.getfield 104, 3) := by decide +kernel
theorem dX12_takesRow_15 : decode cX12_takesRow 15 = .ok (.bipush 40, 2) := by decide +kernel
theorem dX12_takesRow_17 : decode cX12_takesRow 17 = .ok (.iaload, 1) := by decide +kernel
theorem dX12_takesRow_18 : decode cX12_takesRow 18 = .ok (.if_icmp .ge 38, 3) := by decide +kernel
theorem dX12_takesRow_21 : decode cX12_takesRow 21 = .ok (.aload_n 0, 1) := by decide +kernel
theorem dX12_takesRow_22 : decode cX12_takesRow 22 = .ok (.getfield 104, 3) := by decide +kernel
theorem dX12_takesRow_25 : decode cX12_takesRow 25 = .ok (.iload 4, 2) := by decide +kernel
theorem dX12_takesRow_27 : decode cX12_takesRow 27 = .ok (.iload_n 3, 1) := by decide +kernel
theorem dX12_takesRow_28 : decode cX12_takesRow 28 = .ok (.iload_n 2, 1) := by decide +kernel
theorem dX12_takesRow_29 : decode cX12_takesRow 29 = .ok (.iconst 1, 1) := by decide +kernel
theorem dX12_takesRow_30 : decode cX12_takesRow 30 = .ok (.iadd, 1) := by decide +kernel
theorem dX12_takesRow_31 : decode cX12_takesRow 31 = .ok (.irem, 1) := by decide +kernel
theorem dX12_takesRow_32 : decode cX12_takesRow 32 = .ok (.iastore, 1) := by decide +kernel
theorem dX12_takesRow_33 : decode cX12_takesRow 33 = .ok (.aload_n 0, 1) := by decide +kernel
theorem dX12_takesRow_34 : decode cX12_takesRow 34 = .ok (.getfield 104, 3) := by decide +kernel
theorem dX12_takesRow_37 : decode cX12_takesRow 37 = .ok (.bipush 10, 2) := by decide +kernel
theorem dX12_takesRow_39 : decode cX12_takesRow 39 = .ok (.iload 4, 2) := by decide +kernel
theorem dX12_takesRow_41 : decode cX12_takesRow 41 = .ok (.iadd, 1) := by decide +kernel
theorem dX12_takesRow_42 : decode cX12_takesRow 42 = .ok (.iconst 0, 1) := by decide +kernel
theorem dX12_takesRow_43 : decode cX12_takesRow 43 = .ok (.iastore, 1) := by decide +kernel
theorem dX12_takesRow_44 : decode cX12_takesRow 44 = .ok (.iload_n 3, 1) := by decide +kernel
theorem dX12_takesRow_45 : decode cX12_takesRow 45 = .ok (.iload_n 2, 1) := by decide +kernel
theorem dX12_takesRow_46 : decode cX12_takesRow 46 = .ok (.iconst 1, 1) := by decide +kernel
theorem dX12_takesRow_47 : decode cX12_takesRow 47 = .ok (.iadd, 1) := by decide +kernel
theorem dX12_takesRow_48 : decode cX12_takesRow 48 = .ok (.idiv, 1) := by decide +kernel
theorem dX12_takesRow_49 : decode cX12_takesRow 49 = .ok (.istore_n 3, 1) := by decide +kernel
theorem dX12_takesRow_50 : decode cX12_takesRow 50 = .ok (.iinc 4 1, 3) := by decide +kernel
theorem dX12_takesRow_53 : decode cX12_takesRow 53 = .ok (.goto (-44), 3) := by decide +kernel
theorem dX12_takesRow_56 : decode cX12_takesRow 56 = .ok (.return_, 1) := by decide +kernel
theorem dX12_fillsFits_0 : decode cX12_fillsFits 0 = .ok (.aload_n 0, 1) := by decide +kernel
theorem dX12_fillsFits_1 : decode cX12_fillsFits 1 = .ok (.iload_n 1, 1) := by decide +kernel
theorem dX12_fillsFits_2 : decode cX12_fillsFits 2 = .ok (.invokevirtual 371, 3) := by decide +kernel
theorem dX12_fillsFits_5 : decode cX12_fillsFits 5 = .ok (.istore_n 3, 1) := by decide +kernel
theorem dX12_fillsFits_6 : decode cX12_fillsFits 6 = .ok (.iload_n 3, 1) := by decide +kernel
theorem dX12_fillsFits_7 : decode cX12_fillsFits 7 = .ok (.ifCond .ge 6, 3) := by decide +kernel
theorem dX12_fillsFits_10 : decode cX12_fillsFits 10 = .ok (.bipush (-2), 2) := by decide +kernel
theorem dX12_fillsFits_12 : decode cX12_fillsFits 12 = .ok (.ireturn, 1) := by decide +kernel
theorem dX12_fillsFits_13 : decode cX12_fillsFits 13 = .ok (.iconst 0, 1) := by decide +kernel
theorem dX12_fillsFits_14 : decode cX12_fillsFits 14 = .ok (.istore 4, 2) := by decide +kernel
theorem dX12_fillsFits_16 : decode cX12_fillsFits 16 = .ok (.iload 4, 2) := by decide +kernel
theorem dX12_fillsFits_18 : decode cX12_fillsFits 18 = .ok (.bipush 10, 2) := by decide +kernel
theorem dX12_fillsFits_20 : decode cX12_fillsFits 20 = .ok (.if_icmp .ge 34, 3) := by decide +kernel
theorem dX12_fillsFits_23 : decode cX12_fillsFits 23 = .ok (.aload_n 0, 1) := by decide +kernel
theorem dX12_fillsFits_24 : decode cX12_fillsFits 24 = .ok (.getfield 125, 3) := by decide +kernel
theorem dX12_fillsFits_27 : decode cX12_fillsFits 27 = .ok (.iload 4, 2) := by decide +kernel
theorem dX12_fillsFits_29 : decode cX12_fillsFits 29 = .ok (.iconst (-1), 1) := by decide +kernel
theorem dX12_fillsFits_30 : decode cX12_fillsFits 30 = .ok (.iastore, 1) := by decide +kernel
theorem dX12_fillsFits_31 : decode cX12_fillsFits 31 = .ok (.aload_n 0, 1) := by decide +kernel
theorem dX12_fillsFits_32 : decode cX12_fillsFits 32 = .ok (.getfield 128, 3) := by decide +kernel
theorem dX12_fillsFits_35 : decode cX12_fillsFits 35 = .ok (.iload 4, 2) := by decide +kernel
theorem dX12_fillsFits_37 : decode cX12_fillsFits 37 = .ok (.bipush 100, 2) := by decide +kernel
theorem dX12_fillsFits_39 : decode cX12_fillsFits 39 = .ok (.iastore, 1) := by decide +kernel
theorem dX12_fillsFits_40 : decode cX12_fillsFits 40 = .ok (.aload_n 0, 1) := by decide +kernel
theorem dX12_fillsFits_41 : decode cX12_fillsFits 41 = .ok (.getfield 131, 3) := by decide +kernel
theorem dX12_fillsFits_44 : decode cX12_fillsFits 44 = .ok (.iload 4, 2) := by decide +kernel
theorem dX12_fillsFits_46 : decode cX12_fillsFits 46 = .ok (.iconst 0, 1) := by decide +kernel
theorem dX12_fillsFits_47 : decode cX12_fillsFits 47 = .ok (.iastore, 1) := by decide +kernel
theorem dX12_fillsFits_48 : decode cX12_fillsFits 48 = .ok (.iinc 4 1, 3) := by decide +kernel
theorem dX12_fillsFits_51 : decode cX12_fillsFits 51 = .ok (.goto (-35), 3) := by decide +kernel
theorem dX12_fillsFits_54 : decode cX12_fillsFits 54 = .ok (.iconst 0, 1) := by decide +kernel
theorem dX12_fillsFits_55 : decode cX12_fillsFits 55 = .ok (.istore 4, 2) := by decide +kernel
theorem dX12_fillsFits_57 : decode cX12_fillsFits 57 = .ok (.iload 4, 2) := by decide +kernel
theorem dX12_fillsFits_59 : decode cX12_fillsFits 59 = .ok (.iload_n 2, 1) := by decide +kernel
theorem dX12_fillsFits_60 : decode cX12_fillsFits 60 = .ok (.if_icmp .ge 28, 3) := by decide +kernel
theorem dX12_fillsFits_63 : decode cX12_fillsFits 63 = .ok (.aload_n 0, 1) := by decide +kernel
theorem dX12_fillsFits_64 : decode cX12_fillsFits 64 = .ok (.getfield 125, 3) := by decide +kernel
theorem dX12_fillsFits_67 : decode cX12_fillsFits 67 = .ok (.aload_n 0, 1) := by decide +kernel
theorem dX12_fillsFits_68 : decode cX12_fillsFits 68 = .ok (.getfield 119, 3) := by decide +kernel
theorem dX12_fillsFits_71 : decode cX12_fillsFits 71 = .ok (.iload 4, 2) := by decide +kernel
theorem dX12_fillsFits_73 : decode cX12_fillsFits 73 = .ok (.iaload, 1) := by decide +kernel
theorem dX12_fillsFits_74 : decode cX12_fillsFits 74 = .ok (.aload_n 0, 1) := by decide +kernel
theorem dX12_fillsFits_75 : decode cX12_fillsFits 75 = .ok (.getfield 122, 3) := by decide +kernel
theorem dX12_fillsFits_78 : decode cX12_fillsFits 78 = .ok (.iload 4, 2) := by decide +kernel
theorem dX12_fillsFits_80 : decode cX12_fillsFits 80 = .ok (.iaload, 1) := by decide +kernel
theorem dX12_fillsFits_81 : decode cX12_fillsFits 81 = .ok (.iastore, 1) := by decide +kernel
theorem dX12_fillsFits_82 : decode cX12_fillsFits 82 = .ok (.iinc 4 1, 3) := by decide +kernel
theorem dX12_fillsFits_85 : decode cX12_fillsFits 85 = .ok (.goto (-28), 3) := by decide +kernel
theorem dX12_fillsFits_88 : decode cX12_fillsFits 88 = .ok (.iconst 0, 1) := by decide +kernel
theorem dX12_fillsFits_89 : decode cX12_fillsFits 89 = .ok (.istore 4, 2) := by decide +kernel
theorem dX12_fillsFits_91 : decode cX12_fillsFits 91 = .ok (.iconst 0, 1) := by decide +kernel
theorem dX12_fillsFits_92 : decode cX12_fillsFits 92 = .ok (.istore 5, 2) := by decide +kernel
theorem dX12_fillsFits_94 : decode cX12_fillsFits 94 = .ok (.iload 5, 2) := by decide +kernel
theorem dX12_fillsFits_96 : decode cX12_fillsFits 96 = .ok (.iload_n 3, 1) := by decide +kernel
theorem dX12_fillsFits_97 : decode cX12_fillsFits 97 = .ok (.if_icmp .ge 197, 3) := by decide +kernel
theorem dX12_fillsFits_100 : decode cX12_fillsFits 100 = .ok (.aload_n 0, 1) := by decide +kernel
theorem dX12_fillsFits_101 : decode cX12_fillsFits 101 = .ok (.iload 5, 2) := by decide +kernel
theorem dX12_fillsFits_103 : decode cX12_fillsFits 103 = .ok (.iload_n 1, 1) := by decide +kernel
theorem dX12_fillsFits_104 : decode cX12_fillsFits 104 = .ok (.invokevirtual 374, 3) := by decide +kernel
theorem dX12_fillsFits_107 : decode cX12_fillsFits 107 = .ok (.aload_n 0, 1) := by decide +kernel
theorem dX12_fillsFits_108 : decode cX12_fillsFits 108 = .ok (.aload_n 0, 1) := by decide +kernel
theorem dX12_fillsFits_109 : decode cX12_fillsFits 109 = .ok (.getfield 53, 3) := by decide +kernel
theorem dX12_fillsFits_112 : decode cX12_fillsFits 112 = .ok (.aload_n 0, 1) := by decide +kernel
theorem dX12_fillsFits_113 : decode cX12_fillsFits 113 = .ok (.getfield 212, 3) := by decide +kernel
theorem dX12_fillsFits_116 : decode cX12_fillsFits 116 = .ok (.baload, 1) := by decide +kernel
theorem dX12_fillsFits_117 : decode cX12_fillsFits 117 = .ok (.iconst 0, 1) := by decide +kernel
theorem dX12_fillsFits_118 : decode cX12_fillsFits 118 = .ok (.invokevirtual 315, 3) := by decide +kernel
theorem dX12_fillsFits_121 : decode cX12_fillsFits 121 = .ok (.iconst 1, 1) := by decide +kernel
theorem dX12_fillsFits_122 : decode cX12_fillsFits 122 = .ok (.istore 6, 2) := by decide +kernel
theorem dX12_fillsFits_124 : decode cX12_fillsFits 124 = .ok (.iconst 0, 1) := by decide +kernel
theorem dX12_fillsFits_125 : decode cX12_fillsFits 125 = .ok (.istore 7, 2) := by decide +kernel
theorem dX12_fillsFits_127 : decode cX12_fillsFits 127 = .ok (.iload 7, 2) := by decide +kernel
theorem dX12_fillsFits_129 : decode cX12_fillsFits 129 = .ok (.aload_n 0, 1) := by decide +kernel
theorem dX12_fillsFits_130 : decode cX12_fillsFits 130 = .ok (.getfield 104, 3) := by decide +kernel
theorem dX12_fillsFits_133 : decode cX12_fillsFits 133 = .ok (.bipush 40, 2) := by decide +kernel
theorem dX12_fillsFits_135 : decode cX12_fillsFits 135 = .ok (.iaload, 1) := by decide +kernel
theorem dX12_fillsFits_136 : decode cX12_fillsFits 136 = .ok (.if_icmp .ge 51, 3) := by decide +kernel
theorem dX12_fillsFits_139 : decode cX12_fillsFits 139 = .ok (.iload 6, 2) := by decide +kernel
theorem dX12_fillsFits_141 : decode cX12_fillsFits 141 = .ok (.ifCond .eq 37, 3) := by decide +kernel
theorem dX12_fillsFits_144 : decode cX12_fillsFits 144 = .ok (.aload_n 0, 1) := by decide +kernel
theorem dX12_fillsFits_145 : decode cX12_fillsFits 145 = .ok (.getfield 125, 3) := by decide +kernel
theorem dX12_fillsFits_148 : decode cX12_fillsFits 148 = .ok (.iload 7, 2) := by decide +kernel
theorem dX12_fillsFits_150 : decode cX12_fillsFits 150 = .ok (.iaload, 1) := by decide +kernel
theorem dX12_fillsFits_151 : decode cX12_fillsFits 151 = .ok (.ifCond .lt 23, 3) := by decide +kernel
theorem dX12_fillsFits_154 : decode cX12_fillsFits 154 = .ok (.aload_n 0, 1) := by decide +kernel
theorem dX12_fillsFits_155 : decode cX12_fillsFits 155 = .ok (.getfield 125, 3) := by decide +kernel
theorem dX12_fillsFits_158 : decode cX12_fillsFits 158 = .ok (.iload 7, 2) := by decide +kernel
theorem dX12_fillsFits_160 : decode cX12_fillsFits 160 = .ok (.iaload, 1) := by decide +kernel
theorem dX12_fillsFits_161 : decode cX12_fillsFits 161 = .ok (.aload_n 0, 1) := by decide +kernel
theorem dX12_fillsFits_162 : decode cX12_fillsFits 162 = .ok (.getfield 104, 3) := by decide +kernel
theorem dX12_fillsFits_165 : decode cX12_fillsFits 165 = .ok (.bipush 20, 2) := by decide +kernel
theorem dX12_fillsFits_167 : decode cX12_fillsFits 167 = .ok (.iload 7, 2) := by decide +kernel
theorem dX12_fillsFits_169 : decode cX12_fillsFits 169 = .ok (.iadd, 1) := by decide +kernel
theorem dX12_fillsFits_170 : decode cX12_fillsFits 170 = .ok (.iaload, 1) := by decide +kernel
theorem dX12_fillsFits_171 : decode cX12_fillsFits 171 = .ok (.if_icmp .ne 7, 3) := by decide +kernel
theorem dX12_fillsFits_174 : decode cX12_fillsFits 174 = .ok (.iconst 1, 1) := by decide +kernel
theorem dX12_fillsFits_175 : decode cX12_fillsFits 175 = .ok (.goto 4, 3) := by decide +kernel
theorem dX12_fillsFits_178 : decode cX12_fillsFits 178 = .ok (.iconst 0, 1) := by decide +kernel
theorem dX12_fillsFits_179 : decode cX12_fillsFits 179 = .ok (.istore 6, 2) := by decide +kernel
theorem dX12_fillsFits_181 : decode cX12_fillsFits 181 = .ok (.iinc 7 1, 3) := by decide +kernel
theorem dX12_fillsFits_184 : decode cX12_fillsFits 184 = .ok (.goto (-57), 3) := by decide +kernel
theorem dX12_fillsFits_187 : decode cX12_fillsFits 187 = .ok (.iload 6, 2) := by decide +kernel
theorem dX12_fillsFits_189 : decode cX12_fillsFits 189 = .ok (.ifCond .ne 6, 3) := by decide +kernel
theorem dX12_fillsFits_192 : decode cX12_fillsFits 192 = .ok (.goto 96, 3) := by decide +kernel
theorem dX12_fillsFits_195 : decode cX12_fillsFits 195 = .ok (.iinc 4 1, 3) := by decide +kernel
theorem dX12_fillsFits_198 : decode cX12_fillsFits 198 = .ok (.aload_n 0, 1) := by decide +kernel
theorem dX12_fillsFits_199 : decode cX12_fillsFits 199 = .ok (.iload 5, 2) := by decide +kernel
theorem dX12_fillsFits_201 : decode cX12_fillsFits 201 = .ok (.iload_n 1, 1) := by decide +kernel
theorem dX12_fillsFits_202 : decode cX12_fillsFits 202 = .ok (.invokevirtual 374, 3) := by decide +kernel
theorem dX12_fillsFits_205 : decode cX12_fillsFits 205 = .ok (.iconst 0, 1) := by decide +kernel
theorem dX12_fillsFits_206 : decode cX12_fillsFits 206 = .ok (.istore 7, 2) := by decide +kernel
theorem dX12_fillsFits_208 : decode cX12_fillsFits 208 = .ok (.iload 7, 2) := by decide +kernel
theorem dX12_fillsFits_210 : decode cX12_fillsFits 210 = .ok (.aload_n 0, 1) := by decide +kernel
theorem dX12_fillsFits_211 : decode cX12_fillsFits 211 = .ok (.getfield 104, 3) := by decide +kernel
theorem dX12_fillsFits_214 : decode cX12_fillsFits 214 = .ok (.bipush 40, 2) := by decide +kernel
theorem dX12_fillsFits_216 : decode cX12_fillsFits 216 = .ok (.iaload, 1) := by decide +kernel
theorem dX12_fillsFits_217 : decode cX12_fillsFits 217 = .ok (.if_icmp .ge 71, 3) := by decide +kernel
theorem dX12_fillsFits_220 : decode cX12_fillsFits 220 = .ok (.aload_n 0, 1) := by decide +kernel
theorem dX12_fillsFits_221 : decode cX12_fillsFits 221 = .ok (.getfield 104, 3) := by decide +kernel
theorem dX12_fillsFits_224 : decode cX12_fillsFits 224 = .ok (.iload 7, 2) := by decide +kernel
theorem dX12_fillsFits_226 : decode cX12_fillsFits 226 = .ok (.iaload, 1) := by decide +kernel
theorem dX12_fillsFits_227 : decode cX12_fillsFits 227 = .ok (.aload_n 0, 1) := by decide +kernel
theorem dX12_fillsFits_228 : decode cX12_fillsFits 228 = .ok (.getfield 128, 3) := by decide +kernel
theorem dX12_fillsFits_231 : decode cX12_fillsFits 231 = .ok (.iload 7, 2) := by decide +kernel
theorem dX12_fillsFits_233 : decode cX12_fillsFits 233 = .ok (.iaload, 1) := by decide +kernel
theorem dX12_fillsFits_234 : decode cX12_fillsFits 234 = .ok (.if_icmp .ge 17, 3) := by decide +kernel
theorem dX12_fillsFits_237 : decode cX12_fillsFits 237 = .ok (.aload_n 0, 1) := by decide +kernel
theorem dX12_fillsFits_238 : decode cX12_fillsFits 238 = .ok (.getfield 128, 3) := by decide +kernel
theorem dX12_fillsFits_241 : decode cX12_fillsFits 241 = .ok (.iload 7, 2) := by decide +kernel
theorem dX12_fillsFits_243 : decode cX12_fillsFits 243 = .ok (.aload_n 0, 1) := by decide +kernel
theorem dX12_fillsFits_244 : decode cX12_fillsFits 244 = .ok (.getfield 104, 3) := by decide +kernel
theorem dX12_fillsFits_247 : decode cX12_fillsFits 247 = .ok (.iload 7, 2) := by decide +kernel
theorem dX12_fillsFits_249 : decode cX12_fillsFits 249 = .ok (.iaload, 1) := by decide +kernel
theorem dX12_fillsFits_250 : decode cX12_fillsFits 250 = .ok (.iastore, 1) := by decide +kernel
theorem dX12_fillsFits_251 : decode cX12_fillsFits 251 = .ok (.aload_n 0, 1) := by decide +kernel
theorem dX12_fillsFits_252 : decode cX12_fillsFits 252 = .ok (.getfield 104, 3) := by decide +kernel
theorem dX12_fillsFits_255 : decode cX12_fillsFits 255 = .ok (.iload 7, 2) := by decide +kernel
theorem dX12_fillsFits_257 : decode cX12_fillsFits 257 = .ok (.iaload, 1) := by decide +kernel
theorem dX12_fillsFits_258 : decode cX12_fillsFits 258 = .ok (.aload_n 0, 1) := by decide +kernel
theorem dX12_fillsFits_259 : decode cX12_fillsFits 259 = .ok (.getfield 131, 3) := by decide +kernel
theorem dX12_fillsFits_262 : decode cX12_fillsFits 262 = .ok (.iload 7, 2) := by decide +kernel
theorem dX12_fillsFits_264 : decode cX12_fillsFits 264 = .ok (.iaload, 1) := by decide +kernel
theorem dX12_fillsFits_265 : decode cX12_fillsFits 265 = .ok (.if_icmp .le 17, 3) := by decide +kernel
theorem dX12_fillsFits_268 : decode cX12_fillsFits 268 = .ok (.aload_n 0, 1) := by decide +kernel
theorem dX12_fillsFits_269 : decode cX12_fillsFits 269 = .ok (.getfield 131, 3) := by decide +kernel
theorem dX12_fillsFits_272 : decode cX12_fillsFits 272 = .ok (.iload 7, 2) := by decide +kernel
theorem dX12_fillsFits_274 : decode cX12_fillsFits 274 = .ok (.aload_n 0, 1) := by decide +kernel
theorem dX12_fillsFits_275 : decode cX12_fillsFits 275 = .ok (.getfield 104, 3) := by decide +kernel
theorem dX12_fillsFits_278 : decode cX12_fillsFits 278 = .ok (.iload 7, 2) := by decide +kernel
theorem dX12_fillsFits_280 : decode cX12_fillsFits 280 = .ok (.iaload, 1) := by decide +kernel
theorem dX12_fillsFits_281 : decode cX12_fillsFits 281 = .ok (.iastore, 1) := by decide +kernel
theorem dX12_fillsFits_282 : decode cX12_fillsFits 282 = .ok (.iinc 7 1, 3) := by decide +kernel
theorem dX12_fillsFits_285 : decode cX12_fillsFits 285 = .ok (.goto (-77), 3) := by decide +kernel
theorem dX12_fillsFits_288 : decode cX12_fillsFits 288 = .ok (.iinc 5 1, 3) := by decide +kernel
theorem dX12_fillsFits_291 : decode cX12_fillsFits 291 = .ok (.goto (-197), 3) := by decide +kernel
theorem dX12_fillsFits_294 : decode cX12_fillsFits 294 = .ok (.iload 4, 2) := by decide +kernel
theorem dX12_fillsFits_296 : decode cX12_fillsFits 296 = .ok (.ireturn, 1) := by decide +kernel
theorem dX12_fits_0 : decode cX12_fits 0 = .ok (.iload_n 1, 1) := by decide +kernel
theorem dX12_fits_1 : decode cX12_fits 1 = .ok (.iconst 1, 1) := by decide +kernel
theorem dX12_fits_2 : decode cX12_fits 2 = .ok (.bipush 20, 2) := by decide +kernel
theorem dX12_fits_4 : decode cX12_fits 4 = .ok (.invokestatic 276, 3) := by decide +kernel
theorem dX12_fits_7 : decode cX12_fits 7 = .ok (.ifCond .eq 15, 3) := by decide +kernel
theorem dX12_fits_10 : decode cX12_fits 10 = .ok (.iload_n 2, 1) := by decide +kernel
theorem dX12_fits_11 : decode cX12_fits 11 = .ok (.iconst 0, 1) := by decide +kernel
theorem dX12_fits_12 : decode cX12_fits 12 = .ok (.aload_n 0, 1) := by decide +kernel
theorem dX12_fits_13 : decode cX12_fits 13 = .ok (.getfield 233, 3) := by decide +kernel
theorem dX12_fits_16 : decode cX12_fits 16 = .ok (.invokestatic 276, 3) := by decide +kernel
theorem dX12_fits_19 : decode cX12_fits 19 = .ok (.ifCond .ne 7, 3) := by decide +kernel
theorem dX12_fits_22 : decode cX12_fits 22 = .ok (.iconst (-1), 1) := by decide +kernel
theorem dX12_fits_23 : decode cX12_fits 23 = .ok (.goto 9, 3) := by decide +kernel
theorem dX12_fits_26 : decode cX12_fits 26 = .ok (.aload_n 0, 1) := by decide +kernel
theorem dX12_fits_27 : decode cX12_fits 27 = .ok (.iload_n 1, 1) := by decide +kernel
theorem dX12_fits_28 : decode cX12_fits 28 = .ok (.iload_n 2, 1) := by decide +kernel
theorem dX12_fits_29 : decode cX12_fits 29 = .ok (.invokevirtual 377, 3) := by decide +kernel
theorem dX12_fits_32 : decode cX12_fits 32 = .ok (.ireturn, 1) := by decide +kernel
theorem dX12_span_0 : decode cX12_span 0 = .ok (.iload_n 1, 1) := by decide +kernel
theorem dX12_span_1 : decode cX12_span 1 = .ok (.iconst 1, 1) := by decide +kernel
theorem dX12_span_2 : decode cX12_span 2 = .ok (.bipush 20, 2) := by decide +kernel
theorem dX12_span_4 : decode cX12_span 4 = .ok (.invokestatic 276, 3) := by decide +kernel
theorem dX12_span_7 : decode cX12_span 7 = .ok (.ifCond .eq 23, 3) := by decide +kernel
theorem dX12_span_10 : decode cX12_span 10 = .ok (.iload_n 2, 1) := by decide +kernel
theorem dX12_span_11 : decode cX12_span 11 = .ok (.iconst 0, 1) := by decide +kernel
theorem dX12_span_12 : decode cX12_span 12 = .ok (.aload_n 0, 1) := by decide +kernel
theorem dX12_span_13 : decode cX12_span 13 = .ok (.getfield 233, 3) := by decide +kernel
theorem dX12_span_16 : decode cX12_span 16 = .ok (.invokestatic 276, 3) := by decide +kernel
theorem dX12_span_19 : decode cX12_span 19 = .ok (.ifCond .eq 11, 3) := by decide +kernel
theorem dX12_span_22 : decode cX12_span 22 = .ok (.aload_n 0, 1) := by decide +kernel
theorem dX12_span_23 : decode cX12_span 23 = .ok (.iload_n 3, 1) := by decide +kernel
theorem dX12_span_24 : decode cX12_span 24 = .ok (.invokevirtual 325, 3) := by decide +kernel
theorem dX12_span_27 : decode cX12_span 27 = .ok (.ifCond .ne 5, 3) := by decide +kernel
theorem dX12_span_30 : decode cX12_span 30 = .ok (.iconst (-1), 1) := by decide +kernel
theorem dX12_span_31 : decode cX12_span 31 = .ok (.ireturn, 1) := by decide +kernel
theorem dX12_span_32 : decode cX12_span 32 = .ok (.aload_n 0, 1) := by decide +kernel
theorem dX12_span_33 : decode cX12_span 33 = .ok (.iload_n 1, 1) := by decide +kernel
theorem dX12_span_34 : decode cX12_span 34 = .ok (.iload_n 2, 1) := by decide +kernel
theorem dX12_span_35 : decode cX12_span 35 = .ok (.invokevirtual 377, 3) := by decide +kernel
theorem dX12_span_38 : decode cX12_span 38 = .ok (.iconst 1, 1) := by decide +kernel
theorem dX12_span_39 : decode cX12_span 39 = .ok (.if_icmp .ge 8, 3) := by decide +kernel
theorem dX12_span_42 : decode cX12_span 42 = .ok (.bipush (-2), 2) := by decide +kernel
theorem dX12_span_44 : decode cX12_span 44 = .ok (.goto 19, 3) := by decide +kernel
theorem dX12_span_47 : decode cX12_span 47 = .ok (.bipush 100, 2) := by decide +kernel
theorem dX12_span_49 : decode cX12_span 49 = .ok (.aload_n 0, 1) := by decide +kernel
theorem dX12_span_50 : decode cX12_span 50 = .ok (.getfield 128, 3) := by decide +kernel
theorem dX12_span_53 : decode cX12_span 53 = .ok (.iload_n 3, 1) := by decide +kernel
theorem dX12_span_54 : decode cX12_span 54 = .ok (.iaload, 1) := by decide +kernel
theorem dX12_span_55 : decode cX12_span 55 = .ok (.imul, 1) := by decide +kernel
theorem dX12_span_56 : decode cX12_span 56 = .ok (.aload_n 0, 1) := by decide +kernel
theorem dX12_span_57 : decode cX12_span 57 = .ok (.getfield 131, 3) := by decide +kernel
theorem dX12_span_60 : decode cX12_span 60 = .ok (.iload_n 3, 1) := by decide +kernel
theorem dX12_span_61 : decode cX12_span 61 = .ok (.iaload, 1) := by decide +kernel
theorem dX12_span_62 : decode cX12_span 62 = .ok (.iadd, 1) := by decide +kernel
theorem dX12_span_63 : decode cX12_span 63 = .ok (.ireturn, 1) := by decide +kernel
theorem dX12_ago_0 : decode cX12_ago 0 = .ok (.iload_n 1, 1) := by decide +kernel
theorem dX12_ago_1 : decode cX12_ago 1 = .ok (.iconst 1, 1) := by decide +kernel
theorem dX12_ago_2 : decode cX12_ago 2 = .ok (.bipush 20, 2) := by decide +kernel
theorem dX12_ago_4 : decode cX12_ago 4 = .ok (.invokestatic 276, 3) := by decide +kernel
theorem dX12_ago_7 : decode cX12_ago 7 = .ok (.ifCond .ne 5, 3) := by decide +kernel
theorem dX12_ago_10 : decode cX12_ago 10 = .ok (.iconst (-1), 1) := by decide +kernel
theorem dX12_ago_11 : decode cX12_ago 11 = .ok (.ireturn, 1) := by decide +kernel
theorem dX12_ago_12 : decode cX12_ago 12 = .ok (.aload_n 0, 1) := by decide +kernel
theorem dX12_ago_13 : decode cX12_ago 13 = .ok (.iload_n 1, 1) := by decide +kernel
theorem dX12_ago_14 : decode cX12_ago 14 = .ok (.invokevirtual 371, 3) := by decide +kernel
theorem dX12_ago_17 : decode cX12_ago 17 = .ok (.istore_n 2, 1) := by decide +kernel
theorem dX12_ago_18 : decode cX12_ago 18 = .ok (.iload_n 2, 1) := by decide +kernel
theorem dX12_ago_19 : decode cX12_ago 19 = .ok (.ifCond .ge 6, 3) := by decide +kernel
theorem dX12_ago_22 : decode cX12_ago 22 = .ok (.bipush (-2), 2) := by decide +kernel
theorem dX12_ago_24 : decode cX12_ago 24 = .ok (.ireturn, 1) := by decide +kernel
theorem dX12_ago_25 : decode cX12_ago 25 = .ok (.iconst 0, 1) := by decide +kernel
theorem dX12_ago_26 : decode cX12_ago 26 = .ok (.istore_n 3, 1) := by decide +kernel
theorem dX12_ago_27 : decode cX12_ago 27 = .ok (.iconst 0, 1) := by decide +kernel
theorem dX12_ago_28 : decode cX12_ago 28 = .ok (.istore 4, 2) := by decide +kernel
theorem dX12_ago_30 : decode cX12_ago 30 = .ok (.iload 4, 2) := by decide +kernel
theorem dX12_ago_32 : decode cX12_ago 32 = .ok (.iload_n 2, 1) := by decide +kernel
theorem dX12_ago_33 : decode cX12_ago 33 = .ok (.if_icmp .ge 91, 3) := by decide +kernel
theorem dX12_ago_36 : decode cX12_ago 36 = .ok (.aload_n 0, 1) := by decide +kernel
theorem dX12_ago_37 : decode cX12_ago 37 = .ok (.iload 4, 2) := by decide +kernel
theorem dX12_ago_39 : decode cX12_ago 39 = .ok (.iload_n 1, 1) := by decide +kernel
theorem dX12_ago_40 : decode cX12_ago 40 = .ok (.invokevirtual 374, 3) := by decide +kernel
theorem dX12_ago_43 : decode cX12_ago 43 = .ok (.aload_n 0, 1) := by decide +kernel
theorem dX12_ago_44 : decode cX12_ago 44 = .ok (.aload_n 0, 1) := by decide +kernel
theorem dX12_ago_45 : decode cX12_ago 45 = .ok (.getfield 53, 3) := by decide +kernel
theorem dX12_ago_48 : decode cX12_ago 48 = .ok (.aload_n 0, 1) := by decide +kernel
theorem dX12_ago_49 : decode cX12_ago 49 = .ok (.getfield 212, 3) := by decide +kernel
theorem dX12_ago_52 : decode cX12_ago 52 = .ok (.baload, 1) := by decide +kernel
theorem dX12_ago_53 : decode cX12_ago 53 = .ok (.iconst 0, 1) := by decide +kernel
theorem dX12_ago_54 : decode cX12_ago 54 = .ok (.invokevirtual 315, 3) := by decide +kernel
theorem dX12_ago_57 : decode cX12_ago 57 = .ok (.iconst 1, 1) := by decide +kernel
theorem dX12_ago_58 : decode cX12_ago 58 = .ok (.istore 5, 2) := by decide +kernel
theorem dX12_ago_60 : decode cX12_ago 60 = .ok (.iconst 0, 1) := by decide +kernel
theorem dX12_ago_61 : decode cX12_ago 61 = .ok (.istore 6, 2) := by decide +kernel
theorem dX12_ago_63 : decode cX12_ago 63 = .ok (.iload 6, 2) := by decide +kernel
theorem dX12_ago_65 : decode cX12_ago 65 = .ok (.aload_n 0, 1) := by decide +kernel
theorem dX12_ago_66 : decode cX12_ago 66 = .ok (.getfield 104, 3) := by decide +kernel
theorem dX12_ago_69 : decode cX12_ago 69 = .ok (.bipush 40, 2) := by decide +kernel
theorem dX12_ago_71 : decode cX12_ago 71 = .ok (.iaload, 1) := by decide +kernel
theorem dX12_ago_72 : decode cX12_ago 72 = .ok (.if_icmp .ge 38, 3) := by decide +kernel
theorem dX12_ago_75 : decode cX12_ago 75 = .ok (.iload 5, 2) := by decide +kernel
theorem dX12_ago_77 : decode cX12_ago 77 = .ok (.ifCond .eq 24, 3) := by decide +kernel
theorem dX12_ago_80 : decode cX12_ago 80 = .ok (.aload_n 0, 1) := by decide +kernel
theorem dX12_ago_81 : decode cX12_ago 81 = .ok (.getfield 104, 3) := by decide +kernel
theorem dX12_ago_84 : decode cX12_ago 84 = .ok (.iload 6, 2) := by decide +kernel
theorem dX12_ago_86 : decode cX12_ago 86 = .ok (.iaload, 1) := by decide +kernel
theorem dX12_ago_87 : decode cX12_ago 87 = .ok (.aload_n 0, 1) := by decide +kernel
theorem dX12_ago_88 : decode cX12_ago 88 = .ok (.getfield 101, 3) := by decide +kernel
theorem dX12_ago_91 : decode cX12_ago 91 = .ok (.iload 6, 2) := by decide +kernel
theorem dX12_ago_93 : decode cX12_ago 93 = .ok (.iaload, 1) := by decide +kernel
theorem dX12_ago_94 : decode cX12_ago 94 = .ok (.if_icmp .ne 7, 3) := by decide +kernel
theorem dX12_ago_97 : decode cX12_ago 97 = .ok (.iconst 1, 1) := by decide +kernel
theorem dX12_ago_98 : decode cX12_ago 98 = .ok (.goto 4, 3) := by decide +kernel
theorem dX12_ago_101 : decode cX12_ago 101 = .ok (.iconst 0, 1) := by decide +kernel
theorem dX12_ago_102 : decode cX12_ago 102 = .ok (.istore 5, 2) := by decide +kernel
theorem dX12_ago_104 : decode cX12_ago 104 = .ok (.iinc 6 1, 3) := by decide +kernel
theorem dX12_ago_107 : decode cX12_ago 107 = .ok (.goto (-44), 3) := by decide +kernel
theorem dX12_ago_110 : decode cX12_ago 110 = .ok (.iload 5, 2) := by decide +kernel
theorem dX12_ago_112 : decode cX12_ago 112 = .ok (.ifCond .eq 6, 3) := by decide +kernel
theorem dX12_ago_115 : decode cX12_ago 115 = .ok (.iinc 3 1, 3) := by decide +kernel
theorem dX12_ago_118 : decode cX12_ago 118 = .ok (.iinc 4 1, 3) := by decide +kernel
theorem dX12_ago_121 : decode cX12_ago 121 = .ok (.goto (-91), 3) := by decide +kernel
theorem dX12_ago_124 : decode cX12_ago 124 = .ok (.iload_n 3, 1) := by decide +kernel
theorem dX12_ago_125 : decode cX12_ago 125 = .ok (.ireturn, 1) := by decide +kernel
theorem dX12_hold_0 : decode cX12_hold 0 = .ok (.iload_n 1, 1) := by decide +kernel
theorem dX12_hold_1 : decode cX12_hold 1 = .ok (.iconst 0, 1) := by decide +kernel
theorem dX12_hold_2 : decode cX12_hold 2 = .ok (.iconst 2, 1) := by decide +kernel
theorem dX12_hold_3 : decode cX12_hold 3 = .ok (.invokestatic 276, 3) := by decide +kernel
theorem dX12_hold_6 : decode cX12_hold 6 = .ok (.ifCond .ne 5, 3) := by decide +kernel
theorem dX12_hold_9 : decode cX12_hold 9 = .ok (.iconst 0, 1) := by decide +kernel
theorem dX12_hold_10 : decode cX12_hold 10 = .ok (.ireturn, 1) := by decide +kernel
theorem dX12_hold_11 : decode cX12_hold 11 = .ok (.aload_n 0, 1) := by decide +kernel
theorem dX12_hold_12 : decode cX12_hold 12 = .ok (.getfield 134, 3) := by decide +kernel
theorem dX12_hold_15 : decode cX12_hold 15 = .ok (.iload_n 1, 1) := by decide +kernel
theorem dX12_hold_16 : decode cX12_hold 16 = .ok (.iconst 1, 1) := by decide +kernel
theorem dX12_hold_17 : decode cX12_hold 17 = .ok (.bastore, 1) := by decide +kernel
theorem dX12_hold_18 : decode cX12_hold 18 = .ok (.iconst 0, 1) := by decide +kernel
theorem dX12_hold_19 : decode cX12_hold 19 = .ok (.istore_n 2, 1) := by decide +kernel
theorem dX12_hold_20 : decode cX12_hold 20 = .ok (.iload_n 2, 1) := by decide +kernel
theorem dX12_hold_21 : decode cX12_hold 21 = .ok (.bipush 60, 2) := by decide +kernel
theorem dX12_hold_23 : decode cX12_hold 23 = .ok (.if_icmp .ge 26, 3) := by decide +kernel
theorem dX12_hold_26 : decode cX12_hold 26 = .ok (.aload_n 0, 1) := by decide +kernel
theorem dX12_hold_27 : decode cX12_hold 27 = .ok (.getfield 137, 3) := by decide +kernel
theorem dX12_hold_30 : decode cX12_hold 30 = .ok (.bipush 60, 2) := by decide +kernel
theorem dX12_hold_32 : decode cX12_hold 32 = .ok (.iload_n 1, 1) := by decide +kernel
theorem dX12_hold_33 : decode cX12_hold 33 = .ok (.imul, 1) := by decide +kernel
theorem dX12_hold_34 : decode cX12_hold 34 = .ok (.iload_n 2, 1) := by decide +kernel
theorem dX12_hold_35 : decode cX12_hold 35 = .ok (.iadd, 1) := by decide +kernel
theorem dX12_hold_36 : decode cX12_hold 36 = .ok (.aload_n 0, 1) := by decide +kernel
theorem dX12_hold_37 : decode cX12_hold 37 = .ok (.getfield 101, 3) := by decide +kernel
theorem dX12_hold_40 : decode cX12_hold 40 = .ok (.iload_n 2, 1) := by decide +kernel
theorem dX12_hold_41 : decode cX12_hold 41 = .ok (.iaload, 1) := by decide +kernel
theorem dX12_hold_42 : decode cX12_hold 42 = .ok (.iastore, 1) := by decide +kernel
theorem dX12_hold_43 : decode cX12_hold 43 = .ok (.iinc 2 1, 3) := by decide +kernel
theorem dX12_hold_46 : decode cX12_hold 46 = .ok (.goto (-26), 3) := by decide +kernel
theorem dX12_hold_49 : decode cX12_hold 49 = .ok (.iconst 1, 1) := by decide +kernel
theorem dX12_hold_50 : decode cX12_hold 50 = .ok (.ireturn, 1) := by decide +kernel
theorem dX12_restore_0 : decode cX12_restore 0 = .ok (.iload_n 1, 1) := by decide +kernel
theorem dX12_restore_1 : decode cX12_restore 1 = .ok (.iconst 0, 1) := by decide +kernel
theorem dX12_restore_2 : decode cX12_restore 2 = .ok (.iconst 2, 1) := by decide +kernel
theorem dX12_restore_3 : decode cX12_restore 3 = .ok (.invokestatic 276, 3) := by decide +kernel
theorem dX12_restore_6 : decode cX12_restore 6 = .ok (.ifCond .eq 12, 3) := by decide +kernel
theorem dX12_restore_9 : decode cX12_restore 9 = .ok (.aload_n 0, 1) := by decide +kernel
theorem dX12_restore_10 : decode cX12_restore 10 = .ok (.getfield 134, 3) := by decide +kernel
theorem dX12_restore_13 : decode cX12_restore 13 = .ok (.iload_n 1, 1) := by decide +kernel
theorem dX12_restore_14 : decode cX12_restore 14 = .ok (.baload, 1) := by decide +kernel
theorem dX12_restore_15 : decode cX12_restore 15 = .ok (.ifCond .ne 5, 3) := by decide +kernel
theorem dX12_restore_18 : decode cX12_restore 18 = .ok (.iconst 0, 1) := by decide +kernel
theorem dX12_restore_19 : decode cX12_restore 19 = .ok (.ireturn, 1) := by decide +kernel
theorem dX12_restore_20 : decode cX12_restore 20 = .ok (.iconst 0, 1) := by decide +kernel
theorem dX12_restore_21 : decode cX12_restore 21 = .ok (.istore_n 2, 1) := by decide +kernel
theorem dX12_restore_22 : decode cX12_restore 22 = .ok (.iload_n 2, 1) := by decide +kernel
theorem dX12_restore_23 : decode cX12_restore 23 = .ok (.bipush 60, 2) := by decide +kernel
theorem dX12_restore_25 : decode cX12_restore 25 = .ok (.if_icmp .ge 26, 3) := by decide +kernel
theorem dX12_restore_28 : decode cX12_restore 28 = .ok (.aload_n 0, 1) := by decide +kernel
theorem dX12_restore_29 : decode cX12_restore 29 = .ok (.getfield 101, 3) := by decide +kernel
theorem dX12_restore_32 : decode cX12_restore 32 = .ok (.iload_n 2, 1) := by decide +kernel
theorem dX12_restore_33 : decode cX12_restore 33 = .ok (.aload_n 0, 1) := by decide +kernel
theorem dX12_restore_34 : decode cX12_restore 34 = .ok (.getfield 137, 3) := by decide +kernel
theorem dX12_restore_37 : decode cX12_restore 37 = .ok (.bipush 60, 2) := by decide +kernel
theorem dX12_restore_39 : decode cX12_restore 39 = .ok (.iload_n 1, 1) := by decide +kernel
theorem dX12_restore_40 : decode cX12_restore 40 = .ok (.imul, 1) := by decide +kernel
theorem dX12_restore_41 : decode cX12_restore 41 = .ok (.iload_n 2, 1) := by decide +kernel
theorem dX12_restore_42 : decode cX12_restore 42 = .ok (.iadd, 1) := by decide +kernel
theorem dX12_restore_43 : decode cX12_restore 43 = .ok (.iaload, 1) := by decide +kernel
theorem dX12_restore_44 : decode cX12_restore 44 = .ok (.iastore, 1) := by decide +kernel
theorem dX12_restore_45 : decode cX12_restore 45 = .ok (.iinc 2 1, 3) := by decide +kernel
theorem dX12_restore_48 : decode cX12_restore 48 = .ok (.goto (-26), 3) := by decide +kernel
theorem dX12_restore_51 : decode cX12_restore 51 = .ok (.aload_n 0, 1) := by decide +kernel
theorem dX12_restore_52 : decode cX12_restore 52 = .ok (.iconst 0, 1) := by decide +kernel
theorem dX12_restore_53 : decode cX12_restore 53 = .ok (.putfield 230, 3) := by decide +kernel
theorem dX12_restore_56 : decode cX12_restore 56 = .ok (.iconst 1, 1) := by decide +kernel
theorem dX12_restore_57 : decode cX12_restore 57 = .ok (.ireturn, 1) := by decide +kernel
theorem dX12_count_0 : decode cX12_count 0 = .ok (.iload_n 1, 1) := by decide +kernel
theorem dX12_count_1 : decode cX12_count 1 = .ok (.tableswitch 247 0 12 #[67, 75, 93, 111, 121, 131, 139, 147, 179, 187, 192, 197, 202], 67) := by decide +kernel
theorem dX12_count_68 : decode cX12_count 68 = .ok (.aload_n 0, 1) := by decide +kernel
theorem dX12_count_69 : decode cX12_count 69 = .ok (.getfield 101, 3) := by decide +kernel
theorem dX12_count_72 : decode cX12_count 72 = .ok (.bipush 40, 2) := by decide +kernel
theorem dX12_count_74 : decode cX12_count 74 = .ok (.iaload, 1) := by decide +kernel
theorem dX12_count_75 : decode cX12_count 75 = .ok (.ireturn, 1) := by decide +kernel
theorem dX12_count_76 : decode cX12_count 76 = .ok (.aload_n 0, 1) := by decide +kernel
theorem dX12_count_77 : decode cX12_count 77 = .ok (.getfield 49, 3) := by decide +kernel
theorem dX12_count_80 : decode cX12_count 80 = .ok (.aload_n 0, 1) := by decide +kernel
theorem dX12_count_81 : decode cX12_count 81 = .ok (.getfield 212, 3) := by decide +kernel
theorem dX12_count_84 : decode cX12_count 84 = .ok (.baload, 1) := by decide +kernel
theorem dX12_count_85 : decode cX12_count 85 = .ok (.ifCond .eq 7, 3) := by decide +kernel
theorem dX12_count_88 : decode cX12_count 88 = .ok (.iconst 1, 1) := by decide +kernel
theorem dX12_count_89 : decode cX12_count 89 = .ok (.goto 4, 3) := by decide +kernel
theorem dX12_count_92 : decode cX12_count 92 = .ok (.iconst 0, 1) := by decide +kernel
theorem dX12_count_93 : decode cX12_count 93 = .ok (.ireturn, 1) := by decide +kernel
theorem dX12_count_94 : decode cX12_count 94 = .ok (.aload_n 0, 1) := by decide +kernel
theorem dX12_count_95 : decode cX12_count 95 = .ok (.getfield 53, 3) := by decide +kernel
theorem dX12_count_98 : decode cX12_count 98 = .ok (.aload_n 0, 1) := by decide +kernel
theorem dX12_count_99 : decode cX12_count 99 = .ok (.getfield 212, 3) := by decide +kernel
theorem dX12_count_102 : decode cX12_count 102 = .ok (.baload, 1) := by decide +kernel
theorem dX12_count_103 : decode cX12_count 103 = .ok (.ifCond .eq 7, 3) := by decide +kernel
theorem dX12_count_106 : decode cX12_count 106 = .ok (.iconst 1, 1) := by decide +kernel
theorem dX12_count_107 : decode cX12_count 107 = .ok (.goto 4, 3) := by decide +kernel
theorem dX12_count_110 : decode cX12_count 110 = .ok (.iconst 0, 1) := by decide +kernel
theorem dX12_count_111 : decode cX12_count 111 = .ok (.ireturn, 1) := by decide +kernel
theorem dX12_count_112 : decode cX12_count 112 = .ok (.aload_n 0, 1) := by decide +kernel
theorem dX12_count_113 : decode cX12_count 113 = .ok (.getfield 56, 3) := by decide +kernel
theorem dX12_count_116 : decode cX12_count 116 = .ok (.aload_n 0, 1) := by decide +kernel
theorem dX12_count_117 : decode cX12_count 117 = .ok (.getfield 212, 3) := by decide +kernel
theorem dX12_count_120 : decode cX12_count 120 = .ok (.iaload, 1) := by decide +kernel
theorem dX12_count_121 : decode cX12_count 121 = .ok (.ireturn, 1) := by decide +kernel
theorem dX12_count_122 : decode cX12_count 122 = .ok (.aload_n 0, 1) := by decide +kernel
theorem dX12_count_123 : decode cX12_count 123 = .ok (.getfield 59, 3) := by decide +kernel
theorem dX12_count_126 : decode cX12_count 126 = .ok (.aload_n 0, 1) := by decide +kernel
theorem dX12_count_127 : decode cX12_count 127 = .ok (.getfield 212, 3) := by decide +kernel
theorem dX12_count_130 : decode cX12_count 130 = .ok (.iaload, 1) := by decide +kernel
theorem dX12_count_131 : decode cX12_count 131 = .ok (.ireturn, 1) := by decide +kernel
theorem dX12_count_132 : decode cX12_count 132 = .ok (.aload_n 0, 1) := by decide +kernel
theorem dX12_count_133 : decode cX12_count 133 = .ok (.getfield 101, 3) := by decide +kernel
theorem dX12_count_136 : decode cX12_count 136 = .ok (.bipush 41, 2) := by decide +kernel
theorem dX12_count_138 : decode cX12_count 138 = .ok (.iaload, 1) := by decide +kernel
theorem dX12_count_139 : decode cX12_count 139 = .ok (.ireturn, 1) := by decide +kernel
theorem dX12_count_140 : decode cX12_count 140 = .ok (.aload_n 0, 1) := by decide +kernel
theorem dX12_count_141 : decode cX12_count 141 = .ok (.getfield 101, 3) := by decide +kernel
theorem dX12_count_144 : decode cX12_count 144 = .ok (.bipush 42, 2) := by decide +kernel
theorem dX12_count_146 : decode cX12_count 146 = .ok (.iaload, 1) := by decide +kernel
theorem dX12_count_147 : decode cX12_count 147 = .ok (.ireturn, 1) := by decide +kernel
theorem dX12_count_148 : decode cX12_count 148 = .ok (.iconst 0, 1) := by decide +kernel
theorem dX12_count_149 : decode cX12_count 149 = .ok (.istore_n 2, 1) := by decide +kernel
theorem dX12_count_150 : decode cX12_count 150 = .ok (.iconst 0, 1) := by decide +kernel
theorem dX12_count_151 : decode cX12_count 151 = .ok (.istore_n 3, 1) := by decide +kernel
theorem dX12_count_152 : decode cX12_count 152 = .ok (.iload_n 3, 1) := by decide +kernel
theorem dX12_count_153 : decode cX12_count 153 = .ok (.aload_n 0, 1) := by decide +kernel
theorem dX12_count_154 : decode cX12_count 154 = .ok (.getfield 101, 3) := by decide +kernel
theorem dX12_count_157 : decode cX12_count 157 = .ok (.bipush 40, 2) := by decide +kernel
theorem dX12_count_159 : decode cX12_count 159 = .ok (.iaload, 1) := by decide +kernel
theorem dX12_count_160 : decode cX12_count 160 = .ok (.if_icmp .ge 18, 3) := by decide +kernel
theorem dX12_count_163 : decode cX12_count 163 = .ok (.iload_n 2, 1) := by decide +kernel
theorem dX12_count_164 : decode cX12_count 164 = .ok (.aload_n 0, 1) := by decide +kernel
theorem dX12_count_165 : decode cX12_count 165 = .ok (.getfield 101, 3) := by decide +kernel
theorem dX12_count_168 : decode cX12_count 168 = .ok (.iload_n 3, 1) := by decide +kernel
theorem dX12_count_169 : decode cX12_count 169 = .ok (.iaload, 1) := by decide +kernel
theorem dX12_count_170 : decode cX12_count 170 = .ok (.iadd, 1) := by decide +kernel
theorem dX12_count_171 : decode cX12_count 171 = .ok (.istore_n 2, 1) := by decide +kernel
theorem dX12_count_172 : decode cX12_count 172 = .ok (.iinc 3 1, 3) := by decide +kernel
theorem dX12_count_175 : decode cX12_count 175 = .ok (.goto (-23), 3) := by decide +kernel
theorem dX12_count_178 : decode cX12_count 178 = .ok (.iload_n 2, 1) := by decide +kernel
theorem dX12_count_179 : decode cX12_count 179 = .ok (.ireturn, 1) := by decide +kernel
theorem dX12_count_180 : decode cX12_count 180 = .ok (.aload_n 0, 1) := by decide +kernel
theorem dX12_count_181 : decode cX12_count 181 = .ok (.getfield 101, 3) := by decide +kernel
theorem dX12_count_184 : decode cX12_count 184 = .ok (.bipush 43, 2) := by decide +kernel
theorem dX12_count_186 : decode cX12_count 186 = .ok (.iaload, 1) := by decide +kernel
theorem dX12_count_187 : decode cX12_count 187 = .ok (.ireturn, 1) := by decide +kernel
theorem dX12_count_188 : decode cX12_count 188 = .ok (.aload_n 0, 1) := by decide +kernel
theorem dX12_count_189 : decode cX12_count 189 = .ok (.getfield 144, 3) := by decide +kernel
theorem dX12_count_192 : decode cX12_count 192 = .ok (.ireturn, 1) := by decide +kernel
theorem dX12_count_193 : decode cX12_count 193 = .ok (.aload_n 0, 1) := by decide +kernel
theorem dX12_count_194 : decode cX12_count 194 = .ok (.getfield 230, 3) := by decide +kernel
theorem dX12_count_197 : decode cX12_count 197 = .ok (.ireturn, 1) := by decide +kernel
theorem dX12_count_198 : decode cX12_count 198 = .ok (.aload_n 0, 1) := by decide +kernel
theorem dX12_count_199 : decode cX12_count 199 = .ok (.getfield 233, 3) := by decide +kernel
theorem dX12_count_202 : decode cX12_count 202 = .ok (.ireturn, 1) := by decide +kernel
theorem dX12_count_203 : decode cX12_count 203 = .ok (.aload_n 0, 1) := by decide +kernel
theorem dX12_count_204 : decode cX12_count 204 = .ok (.getfield 134, 3) := by decide +kernel
theorem dX12_count_207 : decode cX12_count 207 = .ok (.iconst 0, 1) := by decide +kernel
theorem dX12_count_208 : decode cX12_count 208 = .ok (.baload, 1) := by decide +kernel
theorem dX12_count_209 : decode cX12_count 209 = .ok (.ifCond .eq 7, 3) := by decide +kernel
theorem dX12_count_212 : decode cX12_count 212 = .ok (.iconst 1, 1) := by decide +kernel
theorem dX12_count_213 : decode cX12_count 213 = .ok (.goto 4, 3) := by decide +kernel
theorem dX12_count_216 : decode cX12_count 216 = .ok (.iconst 0, 1) := by decide +kernel
theorem dX12_count_217 : decode cX12_count 217 = .ok (.aload_n 0, 1) := by decide +kernel
theorem dX12_count_218 : decode cX12_count 218 = .ok (.getfield 134, 3) := by decide +kernel
theorem dX12_count_221 : decode cX12_count 221 = .ok (.iconst 1, 1) := by decide +kernel
theorem dX12_count_222 : decode cX12_count 222 = .ok (.baload, 1) := by decide +kernel
theorem dX12_count_223 : decode cX12_count 223 = .ok (.ifCond .eq 7, 3) := by decide +kernel
theorem dX12_count_226 : decode cX12_count 226 = .ok (.iconst 1, 1) := by decide +kernel
theorem dX12_count_227 : decode cX12_count 227 = .ok (.goto 4, 3) := by decide +kernel
theorem dX12_count_230 : decode cX12_count 230 = .ok (.iconst 0, 1) := by decide +kernel
theorem dX12_count_231 : decode cX12_count 231 = .ok (.iadd, 1) := by decide +kernel
theorem dX12_count_232 : decode cX12_count 232 = .ok (.aload_n 0, 1) := by decide +kernel
theorem dX12_count_233 : decode cX12_count 233 = .ok (.getfield 134, 3) := by decide +kernel
theorem dX12_count_236 : decode cX12_count 236 = .ok (.iconst 2, 1) := by decide +kernel
theorem dX12_count_237 : decode cX12_count 237 = .ok (.baload, 1) := by decide +kernel
theorem dX12_count_238 : decode cX12_count 238 = .ok (.ifCond .eq 7, 3) := by decide +kernel
theorem dX12_count_241 : decode cX12_count 241 = .ok (.iconst 1, 1) := by decide +kernel
theorem dX12_count_242 : decode cX12_count 242 = .ok (.goto 4, 3) := by decide +kernel
theorem dX12_count_245 : decode cX12_count 245 = .ok (.iconst 0, 1) := by decide +kernel
theorem dX12_count_246 : decode cX12_count 246 = .ok (.iadd, 1) := by decide +kernel
theorem dX12_count_247 : decode cX12_count 247 = .ok (.ireturn, 1) := by decide +kernel
theorem dX12_count_248 : decode cX12_count 248 = .ok (.iconst (-1), 1) := by decide +kernel
theorem dX12_count_249 : decode cX12_count 249 = .ok (.ireturn, 1) := by decide +kernel
theorem dJ9_abs_0f7a4_0 : decode cJ9_abs_0f7a4 0 = .ok (.iload_n 0, 1) := by decide +kernel
theorem dJ9_abs_0f7a4_1 : decode cJ9_abs_0f7a4 1 = .ok (.ifCond .ge 8, 3) := by decide +kernel
theorem dJ9_abs_0f7a4_4 : decode cJ9_abs_0f7a4 4 = .ok (.iload_n 0, 1) := by decide +kernel
theorem dJ9_abs_0f7a4_5 : decode cJ9_abs_0f7a4 5 = .ok (.ineg, 1) := by decide +kernel
theorem dJ9_abs_0f7a4_6 : decode cJ9_abs_0f7a4 6 = .ok (.goto 4, 3) := by decide +kernel
theorem dJ9_abs_0f7a4_9 : decode cJ9_abs_0f7a4 9 = .ok (.iload_n 0, 1) := by decide +kernel
theorem dJ9_abs_0f7a4_10 : decode cJ9_abs_0f7a4 10 = .ok (.ireturn, 1) := by decide +kernel
theorem dJ9_max_7cf53_0 : decode cJ9_max_7cf53 0 = .ok (.iload_n 0, 1) := by decide +kernel
theorem dJ9_max_7cf53_1 : decode cJ9_max_7cf53 1 = .ok (.iload_n 1, 1) := by decide +kernel
theorem dJ9_max_7cf53_2 : decode cJ9_max_7cf53 2 = .ok (.if_icmp .lt 7, 3) := by decide +kernel
theorem dJ9_max_7cf53_5 : decode cJ9_max_7cf53 5 = .ok (.iload_n 0, 1) := by decide +kernel
theorem dJ9_max_7cf53_6 : decode cJ9_max_7cf53 6 = .ok (.goto 4, 3) := by decide +kernel
theorem dJ9_max_7cf53_9 : decode cJ9_max_7cf53 9 = .ok (.iload_n 1, 1) := by decide +kernel
theorem dJ9_max_7cf53_10 : decode cJ9_max_7cf53 10 = .ok (.ireturn, 1) := by decide +kernel
theorem dJ9_min_7cf53_0 : decode cJ9_min_7cf53 0 = .ok (.iload_n 0, 1) := by decide +kernel
theorem dJ9_min_7cf53_1 : decode cJ9_min_7cf53 1 = .ok (.iload_n 1, 1) := by decide +kernel
theorem dJ9_min_7cf53_2 : decode cJ9_min_7cf53 2 = .ok (.if_icmp .gt 7, 3) := by decide +kernel
theorem dJ9_min_7cf53_5 : decode cJ9_min_7cf53 5 = .ok (.iload_n 0, 1) := by decide +kernel
theorem dJ9_min_7cf53_6 : decode cJ9_min_7cf53 6 = .ok (.goto 4, 3) := by decide +kernel
theorem dJ9_min_7cf53_9 : decode cJ9_min_7cf53 9 = .ok (.iload_n 1, 1) := by decide +kernel
theorem dJ9_min_7cf53_10 : decode cJ9_min_7cf53 10 = .ok (.ireturn, 1) := by decide +kernel
theorem dJ0_length_8abf5_0 : decode cJ0_length_8abf5 0 = .ok (.aload_n 0, 1) := by decide +kernel
theorem dJ0_length_8abf5_1 : decode cJ0_length_8abf5 1 = .ok (.getfield 9, 3) := by decide +kernel
theorem dJ0_length_8abf5_4 : decode cJ0_length_8abf5 4 = .ok (.arraylength, 1) := by decide +kernel
theorem dJ0_length_8abf5_5 : decode cJ0_length_8abf5 5 = .ok (.aload_n 0, 1) := by decide +kernel
theorem dJ0_length_8abf5_6 : decode cJ0_length_8abf5 6 = .ok (.invokevirtual 335, 3) := by decide +kernel
theorem dJ0_length_8abf5_9 : decode cJ0_length_8abf5 9 = .ok (.ishr, 1) := by decide +kernel
theorem dJ0_length_8abf5_10 : decode cJ0_length_8abf5 10 = .ok (.ireturn, 1) := by decide +kernel
theorem dJ0_charAt_5068e_0 : decode cJ0_charAt_5068e 0 = .ok (.aload_n 0, 1) := by decide +kernel
theorem dJ0_charAt_5068e_1 : decode cJ0_charAt_5068e 1 = .ok (.invokevirtual 492, 3) := by decide +kernel
theorem dJ0_charAt_5068e_4 : decode cJ0_charAt_5068e 4 = .ok (.ifCond .eq 12, 3) := by decide +kernel
theorem dJ0_charAt_5068e_7 : decode cJ0_charAt_5068e 7 = .ok (.aload_n 0, 1) := by decide +kernel
theorem dJ0_charAt_5068e_8 : decode cJ0_charAt_5068e 8 = .ok (.getfield 9, 3) := by decide +kernel
theorem dJ0_charAt_5068e_11 : decode cJ0_charAt_5068e 11 = .ok (.iload_n 1, 1) := by decide +kernel
theorem dJ0_charAt_5068e_12 : decode cJ0_charAt_5068e 12 = .ok (.invokestatic 495, 3) := by decide +kernel
theorem dJ0_charAt_5068e_15 : decode cJ0_charAt_5068e 15 = .ok (.ireturn, 1) := by decide +kernel
theorem dJ0_charAt_5068e_16 : decode cJ0_charAt_5068e 16 = .ok (.aload_n 0, 1) := by decide +kernel
theorem dJ0_charAt_5068e_17 : decode cJ0_charAt_5068e 17 = .ok (.getfield 9, 3) := by decide +kernel
theorem dJ0_charAt_5068e_20 : decode cJ0_charAt_5068e 20 = .ok (.iload_n 1, 1) := by decide +kernel
theorem dJ0_charAt_5068e_21 : decode cJ0_charAt_5068e 21 = .ok (.invokestatic 498, 3) := by decide +kernel
theorem dJ0_charAt_5068e_24 : decode cJ0_charAt_5068e 24 = .ok (.ireturn, 1) := by decide +kernel
theorem dJ0_coder_7d493_0 : decode cJ0_coder_7d493 0 = .ok (.getstatic 38, 3) := by decide +kernel
theorem dJ0_coder_7d493_3 : decode cJ0_coder_7d493 3 = .ok (.ifCond .eq 10, 3) := by decide +kernel
theorem dJ0_coder_7d493_6 : decode cJ0_coder_7d493 6 = .ok (.aload_n 0, 1) := by decide +kernel
theorem dJ0_coder_7d493_7 : decode cJ0_coder_7d493 7 = .ok (.getfield 15, 3) := by decide +kernel
theorem dJ0_coder_7d493_10 : decode cJ0_coder_7d493 10 = .ok (.goto 4, 3) := by decide +kernel
theorem dJ0_coder_7d493_13 : decode cJ0_coder_7d493 13 = .ok (.iconst 1, 1) := by decide +kernel
theorem dJ0_coder_7d493_14 : decode cJ0_coder_7d493 14 = .ok (.ireturn, 1) := by decide +kernel
theorem dJ0_isLatin1_aae02_0 : decode cJ0_isLatin1_aae02 0 = .ok (.getstatic 38, 3) := by decide +kernel
theorem dJ0_isLatin1_aae02_3 : decode cJ0_isLatin1_aae02 3 = .ok (.ifCond .eq 14, 3) := by decide +kernel
theorem dJ0_isLatin1_aae02_6 : decode cJ0_isLatin1_aae02 6 = .ok (.aload_n 0, 1) := by decide +kernel
theorem dJ0_isLatin1_aae02_7 : decode cJ0_isLatin1_aae02 7 = .ok (.getfield 15, 3) := by decide +kernel
theorem dJ0_isLatin1_aae02_10 : decode cJ0_isLatin1_aae02 10 = .ok (.ifCond .ne 7, 3) := by decide +kernel
theorem dJ0_isLatin1_aae02_13 : decode cJ0_isLatin1_aae02 13 = .ok (.iconst 1, 1) := by decide +kernel
theorem dJ0_isLatin1_aae02_14 : decode cJ0_isLatin1_aae02 14 = .ok (.goto 4, 3) := by decide +kernel
theorem dJ0_isLatin1_aae02_17 : decode cJ0_isLatin1_aae02 17 = .ok (.iconst 0, 1) := by decide +kernel
theorem dJ0_isLatin1_aae02_18 : decode cJ0_isLatin1_aae02 18 = .ok (.ireturn, 1) := by decide +kernel
theorem dJ0_checkIndex_df160_0 : decode cJ0_checkIndex_df160 0 = .ok (.iload_n 0, 1) := by decide +kernel
theorem dJ0_checkIndex_df160_1 : decode cJ0_checkIndex_df160 1 = .ok (.iload_n 1, 1) := by decide +kernel
theorem dJ0_checkIndex_df160_2 : decode cJ0_checkIndex_df160 2 = .ok (.getstatic 1053, 3) := by decide +kernel
theorem dJ0_checkIndex_df160_5 : decode cJ0_checkIndex_df160 5 = .ok (.invokestatic 1059, 3) := by decide +kernel
theorem dJ0_checkIndex_df160_8 : decode cJ0_checkIndex_df160 8 = .ok (.pop, 1) := by decide +kernel
theorem dJ0_checkIndex_df160_9 : decode cJ0_checkIndex_df160 9 = .ok (.return_, 1) := by decide +kernel
theorem dJ1_charAt_3b067_0 : decode cJ1_charAt_3b067 0 = .ok (.iload_n 1, 1) := by decide +kernel
theorem dJ1_charAt_3b067_1 : decode cJ1_charAt_3b067 1 = .ok (.aload_n 0, 1) := by decide +kernel
theorem dJ1_charAt_3b067_2 : decode cJ1_charAt_3b067 2 = .ok (.arraylength, 1) := by decide +kernel
theorem dJ1_charAt_3b067_3 : decode cJ1_charAt_3b067 3 = .ok (.invokestatic 9, 3) := by decide +kernel
theorem dJ1_charAt_3b067_6 : decode cJ1_charAt_3b067 6 = .ok (.aload_n 0, 1) := by decide +kernel
theorem dJ1_charAt_3b067_7 : decode cJ1_charAt_3b067 7 = .ok (.iload_n 1, 1) := by decide +kernel
theorem dJ1_charAt_3b067_8 : decode cJ1_charAt_3b067 8 = .ok (.baload, 1) := by decide +kernel
theorem dJ1_charAt_3b067_9 : decode cJ1_charAt_3b067 9 = .ok (.sipush 255, 3) := by decide +kernel
theorem dJ1_charAt_3b067_12 : decode cJ1_charAt_3b067 12 = .ok (.iand, 1) := by decide +kernel
theorem dJ1_charAt_3b067_13 : decode cJ1_charAt_3b067 13 = .ok (.i2c, 1) := by decide +kernel
theorem dJ1_charAt_3b067_14 : decode cJ1_charAt_3b067 14 = .ok (.ireturn, 1) := by decide +kernel
theorem dJ2_getChar_3b067_0 : decode cJ2_getChar_3b067 0 = .ok (.getstatic 44, 3) := by decide +kernel
theorem dJ2_getChar_3b067_3 : decode cJ2_getChar_3b067 3 = .ok (.ifCond .ne 25, 3) := by decide +kernel
theorem dJ2_getChar_3b067_6 : decode cJ2_getChar_3b067 6 = .ok (.iload_n 1, 1) := by decide +kernel
theorem dJ2_getChar_3b067_7 : decode cJ2_getChar_3b067 7 = .ok (.ifCond .lt 11, 3) := by decide +kernel
theorem dJ2_getChar_3b067_10 : decode cJ2_getChar_3b067 10 = .ok (.iload_n 1, 1) := by decide +kernel
theorem dJ2_getChar_3b067_11 : decode cJ2_getChar_3b067 11 = .ok (.aload_n 0, 1) := by decide +kernel
theorem dJ2_getChar_3b067_12 : decode cJ2_getChar_3b067 12 = .ok (.invokestatic 48, 3) := by decide +kernel
theorem dJ2_getChar_3b067_15 : decode cJ2_getChar_3b067 15 = .ok (.if_icmp .lt 13, 3) := by decide +kernel
theorem dJ2_getChar_3b067_18 : decode cJ2_getChar_3b067 18 = .ok (.new 52, 3) := by decide +kernel
theorem dJ2_getChar_3b067_21 : decode cJ2_getChar_3b067 21 = .ok (.dup, 1) := by decide +kernel
theorem dJ2_getChar_3b067_22 : decode cJ2_getChar_3b067 22 = .ok (.ldc 54, 2) := by decide +kernel
theorem dJ2_getChar_3b067_24 : decode cJ2_getChar_3b067 24 = .ok (.invokespecial 56, 3) := by decide +kernel
theorem dJ2_getChar_3b067_27 : decode cJ2_getChar_3b067 27 = .ok (.athrow, 1) := by decide +kernel
theorem dJ2_getChar_3b067_28 : decode cJ2_getChar_3b067 28 = .ok (.iload_n 1, 1) := by decide +kernel
theorem dJ2_getChar_3b067_29 : decode cJ2_getChar_3b067 29 = .ok (.iconst 1, 1) := by decide +kernel
theorem dJ2_getChar_3b067_30 : decode cJ2_getChar_3b067 30 = .ok (.ishl, 1) := by decide +kernel
theorem dJ2_getChar_3b067_31 : decode cJ2_getChar_3b067 31 = .ok (.istore_n 1, 1) := by decide +kernel
theorem dJ2_getChar_3b067_32 : decode cJ2_getChar_3b067 32 = .ok (.aload_n 0, 1) := by decide +kernel
theorem dJ2_getChar_3b067_33 : decode cJ2_getChar_3b067 33 = .ok (.iload_n 1, 1) := by decide +kernel
theorem dJ2_getChar_3b067_34 : decode cJ2_getChar_3b067 34 = .ok (.iinc 1 1, 3) := by decide +kernel
theorem dJ2_getChar_3b067_37 : decode cJ2_getChar_3b067 37 = .ok (.baload, 1) := by decide +kernel
theorem dJ2_getChar_3b067_38 : decode cJ2_getChar_3b067 38 = .ok (.sipush 255, 3) := by decide +kernel
theorem dJ2_getChar_3b067_41 : decode cJ2_getChar_3b067 41 = .ok (.iand, 1) := by decide +kernel
theorem dJ2_getChar_3b067_42 : decode cJ2_getChar_3b067 42 = .ok (.getstatic 59, 3) := by decide +kernel
theorem dJ2_getChar_3b067_45 : decode cJ2_getChar_3b067 45 = .ok (.ishl, 1) := by decide +kernel
theorem dJ2_getChar_3b067_46 : decode cJ2_getChar_3b067 46 = .ok (.aload_n 0, 1) := by decide +kernel
theorem dJ2_getChar_3b067_47 : decode cJ2_getChar_3b067 47 = .ok (.iload_n 1, 1) := by decide +kernel
theorem dJ2_getChar_3b067_48 : decode cJ2_getChar_3b067 48 = .ok (.baload, 1) := by decide +kernel
theorem dJ2_getChar_3b067_49 : decode cJ2_getChar_3b067 49 = .ok (.sipush 255, 3) := by decide +kernel
theorem dJ2_getChar_3b067_52 : decode cJ2_getChar_3b067 52 = .ok (.iand, 1) := by decide +kernel
theorem dJ2_getChar_3b067_53 : decode cJ2_getChar_3b067 53 = .ok (.getstatic 63, 3) := by decide +kernel
theorem dJ2_getChar_3b067_56 : decode cJ2_getChar_3b067 56 = .ok (.ishl, 1) := by decide +kernel
theorem dJ2_getChar_3b067_57 : decode cJ2_getChar_3b067 57 = .ok (.ior, 1) := by decide +kernel
theorem dJ2_getChar_3b067_58 : decode cJ2_getChar_3b067 58 = .ok (.i2c, 1) := by decide +kernel
theorem dJ2_getChar_3b067_59 : decode cJ2_getChar_3b067 59 = .ok (.ireturn, 1) := by decide +kernel
theorem dJ2_length_9d52b_0 : decode cJ2_length_9d52b 0 = .ok (.aload_n 0, 1) := by decide +kernel
theorem dJ2_length_9d52b_1 : decode cJ2_length_9d52b 1 = .ok (.arraylength, 1) := by decide +kernel
theorem dJ2_length_9d52b_2 : decode cJ2_length_9d52b 2 = .ok (.iconst 1, 1) := by decide +kernel
theorem dJ2_length_9d52b_3 : decode cJ2_length_9d52b 3 = .ok (.ishr, 1) := by decide +kernel
theorem dJ2_length_9d52b_4 : decode cJ2_length_9d52b 4 = .ok (.ireturn, 1) := by decide +kernel
theorem dJ2_charAt_3b067_0 : decode cJ2_charAt_3b067 0 = .ok (.iload_n 1, 1) := by decide +kernel
theorem dJ2_charAt_3b067_1 : decode cJ2_charAt_3b067 1 = .ok (.aload_n 0, 1) := by decide +kernel
theorem dJ2_charAt_3b067_2 : decode cJ2_charAt_3b067 2 = .ok (.invokestatic 67, 3) := by decide +kernel
theorem dJ2_charAt_3b067_5 : decode cJ2_charAt_3b067 5 = .ok (.aload_n 0, 1) := by decide +kernel
theorem dJ2_charAt_3b067_6 : decode cJ2_charAt_3b067 6 = .ok (.iload_n 1, 1) := by decide +kernel
theorem dJ2_charAt_3b067_7 : decode cJ2_charAt_3b067 7 = .ok (.invokestatic 71, 3) := by decide +kernel
theorem dJ2_charAt_3b067_10 : decode cJ2_charAt_3b067 10 = .ok (.ireturn, 1) := by decide +kernel
theorem dJ2_checkIndex_2214a_0 : decode cJ2_checkIndex_2214a 0 = .ok (.iload_n 0, 1) := by decide +kernel
theorem dJ2_checkIndex_2214a_1 : decode cJ2_checkIndex_2214a 1 = .ok (.aload_n 1, 1) := by decide +kernel
theorem dJ2_checkIndex_2214a_2 : decode cJ2_checkIndex_2214a 2 = .ok (.invokestatic 48, 3) := by decide +kernel
theorem dJ2_checkIndex_2214a_5 : decode cJ2_checkIndex_2214a 5 = .ok (.invokestatic 414, 3) := by decide +kernel
theorem dJ2_checkIndex_2214a_8 : decode cJ2_checkIndex_2214a 8 = .ok (.return_, 1) := by decide +kernel
theorem dJ3_checkIndex_8e157_0 : decode cJ3_checkIndex_8e157 0 = .ok (.iload_n 0, 1) := by decide +kernel
theorem dJ3_checkIndex_8e157_1 : decode cJ3_checkIndex_8e157 1 = .ok (.ifCond .lt 8, 3) := by decide +kernel
theorem dJ3_checkIndex_8e157_4 : decode cJ3_checkIndex_8e157 4 = .ok (.iload_n 0, 1) := by decide +kernel
theorem dJ3_checkIndex_8e157_5 : decode cJ3_checkIndex_8e157 5 = .ok (.iload_n 1, 1) := by decide +kernel
theorem dJ3_checkIndex_8e157_6 : decode cJ3_checkIndex_8e157 6 = .ok (.if_icmp .lt 10, 3) := by decide +kernel
theorem dJ3_checkIndex_8e157_9 : decode cJ3_checkIndex_8e157 9 = .ok (.aload_n 2, 1) := by decide +kernel
theorem dJ3_checkIndex_8e157_10 : decode cJ3_checkIndex_8e157 10 = .ok (.iload_n 0, 1) := by decide +kernel
theorem dJ3_checkIndex_8e157_11 : decode cJ3_checkIndex_8e157 11 = .ok (.iload_n 1, 1) := by decide +kernel
theorem dJ3_checkIndex_8e157_12 : decode cJ3_checkIndex_8e157 12 = .ok (.invokestatic 95, 3) := by decide +kernel
theorem dJ3_checkIndex_8e157_15 : decode cJ3_checkIndex_8e157 15 = .ok (.athrow, 1) := by decide +kernel
theorem dJ3_checkIndex_8e157_16 : decode cJ3_checkIndex_8e157 16 = .ok (.iload_n 0, 1) := by decide +kernel
theorem dJ3_checkIndex_8e157_17 : decode cJ3_checkIndex_8e157 17 = .ok (.ireturn, 1) := by decide +kernel
theorem dL_law_0 : decode cL_law 0 = .ok (.new 7, 3) := by decide +kernel
theorem dL_law_3 : decode cL_law 3 = .ok (.dup, 1) := by decide +kernel
theorem dL_law_4 : decode cL_law 4 = .ok (.invokespecial 9, 3) := by decide +kernel
theorem dL_law_7 : decode cL_law 7 = .ok (.astore_n 1, 1) := by decide +kernel
theorem dL_law_8 : decode cL_law 8 = .ok (.new 10, 3) := by decide +kernel
theorem dL_law_11 : decode cL_law 11 = .ok (.dup, 1) := by decide +kernel
theorem dL_law_12 : decode cL_law 12 = .ok (.invokespecial 12, 3) := by decide +kernel
theorem dL_law_15 : decode cL_law 15 = .ok (.astore_n 2, 1) := by decide +kernel
theorem dL_law_16 : decode cL_law 16 = .ok (.iconst 0, 1) := by decide +kernel
theorem dL_law_17 : decode cL_law 17 = .ok (.istore_n 3, 1) := by decide +kernel
theorem dL_law_18 : decode cL_law 18 = .ok (.iload_n 3, 1) := by decide +kernel
theorem dL_law_19 : decode cL_law 19 = .ok (.aload_n 0, 1) := by decide +kernel
theorem dL_law_20 : decode cL_law 20 = .ok (.arraylength, 1) := by decide +kernel
theorem dL_law_21 : decode cL_law 21 = .ok (.bipush 6, 2) := by decide +kernel
theorem dL_law_23 : decode cL_law 23 = .ok (.isub, 1) := by decide +kernel
theorem dL_law_24 : decode cL_law 24 = .ok (.if_icmp .gt 1120, 3) := by decide +kernel
theorem dL_law_27 : decode cL_law 27 = .ok (.aload_n 0, 1) := by decide +kernel
theorem dL_law_28 : decode cL_law 28 = .ok (.iload_n 3, 1) := by decide +kernel
theorem dL_law_29 : decode cL_law 29 = .ok (.iaload, 1) := by decide +kernel
theorem dL_law_30 : decode cL_law 30 = .ok (.bipush 31, 2) := by decide +kernel
theorem dL_law_32 : decode cL_law 32 = .ok (.iand, 1) := by decide +kernel
theorem dL_law_33 : decode cL_law 33 = .ok (.tableswitch 1105 0 31 #[143, 206, 229, 242, 255, 288, 311, 354, 387, 410, 443, 466, 489, 502, 525, 548, 581, 604, 637, 680, 713, 766, 835, 858, 891, 924, 937, 970, 1013, 1036, 1059, 1082], 143) := by decide +kernel
theorem dL_law_176 : decode cL_law 176 = .ok (.aload_n 1, 1) := by decide +kernel
theorem dL_law_177 : decode cL_law 177 = .ok (.aload_n 0, 1) := by decide +kernel
theorem dL_law_178 : decode cL_law 178 = .ok (.iload_n 3, 1) := by decide +kernel
theorem dL_law_179 : decode cL_law 179 = .ok (.iconst 1, 1) := by decide +kernel
theorem dL_law_180 : decode cL_law 180 = .ok (.iadd, 1) := by decide +kernel
theorem dL_law_181 : decode cL_law 181 = .ok (.iaload, 1) := by decide +kernel
theorem dL_law_182 : decode cL_law 182 = .ok (.aload_n 0, 1) := by decide +kernel
theorem dL_law_183 : decode cL_law 183 = .ok (.iload_n 3, 1) := by decide +kernel
theorem dL_law_184 : decode cL_law 184 = .ok (.iconst 2, 1) := by decide +kernel
theorem dL_law_185 : decode cL_law 185 = .ok (.iadd, 1) := by decide +kernel
theorem dL_law_186 : decode cL_law 186 = .ok (.iaload, 1) := by decide +kernel
theorem dL_law_187 : decode cL_law 187 = .ok (.aload_n 0, 1) := by decide +kernel
theorem dL_law_188 : decode cL_law 188 = .ok (.iload_n 3, 1) := by decide +kernel
theorem dL_law_189 : decode cL_law 189 = .ok (.iconst 3, 1) := by decide +kernel
theorem dL_law_190 : decode cL_law 190 = .ok (.iadd, 1) := by decide +kernel
theorem dL_law_191 : decode cL_law 191 = .ok (.iaload, 1) := by decide +kernel
theorem dL_law_192 : decode cL_law 192 = .ok (.aload_n 0, 1) := by decide +kernel
theorem dL_law_193 : decode cL_law 193 = .ok (.iload_n 3, 1) := by decide +kernel
theorem dL_law_194 : decode cL_law 194 = .ok (.iconst 4, 1) := by decide +kernel
theorem dL_law_195 : decode cL_law 195 = .ok (.iadd, 1) := by decide +kernel
theorem dL_law_196 : decode cL_law 196 = .ok (.iaload, 1) := by decide +kernel
theorem dL_law_197 : decode cL_law 197 = .ok (.aload_n 0, 1) := by decide +kernel
theorem dL_law_198 : decode cL_law 198 = .ok (.iload_n 3, 1) := by decide +kernel
theorem dL_law_199 : decode cL_law 199 = .ok (.iconst 5, 1) := by decide +kernel
theorem dL_law_200 : decode cL_law 200 = .ok (.iadd, 1) := by decide +kernel
theorem dL_law_201 : decode cL_law 201 = .ok (.iaload, 1) := by decide +kernel
theorem dL_law_202 : decode cL_law 202 = .ok (.invokevirtual 13, 3) := by decide +kernel
theorem dL_law_205 : decode cL_law 205 = .ok (.aload_n 2, 1) := by decide +kernel
theorem dL_law_206 : decode cL_law 206 = .ok (.aload_n 0, 1) := by decide +kernel
theorem dL_law_207 : decode cL_law 207 = .ok (.iload_n 3, 1) := by decide +kernel
theorem dL_law_208 : decode cL_law 208 = .ok (.iconst 1, 1) := by decide +kernel
theorem dL_law_209 : decode cL_law 209 = .ok (.iadd, 1) := by decide +kernel
theorem dL_law_210 : decode cL_law 210 = .ok (.iaload, 1) := by decide +kernel
theorem dL_law_211 : decode cL_law 211 = .ok (.aload_n 0, 1) := by decide +kernel
theorem dL_law_212 : decode cL_law 212 = .ok (.iload_n 3, 1) := by decide +kernel
theorem dL_law_213 : decode cL_law 213 = .ok (.iconst 2, 1) := by decide +kernel
theorem dL_law_214 : decode cL_law 214 = .ok (.iadd, 1) := by decide +kernel
theorem dL_law_215 : decode cL_law 215 = .ok (.iaload, 1) := by decide +kernel
theorem dL_law_216 : decode cL_law 216 = .ok (.aload_n 0, 1) := by decide +kernel
theorem dL_law_217 : decode cL_law 217 = .ok (.iload_n 3, 1) := by decide +kernel
theorem dL_law_218 : decode cL_law 218 = .ok (.iconst 3, 1) := by decide +kernel
theorem dL_law_219 : decode cL_law 219 = .ok (.iadd, 1) := by decide +kernel
theorem dL_law_220 : decode cL_law 220 = .ok (.iaload, 1) := by decide +kernel
theorem dL_law_221 : decode cL_law 221 = .ok (.aload_n 0, 1) := by decide +kernel
theorem dL_law_222 : decode cL_law 222 = .ok (.iload_n 3, 1) := by decide +kernel
theorem dL_law_223 : decode cL_law 223 = .ok (.iconst 4, 1) := by decide +kernel
theorem dL_law_224 : decode cL_law 224 = .ok (.iadd, 1) := by decide +kernel
theorem dL_law_225 : decode cL_law 225 = .ok (.iaload, 1) := by decide +kernel
theorem dL_law_226 : decode cL_law 226 = .ok (.aload_n 0, 1) := by decide +kernel
theorem dL_law_227 : decode cL_law 227 = .ok (.iload_n 3, 1) := by decide +kernel
theorem dL_law_228 : decode cL_law 228 = .ok (.iconst 5, 1) := by decide +kernel
theorem dL_law_229 : decode cL_law 229 = .ok (.iadd, 1) := by decide +kernel
theorem dL_law_230 : decode cL_law 230 = .ok (.iaload, 1) := by decide +kernel
theorem dL_law_231 : decode cL_law 231 = .ok (.invokevirtual 17, 3) := by decide +kernel
theorem dL_law_234 : decode cL_law 234 = .ok (.if_icmp .eq 904, 3) := by decide +kernel
theorem dL_law_237 : decode cL_law 237 = .ok (.iconst 0, 1) := by decide +kernel
theorem dL_law_238 : decode cL_law 238 = .ok (.ireturn, 1) := by decide +kernel
theorem dL_law_239 : decode cL_law 239 = .ok (.aload_n 1, 1) := by decide +kernel
theorem dL_law_240 : decode cL_law 240 = .ok (.aload_n 0, 1) := by decide +kernel
theorem dL_law_241 : decode cL_law 241 = .ok (.iload_n 3, 1) := by decide +kernel
theorem dL_law_242 : decode cL_law 242 = .ok (.iconst 1, 1) := by decide +kernel
theorem dL_law_243 : decode cL_law 243 = .ok (.iadd, 1) := by decide +kernel
theorem dL_law_244 : decode cL_law 244 = .ok (.iaload, 1) := by decide +kernel
theorem dL_law_245 : decode cL_law 245 = .ok (.invokevirtual 18, 3) := by decide +kernel
theorem dL_law_248 : decode cL_law 248 = .ok (.aload_n 2, 1) := by decide +kernel
theorem dL_law_249 : decode cL_law 249 = .ok (.aload_n 0, 1) := by decide +kernel
theorem dL_law_250 : decode cL_law 250 = .ok (.iload_n 3, 1) := by decide +kernel
theorem dL_law_251 : decode cL_law 251 = .ok (.iconst 1, 1) := by decide +kernel
theorem dL_law_252 : decode cL_law 252 = .ok (.iadd, 1) := by decide +kernel
theorem dL_law_253 : decode cL_law 253 = .ok (.iaload, 1) := by decide +kernel
theorem dL_law_254 : decode cL_law 254 = .ok (.invokevirtual 22, 3) := by decide +kernel
theorem dL_law_257 : decode cL_law 257 = .ok (.if_icmp .eq 881, 3) := by decide +kernel
theorem dL_law_260 : decode cL_law 260 = .ok (.iconst 0, 1) := by decide +kernel
theorem dL_law_261 : decode cL_law 261 = .ok (.ireturn, 1) := by decide +kernel
theorem dL_law_262 : decode cL_law 262 = .ok (.aload_n 1, 1) := by decide +kernel
theorem dL_law_263 : decode cL_law 263 = .ok (.invokevirtual 23, 3) := by decide +kernel
theorem dL_law_266 : decode cL_law 266 = .ok (.aload_n 2, 1) := by decide +kernel
theorem dL_law_267 : decode cL_law 267 = .ok (.invokevirtual 27, 3) := by decide +kernel
theorem dL_law_270 : decode cL_law 270 = .ok (.if_icmp .eq 868, 3) := by decide +kernel
theorem dL_law_273 : decode cL_law 273 = .ok (.iconst 0, 1) := by decide +kernel
theorem dL_law_274 : decode cL_law 274 = .ok (.ireturn, 1) := by decide +kernel
theorem dL_law_275 : decode cL_law 275 = .ok (.aload_n 1, 1) := by decide +kernel
theorem dL_law_276 : decode cL_law 276 = .ok (.invokevirtual 28, 3) := by decide +kernel
theorem dL_law_279 : decode cL_law 279 = .ok (.aload_n 2, 1) := by decide +kernel
theorem dL_law_280 : decode cL_law 280 = .ok (.invokevirtual 31, 3) := by decide +kernel
theorem dL_law_283 : decode cL_law 283 = .ok (.if_icmp .eq 855, 3) := by decide +kernel
theorem dL_law_286 : decode cL_law 286 = .ok (.iconst 0, 1) := by decide +kernel
theorem dL_law_287 : decode cL_law 287 = .ok (.ireturn, 1) := by decide +kernel
theorem dL_law_288 : decode cL_law 288 = .ok (.aload_n 1, 1) := by decide +kernel
theorem dL_law_289 : decode cL_law 289 = .ok (.aload_n 0, 1) := by decide +kernel
theorem dL_law_290 : decode cL_law 290 = .ok (.iload_n 3, 1) := by decide +kernel
theorem dL_law_291 : decode cL_law 291 = .ok (.iconst 1, 1) := by decide +kernel
theorem dL_law_292 : decode cL_law 292 = .ok (.iadd, 1) := by decide +kernel
theorem dL_law_293 : decode cL_law 293 = .ok (.iaload, 1) := by decide +kernel
theorem dL_law_294 : decode cL_law 294 = .ok (.aload_n 0, 1) := by decide +kernel
theorem dL_law_295 : decode cL_law 295 = .ok (.iload_n 3, 1) := by decide +kernel
theorem dL_law_296 : decode cL_law 296 = .ok (.iconst 2, 1) := by decide +kernel
theorem dL_law_297 : decode cL_law 297 = .ok (.iadd, 1) := by decide +kernel
theorem dL_law_298 : decode cL_law 298 = .ok (.iaload, 1) := by decide +kernel
theorem dL_law_299 : decode cL_law 299 = .ok (.invokevirtual 32, 3) := by decide +kernel
theorem dL_law_302 : decode cL_law 302 = .ok (.aload_n 2, 1) := by decide +kernel
theorem dL_law_303 : decode cL_law 303 = .ok (.aload_n 0, 1) := by decide +kernel
theorem dL_law_304 : decode cL_law 304 = .ok (.iload_n 3, 1) := by decide +kernel
theorem dL_law_305 : decode cL_law 305 = .ok (.iconst 1, 1) := by decide +kernel
theorem dL_law_306 : decode cL_law 306 = .ok (.iadd, 1) := by decide +kernel
theorem dL_law_307 : decode cL_law 307 = .ok (.iaload, 1) := by decide +kernel
theorem dL_law_308 : decode cL_law 308 = .ok (.aload_n 0, 1) := by decide +kernel
theorem dL_law_309 : decode cL_law 309 = .ok (.iload_n 3, 1) := by decide +kernel
theorem dL_law_310 : decode cL_law 310 = .ok (.iconst 2, 1) := by decide +kernel
theorem dL_law_311 : decode cL_law 311 = .ok (.iadd, 1) := by decide +kernel
theorem dL_law_312 : decode cL_law 312 = .ok (.iaload, 1) := by decide +kernel
theorem dL_law_313 : decode cL_law 313 = .ok (.invokevirtual 36, 3) := by decide +kernel
theorem dL_law_316 : decode cL_law 316 = .ok (.if_icmp .eq 822, 3) := by decide +kernel
theorem dL_law_319 : decode cL_law 319 = .ok (.iconst 0, 1) := by decide +kernel
theorem dL_law_320 : decode cL_law 320 = .ok (.ireturn, 1) := by decide +kernel
theorem dL_law_321 : decode cL_law 321 = .ok (.aload_n 1, 1) := by decide +kernel
theorem dL_law_322 : decode cL_law 322 = .ok (.aload_n 0, 1) := by decide +kernel
theorem dL_law_323 : decode cL_law 323 = .ok (.iload_n 3, 1) := by decide +kernel
theorem dL_law_324 : decode cL_law 324 = .ok (.iconst 1, 1) := by decide +kernel
theorem dL_law_325 : decode cL_law 325 = .ok (.iadd, 1) := by decide +kernel
theorem dL_law_326 : decode cL_law 326 = .ok (.iaload, 1) := by decide +kernel
theorem dL_law_327 : decode cL_law 327 = .ok (.invokevirtual 37, 3) := by decide +kernel
theorem dL_law_330 : decode cL_law 330 = .ok (.aload_n 2, 1) := by decide +kernel
theorem dL_law_331 : decode cL_law 331 = .ok (.aload_n 0, 1) := by decide +kernel
theorem dL_law_332 : decode cL_law 332 = .ok (.iload_n 3, 1) := by decide +kernel
theorem dL_law_333 : decode cL_law 333 = .ok (.iconst 1, 1) := by decide +kernel
theorem dL_law_334 : decode cL_law 334 = .ok (.iadd, 1) := by decide +kernel
theorem dL_law_335 : decode cL_law 335 = .ok (.iaload, 1) := by decide +kernel
theorem dL_law_336 : decode cL_law 336 = .ok (.invokevirtual 40, 3) := by decide +kernel
theorem dL_law_339 : decode cL_law 339 = .ok (.if_icmp .eq 799, 3) := by decide +kernel
theorem dL_law_342 : decode cL_law 342 = .ok (.iconst 0, 1) := by decide +kernel
theorem dL_law_343 : decode cL_law 343 = .ok (.ireturn, 1) := by decide +kernel
theorem dL_law_344 : decode cL_law 344 = .ok (.aload_n 1, 1) := by decide +kernel
theorem dL_law_345 : decode cL_law 345 = .ok (.aload_n 0, 1) := by decide +kernel
theorem dL_law_346 : decode cL_law 346 = .ok (.iload_n 3, 1) := by decide +kernel
theorem dL_law_347 : decode cL_law 347 = .ok (.iconst 1, 1) := by decide +kernel
theorem dL_law_348 : decode cL_law 348 = .ok (.iadd, 1) := by decide +kernel
theorem dL_law_349 : decode cL_law 349 = .ok (.iaload, 1) := by decide +kernel
theorem dL_law_350 : decode cL_law 350 = .ok (.aload_n 0, 1) := by decide +kernel
theorem dL_law_351 : decode cL_law 351 = .ok (.iload_n 3, 1) := by decide +kernel
theorem dL_law_352 : decode cL_law 352 = .ok (.iconst 2, 1) := by decide +kernel
theorem dL_law_353 : decode cL_law 353 = .ok (.iadd, 1) := by decide +kernel
theorem dL_law_354 : decode cL_law 354 = .ok (.iaload, 1) := by decide +kernel
theorem dL_law_355 : decode cL_law 355 = .ok (.aload_n 0, 1) := by decide +kernel
theorem dL_law_356 : decode cL_law 356 = .ok (.iload_n 3, 1) := by decide +kernel
theorem dL_law_357 : decode cL_law 357 = .ok (.iconst 3, 1) := by decide +kernel
theorem dL_law_358 : decode cL_law 358 = .ok (.iadd, 1) := by decide +kernel
theorem dL_law_359 : decode cL_law 359 = .ok (.iaload, 1) := by decide +kernel
theorem dL_law_360 : decode cL_law 360 = .ok (.invokevirtual 41, 3) := by decide +kernel
theorem dL_law_363 : decode cL_law 363 = .ok (.aload_n 2, 1) := by decide +kernel
theorem dL_law_364 : decode cL_law 364 = .ok (.aload_n 0, 1) := by decide +kernel
theorem dL_law_365 : decode cL_law 365 = .ok (.iload_n 3, 1) := by decide +kernel
theorem dL_law_366 : decode cL_law 366 = .ok (.iconst 1, 1) := by decide +kernel
theorem dL_law_367 : decode cL_law 367 = .ok (.iadd, 1) := by decide +kernel
theorem dL_law_368 : decode cL_law 368 = .ok (.iaload, 1) := by decide +kernel
theorem dL_law_369 : decode cL_law 369 = .ok (.aload_n 0, 1) := by decide +kernel
theorem dL_law_370 : decode cL_law 370 = .ok (.iload_n 3, 1) := by decide +kernel
theorem dL_law_371 : decode cL_law 371 = .ok (.iconst 2, 1) := by decide +kernel
theorem dL_law_372 : decode cL_law 372 = .ok (.iadd, 1) := by decide +kernel
theorem dL_law_373 : decode cL_law 373 = .ok (.iaload, 1) := by decide +kernel
theorem dL_law_374 : decode cL_law 374 = .ok (.aload_n 0, 1) := by decide +kernel
theorem dL_law_375 : decode cL_law 375 = .ok (.iload_n 3, 1) := by decide +kernel
theorem dL_law_376 : decode cL_law 376 = .ok (.iconst 3, 1) := by decide +kernel
theorem dL_law_377 : decode cL_law 377 = .ok (.iadd, 1) := by decide +kernel
theorem dL_law_378 : decode cL_law 378 = .ok (.iaload, 1) := by decide +kernel
theorem dL_law_379 : decode cL_law 379 = .ok (.invokevirtual 45, 3) := by decide +kernel
theorem dL_law_382 : decode cL_law 382 = .ok (.if_icmp .eq 756, 3) := by decide +kernel
theorem dL_law_385 : decode cL_law 385 = .ok (.iconst 0, 1) := by decide +kernel
theorem dL_law_386 : decode cL_law 386 = .ok (.ireturn, 1) := by decide +kernel
theorem dL_law_387 : decode cL_law 387 = .ok (.aload_n 1, 1) := by decide +kernel
theorem dL_law_388 : decode cL_law 388 = .ok (.aload_n 0, 1) := by decide +kernel
theorem dL_law_389 : decode cL_law 389 = .ok (.iload_n 3, 1) := by decide +kernel
theorem dL_law_390 : decode cL_law 390 = .ok (.iconst 1, 1) := by decide +kernel
theorem dL_law_391 : decode cL_law 391 = .ok (.iadd, 1) := by decide +kernel
theorem dL_law_392 : decode cL_law 392 = .ok (.iaload, 1) := by decide +kernel
theorem dL_law_393 : decode cL_law 393 = .ok (.aload_n 0, 1) := by decide +kernel
theorem dL_law_394 : decode cL_law 394 = .ok (.iload_n 3, 1) := by decide +kernel
theorem dL_law_395 : decode cL_law 395 = .ok (.iconst 2, 1) := by decide +kernel
theorem dL_law_396 : decode cL_law 396 = .ok (.iadd, 1) := by decide +kernel
theorem dL_law_397 : decode cL_law 397 = .ok (.iaload, 1) := by decide +kernel
theorem dL_law_398 : decode cL_law 398 = .ok (.invokevirtual 46, 3) := by decide +kernel
theorem dL_law_401 : decode cL_law 401 = .ok (.aload_n 2, 1) := by decide +kernel
theorem dL_law_402 : decode cL_law 402 = .ok (.aload_n 0, 1) := by decide +kernel
theorem dL_law_403 : decode cL_law 403 = .ok (.iload_n 3, 1) := by decide +kernel
theorem dL_law_404 : decode cL_law 404 = .ok (.iconst 1, 1) := by decide +kernel
theorem dL_law_405 : decode cL_law 405 = .ok (.iadd, 1) := by decide +kernel
theorem dL_law_406 : decode cL_law 406 = .ok (.iaload, 1) := by decide +kernel
theorem dL_law_407 : decode cL_law 407 = .ok (.aload_n 0, 1) := by decide +kernel
theorem dL_law_408 : decode cL_law 408 = .ok (.iload_n 3, 1) := by decide +kernel
theorem dL_law_409 : decode cL_law 409 = .ok (.iconst 2, 1) := by decide +kernel
theorem dL_law_410 : decode cL_law 410 = .ok (.iadd, 1) := by decide +kernel
theorem dL_law_411 : decode cL_law 411 = .ok (.iaload, 1) := by decide +kernel
theorem dL_law_412 : decode cL_law 412 = .ok (.invokevirtual 50, 3) := by decide +kernel
theorem dL_law_415 : decode cL_law 415 = .ok (.if_icmp .eq 723, 3) := by decide +kernel
theorem dL_law_418 : decode cL_law 418 = .ok (.iconst 0, 1) := by decide +kernel
theorem dL_law_419 : decode cL_law 419 = .ok (.ireturn, 1) := by decide +kernel
theorem dL_law_420 : decode cL_law 420 = .ok (.aload_n 1, 1) := by decide +kernel
theorem dL_law_421 : decode cL_law 421 = .ok (.aload_n 0, 1) := by decide +kernel
theorem dL_law_422 : decode cL_law 422 = .ok (.iload_n 3, 1) := by decide +kernel
theorem dL_law_423 : decode cL_law 423 = .ok (.iconst 1, 1) := by decide +kernel
theorem dL_law_424 : decode cL_law 424 = .ok (.iadd, 1) := by decide +kernel
theorem dL_law_425 : decode cL_law 425 = .ok (.iaload, 1) := by decide +kernel
theorem dL_law_426 : decode cL_law 426 = .ok (.invokevirtual 51, 3) := by decide +kernel
theorem dL_law_429 : decode cL_law 429 = .ok (.aload_n 2, 1) := by decide +kernel
theorem dL_law_430 : decode cL_law 430 = .ok (.aload_n 0, 1) := by decide +kernel
theorem dL_law_431 : decode cL_law 431 = .ok (.iload_n 3, 1) := by decide +kernel
theorem dL_law_432 : decode cL_law 432 = .ok (.iconst 1, 1) := by decide +kernel
theorem dL_law_433 : decode cL_law 433 = .ok (.iadd, 1) := by decide +kernel
theorem dL_law_434 : decode cL_law 434 = .ok (.iaload, 1) := by decide +kernel
theorem dL_law_435 : decode cL_law 435 = .ok (.invokevirtual 54, 3) := by decide +kernel
theorem dL_law_438 : decode cL_law 438 = .ok (.if_icmp .eq 700, 3) := by decide +kernel
theorem dL_law_441 : decode cL_law 441 = .ok (.iconst 0, 1) := by decide +kernel
theorem dL_law_442 : decode cL_law 442 = .ok (.ireturn, 1) := by decide +kernel
theorem dL_law_443 : decode cL_law 443 = .ok (.aload_n 1, 1) := by decide +kernel
theorem dL_law_444 : decode cL_law 444 = .ok (.aload_n 0, 1) := by decide +kernel
theorem dL_law_445 : decode cL_law 445 = .ok (.iload_n 3, 1) := by decide +kernel
theorem dL_law_446 : decode cL_law 446 = .ok (.iconst 1, 1) := by decide +kernel
theorem dL_law_447 : decode cL_law 447 = .ok (.iadd, 1) := by decide +kernel
theorem dL_law_448 : decode cL_law 448 = .ok (.iaload, 1) := by decide +kernel
theorem dL_law_449 : decode cL_law 449 = .ok (.aload_n 0, 1) := by decide +kernel
theorem dL_law_450 : decode cL_law 450 = .ok (.iload_n 3, 1) := by decide +kernel
theorem dL_law_451 : decode cL_law 451 = .ok (.iconst 2, 1) := by decide +kernel
theorem dL_law_452 : decode cL_law 452 = .ok (.iadd, 1) := by decide +kernel
theorem dL_law_453 : decode cL_law 453 = .ok (.iaload, 1) := by decide +kernel
theorem dL_law_454 : decode cL_law 454 = .ok (.invokevirtual 55, 3) := by decide +kernel
theorem dL_law_457 : decode cL_law 457 = .ok (.aload_n 2, 1) := by decide +kernel
theorem dL_law_458 : decode cL_law 458 = .ok (.aload_n 0, 1) := by decide +kernel
theorem dL_law_459 : decode cL_law 459 = .ok (.iload_n 3, 1) := by decide +kernel
theorem dL_law_460 : decode cL_law 460 = .ok (.iconst 1, 1) := by decide +kernel
theorem dL_law_461 : decode cL_law 461 = .ok (.iadd, 1) := by decide +kernel
theorem dL_law_462 : decode cL_law 462 = .ok (.iaload, 1) := by decide +kernel
theorem dL_law_463 : decode cL_law 463 = .ok (.aload_n 0, 1) := by decide +kernel
theorem dL_law_464 : decode cL_law 464 = .ok (.iload_n 3, 1) := by decide +kernel
theorem dL_law_465 : decode cL_law 465 = .ok (.iconst 2, 1) := by decide +kernel
theorem dL_law_466 : decode cL_law 466 = .ok (.iadd, 1) := by decide +kernel
theorem dL_law_467 : decode cL_law 467 = .ok (.iaload, 1) := by decide +kernel
theorem dL_law_468 : decode cL_law 468 = .ok (.invokevirtual 58, 3) := by decide +kernel
theorem dL_law_471 : decode cL_law 471 = .ok (.if_icmp .eq 667, 3) := by decide +kernel
theorem dL_law_474 : decode cL_law 474 = .ok (.iconst 0, 1) := by decide +kernel
theorem dL_law_475 : decode cL_law 475 = .ok (.ireturn, 1) := by decide +kernel
theorem dL_law_476 : decode cL_law 476 = .ok (.aload_n 1, 1) := by decide +kernel
theorem dL_law_477 : decode cL_law 477 = .ok (.aload_n 0, 1) := by decide +kernel
theorem dL_law_478 : decode cL_law 478 = .ok (.iload_n 3, 1) := by decide +kernel
theorem dL_law_479 : decode cL_law 479 = .ok (.iconst 1, 1) := by decide +kernel
theorem dL_law_480 : decode cL_law 480 = .ok (.iadd, 1) := by decide +kernel
theorem dL_law_481 : decode cL_law 481 = .ok (.iaload, 1) := by decide +kernel
theorem dL_law_482 : decode cL_law 482 = .ok (.invokevirtual 59, 3) := by decide +kernel
theorem dL_law_485 : decode cL_law 485 = .ok (.aload_n 2, 1) := by decide +kernel
theorem dL_law_486 : decode cL_law 486 = .ok (.aload_n 0, 1) := by decide +kernel
theorem dL_law_487 : decode cL_law 487 = .ok (.iload_n 3, 1) := by decide +kernel
theorem dL_law_488 : decode cL_law 488 = .ok (.iconst 1, 1) := by decide +kernel
theorem dL_law_489 : decode cL_law 489 = .ok (.iadd, 1) := by decide +kernel
theorem dL_law_490 : decode cL_law 490 = .ok (.iaload, 1) := by decide +kernel
theorem dL_law_491 : decode cL_law 491 = .ok (.invokevirtual 62, 3) := by decide +kernel
theorem dL_law_494 : decode cL_law 494 = .ok (.if_icmp .eq 644, 3) := by decide +kernel
theorem dL_law_497 : decode cL_law 497 = .ok (.iconst 0, 1) := by decide +kernel
theorem dL_law_498 : decode cL_law 498 = .ok (.ireturn, 1) := by decide +kernel
theorem dL_law_499 : decode cL_law 499 = .ok (.aload_n 1, 1) := by decide +kernel
theorem dL_law_500 : decode cL_law 500 = .ok (.aload_n 0, 1) := by decide +kernel
theorem dL_law_501 : decode cL_law 501 = .ok (.iload_n 3, 1) := by decide +kernel
theorem dL_law_502 : decode cL_law 502 = .ok (.iconst 1, 1) := by decide +kernel
theorem dL_law_503 : decode cL_law 503 = .ok (.iadd, 1) := by decide +kernel
theorem dL_law_504 : decode cL_law 504 = .ok (.iaload, 1) := by decide +kernel
theorem dL_law_505 : decode cL_law 505 = .ok (.invokevirtual 63, 3) := by decide +kernel
theorem dL_law_508 : decode cL_law 508 = .ok (.aload_n 2, 1) := by decide +kernel
theorem dL_law_509 : decode cL_law 509 = .ok (.aload_n 0, 1) := by decide +kernel
theorem dL_law_510 : decode cL_law 510 = .ok (.iload_n 3, 1) := by decide +kernel
theorem dL_law_511 : decode cL_law 511 = .ok (.iconst 1, 1) := by decide +kernel
theorem dL_law_512 : decode cL_law 512 = .ok (.iadd, 1) := by decide +kernel
theorem dL_law_513 : decode cL_law 513 = .ok (.iaload, 1) := by decide +kernel
theorem dL_law_514 : decode cL_law 514 = .ok (.invokevirtual 66, 3) := by decide +kernel
theorem dL_law_517 : decode cL_law 517 = .ok (.if_icmp .eq 621, 3) := by decide +kernel
theorem dL_law_520 : decode cL_law 520 = .ok (.iconst 0, 1) := by decide +kernel
theorem dL_law_521 : decode cL_law 521 = .ok (.ireturn, 1) := by decide +kernel
theorem dL_law_522 : decode cL_law 522 = .ok (.aload_n 1, 1) := by decide +kernel
theorem dL_law_523 : decode cL_law 523 = .ok (.invokevirtual 67, 3) := by decide +kernel
theorem dL_law_526 : decode cL_law 526 = .ok (.aload_n 2, 1) := by decide +kernel
theorem dL_law_527 : decode cL_law 527 = .ok (.invokevirtual 71, 3) := by decide +kernel
theorem dL_law_530 : decode cL_law 530 = .ok (.if_icmp .eq 608, 3) := by decide +kernel
theorem dL_law_533 : decode cL_law 533 = .ok (.iconst 0, 1) := by decide +kernel
theorem dL_law_534 : decode cL_law 534 = .ok (.ireturn, 1) := by decide +kernel
theorem dL_law_535 : decode cL_law 535 = .ok (.aload_n 1, 1) := by decide +kernel
theorem dL_law_536 : decode cL_law 536 = .ok (.aload_n 0, 1) := by decide +kernel
theorem dL_law_537 : decode cL_law 537 = .ok (.iload_n 3, 1) := by decide +kernel
theorem dL_law_538 : decode cL_law 538 = .ok (.iconst 1, 1) := by decide +kernel
theorem dL_law_539 : decode cL_law 539 = .ok (.iadd, 1) := by decide +kernel
theorem dL_law_540 : decode cL_law 540 = .ok (.iaload, 1) := by decide +kernel
theorem dL_law_541 : decode cL_law 541 = .ok (.invokevirtual 72, 3) := by decide +kernel
theorem dL_law_544 : decode cL_law 544 = .ok (.aload_n 2, 1) := by decide +kernel
theorem dL_law_545 : decode cL_law 545 = .ok (.aload_n 0, 1) := by decide +kernel
theorem dL_law_546 : decode cL_law 546 = .ok (.iload_n 3, 1) := by decide +kernel
theorem dL_law_547 : decode cL_law 547 = .ok (.iconst 1, 1) := by decide +kernel
theorem dL_law_548 : decode cL_law 548 = .ok (.iadd, 1) := by decide +kernel
theorem dL_law_549 : decode cL_law 549 = .ok (.iaload, 1) := by decide +kernel
theorem dL_law_550 : decode cL_law 550 = .ok (.invokevirtual 75, 3) := by decide +kernel
theorem dL_law_553 : decode cL_law 553 = .ok (.if_icmp .eq 585, 3) := by decide +kernel
theorem dL_law_556 : decode cL_law 556 = .ok (.iconst 0, 1) := by decide +kernel
theorem dL_law_557 : decode cL_law 557 = .ok (.ireturn, 1) := by decide +kernel
theorem dL_law_558 : decode cL_law 558 = .ok (.aload_n 1, 1) := by decide +kernel
theorem dL_law_559 : decode cL_law 559 = .ok (.aload_n 0, 1) := by decide +kernel
theorem dL_law_560 : decode cL_law 560 = .ok (.iload_n 3, 1) := by decide +kernel
theorem dL_law_561 : decode cL_law 561 = .ok (.iconst 1, 1) := by decide +kernel
theorem dL_law_562 : decode cL_law 562 = .ok (.iadd, 1) := by decide +kernel
theorem dL_law_563 : decode cL_law 563 = .ok (.iaload, 1) := by decide +kernel
theorem dL_law_564 : decode cL_law 564 = .ok (.invokevirtual 76, 3) := by decide +kernel
theorem dL_law_567 : decode cL_law 567 = .ok (.aload_n 2, 1) := by decide +kernel
theorem dL_law_568 : decode cL_law 568 = .ok (.aload_n 0, 1) := by decide +kernel
theorem dL_law_569 : decode cL_law 569 = .ok (.iload_n 3, 1) := by decide +kernel
theorem dL_law_570 : decode cL_law 570 = .ok (.iconst 1, 1) := by decide +kernel
theorem dL_law_571 : decode cL_law 571 = .ok (.iadd, 1) := by decide +kernel
theorem dL_law_572 : decode cL_law 572 = .ok (.iaload, 1) := by decide +kernel
theorem dL_law_573 : decode cL_law 573 = .ok (.invokevirtual 79, 3) := by decide +kernel
theorem dL_law_576 : decode cL_law 576 = .ok (.if_icmp .eq 562, 3) := by decide +kernel
theorem dL_law_579 : decode cL_law 579 = .ok (.iconst 0, 1) := by decide +kernel
theorem dL_law_580 : decode cL_law 580 = .ok (.ireturn, 1) := by decide +kernel
theorem dL_law_581 : decode cL_law 581 = .ok (.aload_n 1, 1) := by decide +kernel
theorem dL_law_582 : decode cL_law 582 = .ok (.aload_n 0, 1) := by decide +kernel
theorem dL_law_583 : decode cL_law 583 = .ok (.iload_n 3, 1) := by decide +kernel
theorem dL_law_584 : decode cL_law 584 = .ok (.iconst 1, 1) := by decide +kernel
theorem dL_law_585 : decode cL_law 585 = .ok (.iadd, 1) := by decide +kernel
theorem dL_law_586 : decode cL_law 586 = .ok (.iaload, 1) := by decide +kernel
theorem dL_law_587 : decode cL_law 587 = .ok (.aload_n 0, 1) := by decide +kernel
theorem dL_law_588 : decode cL_law 588 = .ok (.iload_n 3, 1) := by decide +kernel
theorem dL_law_589 : decode cL_law 589 = .ok (.iconst 2, 1) := by decide +kernel
theorem dL_law_590 : decode cL_law 590 = .ok (.iadd, 1) := by decide +kernel
theorem dL_law_591 : decode cL_law 591 = .ok (.iaload, 1) := by decide +kernel
theorem dL_law_592 : decode cL_law 592 = .ok (.invokevirtual 80, 3) := by decide +kernel
theorem dL_law_595 : decode cL_law 595 = .ok (.aload_n 2, 1) := by decide +kernel
theorem dL_law_596 : decode cL_law 596 = .ok (.aload_n 0, 1) := by decide +kernel
theorem dL_law_597 : decode cL_law 597 = .ok (.iload_n 3, 1) := by decide +kernel
theorem dL_law_598 : decode cL_law 598 = .ok (.iconst 1, 1) := by decide +kernel
theorem dL_law_599 : decode cL_law 599 = .ok (.iadd, 1) := by decide +kernel
theorem dL_law_600 : decode cL_law 600 = .ok (.iaload, 1) := by decide +kernel
theorem dL_law_601 : decode cL_law 601 = .ok (.aload_n 0, 1) := by decide +kernel
theorem dL_law_602 : decode cL_law 602 = .ok (.iload_n 3, 1) := by decide +kernel
theorem dL_law_603 : decode cL_law 603 = .ok (.iconst 2, 1) := by decide +kernel
theorem dL_law_604 : decode cL_law 604 = .ok (.iadd, 1) := by decide +kernel
theorem dL_law_605 : decode cL_law 605 = .ok (.iaload, 1) := by decide +kernel
theorem dL_law_606 : decode cL_law 606 = .ok (.invokevirtual 83, 3) := by decide +kernel
theorem dL_law_609 : decode cL_law 609 = .ok (.if_icmp .eq 529, 3) := by decide +kernel
theorem dL_law_612 : decode cL_law 612 = .ok (.iconst 0, 1) := by decide +kernel
theorem dL_law_613 : decode cL_law 613 = .ok (.ireturn, 1) := by decide +kernel
theorem dL_law_614 : decode cL_law 614 = .ok (.aload_n 1, 1) := by decide +kernel
theorem dL_law_615 : decode cL_law 615 = .ok (.aload_n 0, 1) := by decide +kernel
theorem dL_law_616 : decode cL_law 616 = .ok (.iload_n 3, 1) := by decide +kernel
theorem dL_law_617 : decode cL_law 617 = .ok (.iconst 1, 1) := by decide +kernel
theorem dL_law_618 : decode cL_law 618 = .ok (.iadd, 1) := by decide +kernel
theorem dL_law_619 : decode cL_law 619 = .ok (.iaload, 1) := by decide +kernel
theorem dL_law_620 : decode cL_law 620 = .ok (.invokevirtual 84, 3) := by decide +kernel
theorem dL_law_623 : decode cL_law 623 = .ok (.aload_n 2, 1) := by decide +kernel
theorem dL_law_624 : decode cL_law 624 = .ok (.aload_n 0, 1) := by decide +kernel
theorem dL_law_625 : decode cL_law 625 = .ok (.iload_n 3, 1) := by decide +kernel
theorem dL_law_626 : decode cL_law 626 = .ok (.iconst 1, 1) := by decide +kernel
theorem dL_law_627 : decode cL_law 627 = .ok (.iadd, 1) := by decide +kernel
theorem dL_law_628 : decode cL_law 628 = .ok (.iaload, 1) := by decide +kernel
theorem dL_law_629 : decode cL_law 629 = .ok (.invokevirtual 87, 3) := by decide +kernel
theorem dL_law_632 : decode cL_law 632 = .ok (.if_icmp .eq 506, 3) := by decide +kernel
theorem dL_law_635 : decode cL_law 635 = .ok (.iconst 0, 1) := by decide +kernel
theorem dL_law_636 : decode cL_law 636 = .ok (.ireturn, 1) := by decide +kernel
theorem dL_law_637 : decode cL_law 637 = .ok (.aload_n 1, 1) := by decide +kernel
theorem dL_law_638 : decode cL_law 638 = .ok (.aload_n 0, 1) := by decide +kernel
theorem dL_law_639 : decode cL_law 639 = .ok (.iload_n 3, 1) := by decide +kernel
theorem dL_law_640 : decode cL_law 640 = .ok (.iconst 1, 1) := by decide +kernel
theorem dL_law_641 : decode cL_law 641 = .ok (.iadd, 1) := by decide +kernel
theorem dL_law_642 : decode cL_law 642 = .ok (.iaload, 1) := by decide +kernel
theorem dL_law_643 : decode cL_law 643 = .ok (.aload_n 0, 1) := by decide +kernel
theorem dL_law_644 : decode cL_law 644 = .ok (.iload_n 3, 1) := by decide +kernel
theorem dL_law_645 : decode cL_law 645 = .ok (.iconst 2, 1) := by decide +kernel
theorem dL_law_646 : decode cL_law 646 = .ok (.iadd, 1) := by decide +kernel
theorem dL_law_647 : decode cL_law 647 = .ok (.iaload, 1) := by decide +kernel
theorem dL_law_648 : decode cL_law 648 = .ok (.invokevirtual 88, 3) := by decide +kernel
theorem dL_law_651 : decode cL_law 651 = .ok (.aload_n 2, 1) := by decide +kernel
theorem dL_law_652 : decode cL_law 652 = .ok (.aload_n 0, 1) := by decide +kernel
theorem dL_law_653 : decode cL_law 653 = .ok (.iload_n 3, 1) := by decide +kernel
theorem dL_law_654 : decode cL_law 654 = .ok (.iconst 1, 1) := by decide +kernel
theorem dL_law_655 : decode cL_law 655 = .ok (.iadd, 1) := by decide +kernel
theorem dL_law_656 : decode cL_law 656 = .ok (.iaload, 1) := by decide +kernel
theorem dL_law_657 : decode cL_law 657 = .ok (.aload_n 0, 1) := by decide +kernel
theorem dL_law_658 : decode cL_law 658 = .ok (.iload_n 3, 1) := by decide +kernel
theorem dL_law_659 : decode cL_law 659 = .ok (.iconst 2, 1) := by decide +kernel
theorem dL_law_660 : decode cL_law 660 = .ok (.iadd, 1) := by decide +kernel
theorem dL_law_661 : decode cL_law 661 = .ok (.iaload, 1) := by decide +kernel
theorem dL_law_662 : decode cL_law 662 = .ok (.invokevirtual 91, 3) := by decide +kernel
theorem dL_law_665 : decode cL_law 665 = .ok (.if_icmp .eq 473, 3) := by decide +kernel
theorem dL_law_668 : decode cL_law 668 = .ok (.iconst 0, 1) := by decide +kernel
theorem dL_law_669 : decode cL_law 669 = .ok (.ireturn, 1) := by decide +kernel
theorem dL_law_670 : decode cL_law 670 = .ok (.aload_n 1, 1) := by decide +kernel
theorem dL_law_671 : decode cL_law 671 = .ok (.aload_n 0, 1) := by decide +kernel
theorem dL_law_672 : decode cL_law 672 = .ok (.iload_n 3, 1) := by decide +kernel
theorem dL_law_673 : decode cL_law 673 = .ok (.iconst 1, 1) := by decide +kernel
theorem dL_law_674 : decode cL_law 674 = .ok (.iadd, 1) := by decide +kernel
theorem dL_law_675 : decode cL_law 675 = .ok (.iaload, 1) := by decide +kernel
theorem dL_law_676 : decode cL_law 676 = .ok (.aload_n 0, 1) := by decide +kernel
theorem dL_law_677 : decode cL_law 677 = .ok (.iload_n 3, 1) := by decide +kernel
theorem dL_law_678 : decode cL_law 678 = .ok (.iconst 2, 1) := by decide +kernel
theorem dL_law_679 : decode cL_law 679 = .ok (.iadd, 1) := by decide +kernel
theorem dL_law_680 : decode cL_law 680 = .ok (.iaload, 1) := by decide +kernel
theorem dL_law_681 : decode cL_law 681 = .ok (.aload_n 0, 1) := by decide +kernel
theorem dL_law_682 : decode cL_law 682 = .ok (.iload_n 3, 1) := by decide +kernel
theorem dL_law_683 : decode cL_law 683 = .ok (.iconst 3, 1) := by decide +kernel
theorem dL_law_684 : decode cL_law 684 = .ok (.iadd, 1) := by decide +kernel
theorem dL_law_685 : decode cL_law 685 = .ok (.iaload, 1) := by decide +kernel
theorem dL_law_686 : decode cL_law 686 = .ok (.invokevirtual 92, 3) := by decide +kernel
theorem dL_law_689 : decode cL_law 689 = .ok (.aload_n 2, 1) := by decide +kernel
theorem dL_law_690 : decode cL_law 690 = .ok (.aload_n 0, 1) := by decide +kernel
theorem dL_law_691 : decode cL_law 691 = .ok (.iload_n 3, 1) := by decide +kernel
theorem dL_law_692 : decode cL_law 692 = .ok (.iconst 1, 1) := by decide +kernel
theorem dL_law_693 : decode cL_law 693 = .ok (.iadd, 1) := by decide +kernel
theorem dL_law_694 : decode cL_law 694 = .ok (.iaload, 1) := by decide +kernel
theorem dL_law_695 : decode cL_law 695 = .ok (.aload_n 0, 1) := by decide +kernel
theorem dL_law_696 : decode cL_law 696 = .ok (.iload_n 3, 1) := by decide +kernel
theorem dL_law_697 : decode cL_law 697 = .ok (.iconst 2, 1) := by decide +kernel
theorem dL_law_698 : decode cL_law 698 = .ok (.iadd, 1) := by decide +kernel
theorem dL_law_699 : decode cL_law 699 = .ok (.iaload, 1) := by decide +kernel
theorem dL_law_700 : decode cL_law 700 = .ok (.aload_n 0, 1) := by decide +kernel
theorem dL_law_701 : decode cL_law 701 = .ok (.iload_n 3, 1) := by decide +kernel
theorem dL_law_702 : decode cL_law 702 = .ok (.iconst 3, 1) := by decide +kernel
theorem dL_law_703 : decode cL_law 703 = .ok (.iadd, 1) := by decide +kernel
theorem dL_law_704 : decode cL_law 704 = .ok (.iaload, 1) := by decide +kernel
theorem dL_law_705 : decode cL_law 705 = .ok (.invokevirtual 96, 3) := by decide +kernel
theorem dL_law_708 : decode cL_law 708 = .ok (.if_icmp .eq 430, 3) := by decide +kernel
theorem dL_law_711 : decode cL_law 711 = .ok (.iconst 0, 1) := by decide +kernel
theorem dL_law_712 : decode cL_law 712 = .ok (.ireturn, 1) := by decide +kernel
theorem dL_law_713 : decode cL_law 713 = .ok (.aload_n 1, 1) := by decide +kernel
theorem dL_law_714 : decode cL_law 714 = .ok (.aload_n 0, 1) := by decide +kernel
theorem dL_law_715 : decode cL_law 715 = .ok (.iload_n 3, 1) := by decide +kernel
theorem dL_law_716 : decode cL_law 716 = .ok (.iconst 1, 1) := by decide +kernel
theorem dL_law_717 : decode cL_law 717 = .ok (.iadd, 1) := by decide +kernel
theorem dL_law_718 : decode cL_law 718 = .ok (.iaload, 1) := by decide +kernel
theorem dL_law_719 : decode cL_law 719 = .ok (.aload_n 0, 1) := by decide +kernel
theorem dL_law_720 : decode cL_law 720 = .ok (.iload_n 3, 1) := by decide +kernel
theorem dL_law_721 : decode cL_law 721 = .ok (.iconst 2, 1) := by decide +kernel
theorem dL_law_722 : decode cL_law 722 = .ok (.iadd, 1) := by decide +kernel
theorem dL_law_723 : decode cL_law 723 = .ok (.iaload, 1) := by decide +kernel
theorem dL_law_724 : decode cL_law 724 = .ok (.invokevirtual 97, 3) := by decide +kernel
theorem dL_law_727 : decode cL_law 727 = .ok (.aload_n 2, 1) := by decide +kernel
theorem dL_law_728 : decode cL_law 728 = .ok (.aload_n 0, 1) := by decide +kernel
theorem dL_law_729 : decode cL_law 729 = .ok (.iload_n 3, 1) := by decide +kernel
theorem dL_law_730 : decode cL_law 730 = .ok (.iconst 1, 1) := by decide +kernel
theorem dL_law_731 : decode cL_law 731 = .ok (.iadd, 1) := by decide +kernel
theorem dL_law_732 : decode cL_law 732 = .ok (.iaload, 1) := by decide +kernel
theorem dL_law_733 : decode cL_law 733 = .ok (.aload_n 0, 1) := by decide +kernel
theorem dL_law_734 : decode cL_law 734 = .ok (.iload_n 3, 1) := by decide +kernel
theorem dL_law_735 : decode cL_law 735 = .ok (.iconst 2, 1) := by decide +kernel
theorem dL_law_736 : decode cL_law 736 = .ok (.iadd, 1) := by decide +kernel
theorem dL_law_737 : decode cL_law 737 = .ok (.iaload, 1) := by decide +kernel
theorem dL_law_738 : decode cL_law 738 = .ok (.invokevirtual 100, 3) := by decide +kernel
theorem dL_law_741 : decode cL_law 741 = .ok (.if_icmp .eq 397, 3) := by decide +kernel
theorem dL_law_744 : decode cL_law 744 = .ok (.iconst 0, 1) := by decide +kernel
theorem dL_law_745 : decode cL_law 745 = .ok (.ireturn, 1) := by decide +kernel
theorem dL_law_746 : decode cL_law 746 = .ok (.aload_n 1, 1) := by decide +kernel
theorem dL_law_747 : decode cL_law 747 = .ok (.aload_n 0, 1) := by decide +kernel
theorem dL_law_748 : decode cL_law 748 = .ok (.iload_n 3, 1) := by decide +kernel
theorem dL_law_749 : decode cL_law 749 = .ok (.iconst 1, 1) := by decide +kernel
theorem dL_law_750 : decode cL_law 750 = .ok (.iadd, 1) := by decide +kernel
theorem dL_law_751 : decode cL_law 751 = .ok (.iaload, 1) := by decide +kernel
theorem dL_law_752 : decode cL_law 752 = .ok (.aload_n 0, 1) := by decide +kernel
theorem dL_law_753 : decode cL_law 753 = .ok (.iload_n 3, 1) := by decide +kernel
theorem dL_law_754 : decode cL_law 754 = .ok (.iconst 2, 1) := by decide +kernel
theorem dL_law_755 : decode cL_law 755 = .ok (.iadd, 1) := by decide +kernel
theorem dL_law_756 : decode cL_law 756 = .ok (.iaload, 1) := by decide +kernel
theorem dL_law_757 : decode cL_law 757 = .ok (.aload_n 0, 1) := by decide +kernel
theorem dL_law_758 : decode cL_law 758 = .ok (.iload_n 3, 1) := by decide +kernel
theorem dL_law_759 : decode cL_law 759 = .ok (.iconst 3, 1) := by decide +kernel
theorem dL_law_760 : decode cL_law 760 = .ok (.iadd, 1) := by decide +kernel
theorem dL_law_761 : decode cL_law 761 = .ok (.iaload, 1) := by decide +kernel
theorem dL_law_762 : decode cL_law 762 = .ok (.aload_n 0, 1) := by decide +kernel
theorem dL_law_763 : decode cL_law 763 = .ok (.iload_n 3, 1) := by decide +kernel
theorem dL_law_764 : decode cL_law 764 = .ok (.iconst 4, 1) := by decide +kernel
theorem dL_law_765 : decode cL_law 765 = .ok (.iadd, 1) := by decide +kernel
theorem dL_law_766 : decode cL_law 766 = .ok (.iaload, 1) := by decide +kernel
theorem dL_law_767 : decode cL_law 767 = .ok (.invokevirtual 101, 3) := by decide +kernel
theorem dL_law_770 : decode cL_law 770 = .ok (.aload_n 2, 1) := by decide +kernel
theorem dL_law_771 : decode cL_law 771 = .ok (.aload_n 0, 1) := by decide +kernel
theorem dL_law_772 : decode cL_law 772 = .ok (.iload_n 3, 1) := by decide +kernel
theorem dL_law_773 : decode cL_law 773 = .ok (.iconst 1, 1) := by decide +kernel
theorem dL_law_774 : decode cL_law 774 = .ok (.iadd, 1) := by decide +kernel
theorem dL_law_775 : decode cL_law 775 = .ok (.iaload, 1) := by decide +kernel
theorem dL_law_776 : decode cL_law 776 = .ok (.aload_n 0, 1) := by decide +kernel
theorem dL_law_777 : decode cL_law 777 = .ok (.iload_n 3, 1) := by decide +kernel
theorem dL_law_778 : decode cL_law 778 = .ok (.iconst 2, 1) := by decide +kernel
theorem dL_law_779 : decode cL_law 779 = .ok (.iadd, 1) := by decide +kernel
theorem dL_law_780 : decode cL_law 780 = .ok (.iaload, 1) := by decide +kernel
theorem dL_law_781 : decode cL_law 781 = .ok (.aload_n 0, 1) := by decide +kernel
theorem dL_law_782 : decode cL_law 782 = .ok (.iload_n 3, 1) := by decide +kernel
theorem dL_law_783 : decode cL_law 783 = .ok (.iconst 3, 1) := by decide +kernel
theorem dL_law_784 : decode cL_law 784 = .ok (.iadd, 1) := by decide +kernel
theorem dL_law_785 : decode cL_law 785 = .ok (.iaload, 1) := by decide +kernel
theorem dL_law_786 : decode cL_law 786 = .ok (.aload_n 0, 1) := by decide +kernel
theorem dL_law_787 : decode cL_law 787 = .ok (.iload_n 3, 1) := by decide +kernel
theorem dL_law_788 : decode cL_law 788 = .ok (.iconst 4, 1) := by decide +kernel
theorem dL_law_789 : decode cL_law 789 = .ok (.iadd, 1) := by decide +kernel
theorem dL_law_790 : decode cL_law 790 = .ok (.iaload, 1) := by decide +kernel
theorem dL_law_791 : decode cL_law 791 = .ok (.invokevirtual 105, 3) := by decide +kernel
theorem dL_law_794 : decode cL_law 794 = .ok (.if_icmp .eq 344, 3) := by decide +kernel
theorem dL_law_797 : decode cL_law 797 = .ok (.iconst 0, 1) := by decide +kernel
theorem dL_law_798 : decode cL_law 798 = .ok (.ireturn, 1) := by decide +kernel
theorem dL_law_799 : decode cL_law 799 = .ok (.aload_n 1, 1) := by decide +kernel
theorem dL_law_800 : decode cL_law 800 = .ok (.aload_n 0, 1) := by decide +kernel
theorem dL_law_801 : decode cL_law 801 = .ok (.iload_n 3, 1) := by decide +kernel
theorem dL_law_802 : decode cL_law 802 = .ok (.iconst 1, 1) := by decide +kernel
theorem dL_law_803 : decode cL_law 803 = .ok (.iadd, 1) := by decide +kernel
theorem dL_law_804 : decode cL_law 804 = .ok (.iaload, 1) := by decide +kernel
theorem dL_law_805 : decode cL_law 805 = .ok (.aload_n 0, 1) := by decide +kernel
theorem dL_law_806 : decode cL_law 806 = .ok (.iload_n 3, 1) := by decide +kernel
theorem dL_law_807 : decode cL_law 807 = .ok (.iconst 2, 1) := by decide +kernel
theorem dL_law_808 : decode cL_law 808 = .ok (.iadd, 1) := by decide +kernel
theorem dL_law_809 : decode cL_law 809 = .ok (.iaload, 1) := by decide +kernel
theorem dL_law_810 : decode cL_law 810 = .ok (.aload_n 0, 1) := by decide +kernel
theorem dL_law_811 : decode cL_law 811 = .ok (.iload_n 3, 1) := by decide +kernel
theorem dL_law_812 : decode cL_law 812 = .ok (.iconst 3, 1) := by decide +kernel
theorem dL_law_813 : decode cL_law 813 = .ok (.iadd, 1) := by decide +kernel
theorem dL_law_814 : decode cL_law 814 = .ok (.iaload, 1) := by decide +kernel
theorem dL_law_815 : decode cL_law 815 = .ok (.aload_n 0, 1) := by decide +kernel
theorem dL_law_816 : decode cL_law 816 = .ok (.iload_n 3, 1) := by decide +kernel
theorem dL_law_817 : decode cL_law 817 = .ok (.iconst 4, 1) := by decide +kernel
theorem dL_law_818 : decode cL_law 818 = .ok (.iadd, 1) := by decide +kernel
theorem dL_law_819 : decode cL_law 819 = .ok (.iaload, 1) := by decide +kernel
theorem dL_law_820 : decode cL_law 820 = .ok (.ifCond .eq 7, 3) := by decide +kernel
theorem dL_law_823 : decode cL_law 823 = .ok (.iconst 1, 1) := by decide +kernel
theorem dL_law_824 : decode cL_law 824 = .ok (.goto 4, 3) := by decide +kernel
theorem dL_law_827 : decode cL_law 827 = .ok (.iconst 0, 1) := by decide +kernel
theorem dL_law_828 : decode cL_law 828 = .ok (.invokevirtual 106, 3) := by decide +kernel
theorem dL_law_831 : decode cL_law 831 = .ok (.aload_n 2, 1) := by decide +kernel
theorem dL_law_832 : decode cL_law 832 = .ok (.aload_n 0, 1) := by decide +kernel
theorem dL_law_833 : decode cL_law 833 = .ok (.iload_n 3, 1) := by decide +kernel
theorem dL_law_834 : decode cL_law 834 = .ok (.iconst 1, 1) := by decide +kernel
theorem dL_law_835 : decode cL_law 835 = .ok (.iadd, 1) := by decide +kernel
theorem dL_law_836 : decode cL_law 836 = .ok (.iaload, 1) := by decide +kernel
theorem dL_law_837 : decode cL_law 837 = .ok (.aload_n 0, 1) := by decide +kernel
theorem dL_law_838 : decode cL_law 838 = .ok (.iload_n 3, 1) := by decide +kernel
theorem dL_law_839 : decode cL_law 839 = .ok (.iconst 2, 1) := by decide +kernel
theorem dL_law_840 : decode cL_law 840 = .ok (.iadd, 1) := by decide +kernel
theorem dL_law_841 : decode cL_law 841 = .ok (.iaload, 1) := by decide +kernel
theorem dL_law_842 : decode cL_law 842 = .ok (.aload_n 0, 1) := by decide +kernel
theorem dL_law_843 : decode cL_law 843 = .ok (.iload_n 3, 1) := by decide +kernel
theorem dL_law_844 : decode cL_law 844 = .ok (.iconst 3, 1) := by decide +kernel
theorem dL_law_845 : decode cL_law 845 = .ok (.iadd, 1) := by decide +kernel
theorem dL_law_846 : decode cL_law 846 = .ok (.iaload, 1) := by decide +kernel
theorem dL_law_847 : decode cL_law 847 = .ok (.aload_n 0, 1) := by decide +kernel
theorem dL_law_848 : decode cL_law 848 = .ok (.iload_n 3, 1) := by decide +kernel
theorem dL_law_849 : decode cL_law 849 = .ok (.iconst 4, 1) := by decide +kernel
theorem dL_law_850 : decode cL_law 850 = .ok (.iadd, 1) := by decide +kernel
theorem dL_law_851 : decode cL_law 851 = .ok (.iaload, 1) := by decide +kernel
theorem dL_law_852 : decode cL_law 852 = .ok (.ifCond .eq 7, 3) := by decide +kernel
theorem dL_law_855 : decode cL_law 855 = .ok (.iconst 1, 1) := by decide +kernel
theorem dL_law_856 : decode cL_law 856 = .ok (.goto 4, 3) := by decide +kernel
theorem dL_law_859 : decode cL_law 859 = .ok (.iconst 0, 1) := by decide +kernel
theorem dL_law_860 : decode cL_law 860 = .ok (.invokevirtual 110, 3) := by decide +kernel
theorem dL_law_863 : decode cL_law 863 = .ok (.if_icmp .eq 275, 3) := by decide +kernel
theorem dL_law_866 : decode cL_law 866 = .ok (.iconst 0, 1) := by decide +kernel
theorem dL_law_867 : decode cL_law 867 = .ok (.ireturn, 1) := by decide +kernel
theorem dL_law_868 : decode cL_law 868 = .ok (.aload_n 1, 1) := by decide +kernel
theorem dL_law_869 : decode cL_law 869 = .ok (.aload_n 0, 1) := by decide +kernel
theorem dL_law_870 : decode cL_law 870 = .ok (.iload_n 3, 1) := by decide +kernel
theorem dL_law_871 : decode cL_law 871 = .ok (.iconst 1, 1) := by decide +kernel
theorem dL_law_872 : decode cL_law 872 = .ok (.iadd, 1) := by decide +kernel
theorem dL_law_873 : decode cL_law 873 = .ok (.iaload, 1) := by decide +kernel
theorem dL_law_874 : decode cL_law 874 = .ok (.invokevirtual 111, 3) := by decide +kernel
theorem dL_law_877 : decode cL_law 877 = .ok (.aload_n 2, 1) := by decide +kernel
theorem dL_law_878 : decode cL_law 878 = .ok (.aload_n 0, 1) := by decide +kernel
theorem dL_law_879 : decode cL_law 879 = .ok (.iload_n 3, 1) := by decide +kernel
theorem dL_law_880 : decode cL_law 880 = .ok (.iconst 1, 1) := by decide +kernel
theorem dL_law_881 : decode cL_law 881 = .ok (.iadd, 1) := by decide +kernel
theorem dL_law_882 : decode cL_law 882 = .ok (.iaload, 1) := by decide +kernel
theorem dL_law_883 : decode cL_law 883 = .ok (.invokevirtual 114, 3) := by decide +kernel
theorem dL_law_886 : decode cL_law 886 = .ok (.if_icmp .eq 252, 3) := by decide +kernel
theorem dL_law_889 : decode cL_law 889 = .ok (.iconst 0, 1) := by decide +kernel
theorem dL_law_890 : decode cL_law 890 = .ok (.ireturn, 1) := by decide +kernel
theorem dL_law_891 : decode cL_law 891 = .ok (.aload_n 1, 1) := by decide +kernel
theorem dL_law_892 : decode cL_law 892 = .ok (.aload_n 0, 1) := by decide +kernel
theorem dL_law_893 : decode cL_law 893 = .ok (.iload_n 3, 1) := by decide +kernel
theorem dL_law_894 : decode cL_law 894 = .ok (.iconst 1, 1) := by decide +kernel
theorem dL_law_895 : decode cL_law 895 = .ok (.iadd, 1) := by decide +kernel
theorem dL_law_896 : decode cL_law 896 = .ok (.iaload, 1) := by decide +kernel
theorem dL_law_897 : decode cL_law 897 = .ok (.aload_n 0, 1) := by decide +kernel
theorem dL_law_898 : decode cL_law 898 = .ok (.iload_n 3, 1) := by decide +kernel
theorem dL_law_899 : decode cL_law 899 = .ok (.iconst 2, 1) := by decide +kernel
theorem dL_law_900 : decode cL_law 900 = .ok (.iadd, 1) := by decide +kernel
theorem dL_law_901 : decode cL_law 901 = .ok (.iaload, 1) := by decide +kernel
theorem dL_law_902 : decode cL_law 902 = .ok (.invokevirtual 115, 3) := by decide +kernel
theorem dL_law_905 : decode cL_law 905 = .ok (.aload_n 2, 1) := by decide +kernel
theorem dL_law_906 : decode cL_law 906 = .ok (.aload_n 0, 1) := by decide +kernel
theorem dL_law_907 : decode cL_law 907 = .ok (.iload_n 3, 1) := by decide +kernel
theorem dL_law_908 : decode cL_law 908 = .ok (.iconst 1, 1) := by decide +kernel
theorem dL_law_909 : decode cL_law 909 = .ok (.iadd, 1) := by decide +kernel
theorem dL_law_910 : decode cL_law 910 = .ok (.iaload, 1) := by decide +kernel
theorem dL_law_911 : decode cL_law 911 = .ok (.aload_n 0, 1) := by decide +kernel
theorem dL_law_912 : decode cL_law 912 = .ok (.iload_n 3, 1) := by decide +kernel
theorem dL_law_913 : decode cL_law 913 = .ok (.iconst 2, 1) := by decide +kernel
theorem dL_law_914 : decode cL_law 914 = .ok (.iadd, 1) := by decide +kernel
theorem dL_law_915 : decode cL_law 915 = .ok (.iaload, 1) := by decide +kernel
theorem dL_law_916 : decode cL_law 916 = .ok (.invokevirtual 118, 3) := by decide +kernel
theorem dL_law_919 : decode cL_law 919 = .ok (.if_icmp .eq 219, 3) := by decide +kernel
theorem dL_law_922 : decode cL_law 922 = .ok (.iconst 0, 1) := by decide +kernel
theorem dL_law_923 : decode cL_law 923 = .ok (.ireturn, 1) := by decide +kernel
theorem dL_law_924 : decode cL_law 924 = .ok (.aload_n 1, 1) := by decide +kernel
theorem dL_law_925 : decode cL_law 925 = .ok (.aload_n 0, 1) := by decide +kernel
theorem dL_law_926 : decode cL_law 926 = .ok (.iload_n 3, 1) := by decide +kernel
theorem dL_law_927 : decode cL_law 927 = .ok (.iconst 1, 1) := by decide +kernel
theorem dL_law_928 : decode cL_law 928 = .ok (.iadd, 1) := by decide +kernel
theorem dL_law_929 : decode cL_law 929 = .ok (.iaload, 1) := by decide +kernel
theorem dL_law_930 : decode cL_law 930 = .ok (.aload_n 0, 1) := by decide +kernel
theorem dL_law_931 : decode cL_law 931 = .ok (.iload_n 3, 1) := by decide +kernel
theorem dL_law_932 : decode cL_law 932 = .ok (.iconst 2, 1) := by decide +kernel
theorem dL_law_933 : decode cL_law 933 = .ok (.iadd, 1) := by decide +kernel
theorem dL_law_934 : decode cL_law 934 = .ok (.iaload, 1) := by decide +kernel
theorem dL_law_935 : decode cL_law 935 = .ok (.invokevirtual 119, 3) := by decide +kernel
theorem dL_law_938 : decode cL_law 938 = .ok (.aload_n 2, 1) := by decide +kernel
theorem dL_law_939 : decode cL_law 939 = .ok (.aload_n 0, 1) := by decide +kernel
theorem dL_law_940 : decode cL_law 940 = .ok (.iload_n 3, 1) := by decide +kernel
theorem dL_law_941 : decode cL_law 941 = .ok (.iconst 1, 1) := by decide +kernel
theorem dL_law_942 : decode cL_law 942 = .ok (.iadd, 1) := by decide +kernel
theorem dL_law_943 : decode cL_law 943 = .ok (.iaload, 1) := by decide +kernel
theorem dL_law_944 : decode cL_law 944 = .ok (.aload_n 0, 1) := by decide +kernel
theorem dL_law_945 : decode cL_law 945 = .ok (.iload_n 3, 1) := by decide +kernel
theorem dL_law_946 : decode cL_law 946 = .ok (.iconst 2, 1) := by decide +kernel
theorem dL_law_947 : decode cL_law 947 = .ok (.iadd, 1) := by decide +kernel
theorem dL_law_948 : decode cL_law 948 = .ok (.iaload, 1) := by decide +kernel
theorem dL_law_949 : decode cL_law 949 = .ok (.invokevirtual 122, 3) := by decide +kernel
theorem dL_law_952 : decode cL_law 952 = .ok (.if_icmp .eq 186, 3) := by decide +kernel
theorem dL_law_955 : decode cL_law 955 = .ok (.iconst 0, 1) := by decide +kernel
theorem dL_law_956 : decode cL_law 956 = .ok (.ireturn, 1) := by decide +kernel
theorem dL_law_957 : decode cL_law 957 = .ok (.aload_n 1, 1) := by decide +kernel
theorem dL_law_958 : decode cL_law 958 = .ok (.invokevirtual 123, 3) := by decide +kernel
theorem dL_law_961 : decode cL_law 961 = .ok (.aload_n 2, 1) := by decide +kernel
theorem dL_law_962 : decode cL_law 962 = .ok (.invokevirtual 126, 3) := by decide +kernel
theorem dL_law_965 : decode cL_law 965 = .ok (.if_icmp .eq 173, 3) := by decide +kernel
theorem dL_law_968 : decode cL_law 968 = .ok (.iconst 0, 1) := by decide +kernel
theorem dL_law_969 : decode cL_law 969 = .ok (.ireturn, 1) := by decide +kernel
theorem dL_law_970 : decode cL_law 970 = .ok (.aload_n 1, 1) := by decide +kernel
theorem dL_law_971 : decode cL_law 971 = .ok (.aload_n 0, 1) := by decide +kernel
theorem dL_law_972 : decode cL_law 972 = .ok (.iload_n 3, 1) := by decide +kernel
theorem dL_law_973 : decode cL_law 973 = .ok (.iconst 1, 1) := by decide +kernel
theorem dL_law_974 : decode cL_law 974 = .ok (.iadd, 1) := by decide +kernel
theorem dL_law_975 : decode cL_law 975 = .ok (.iaload, 1) := by decide +kernel
theorem dL_law_976 : decode cL_law 976 = .ok (.aload_n 0, 1) := by decide +kernel
theorem dL_law_977 : decode cL_law 977 = .ok (.iload_n 3, 1) := by decide +kernel
theorem dL_law_978 : decode cL_law 978 = .ok (.iconst 2, 1) := by decide +kernel
theorem dL_law_979 : decode cL_law 979 = .ok (.iadd, 1) := by decide +kernel
theorem dL_law_980 : decode cL_law 980 = .ok (.iaload, 1) := by decide +kernel
theorem dL_law_981 : decode cL_law 981 = .ok (.invokevirtual 127, 3) := by decide +kernel
theorem dL_law_984 : decode cL_law 984 = .ok (.aload_n 2, 1) := by decide +kernel
theorem dL_law_985 : decode cL_law 985 = .ok (.aload_n 0, 1) := by decide +kernel
theorem dL_law_986 : decode cL_law 986 = .ok (.iload_n 3, 1) := by decide +kernel
theorem dL_law_987 : decode cL_law 987 = .ok (.iconst 1, 1) := by decide +kernel
theorem dL_law_988 : decode cL_law 988 = .ok (.iadd, 1) := by decide +kernel
theorem dL_law_989 : decode cL_law 989 = .ok (.iaload, 1) := by decide +kernel
theorem dL_law_990 : decode cL_law 990 = .ok (.aload_n 0, 1) := by decide +kernel
theorem dL_law_991 : decode cL_law 991 = .ok (.iload_n 3, 1) := by decide +kernel
theorem dL_law_992 : decode cL_law 992 = .ok (.iconst 2, 1) := by decide +kernel
theorem dL_law_993 : decode cL_law 993 = .ok (.iadd, 1) := by decide +kernel
theorem dL_law_994 : decode cL_law 994 = .ok (.iaload, 1) := by decide +kernel
theorem dL_law_995 : decode cL_law 995 = .ok (.invokevirtual 130, 3) := by decide +kernel
theorem dL_law_998 : decode cL_law 998 = .ok (.if_icmp .eq 140, 3) := by decide +kernel
theorem dL_law_1001 : decode cL_law 1001 = .ok (.iconst 0, 1) := by decide +kernel
theorem dL_law_1002 : decode cL_law 1002 = .ok (.ireturn, 1) := by decide +kernel
theorem dL_law_1003 : decode cL_law 1003 = .ok (.aload_n 1, 1) := by decide +kernel
theorem dL_law_1004 : decode cL_law 1004 = .ok (.aload_n 0, 1) := by decide +kernel
theorem dL_law_1005 : decode cL_law 1005 = .ok (.iload_n 3, 1) := by decide +kernel
theorem dL_law_1006 : decode cL_law 1006 = .ok (.iconst 1, 1) := by decide +kernel
theorem dL_law_1007 : decode cL_law 1007 = .ok (.iadd, 1) := by decide +kernel
theorem dL_law_1008 : decode cL_law 1008 = .ok (.iaload, 1) := by decide +kernel
theorem dL_law_1009 : decode cL_law 1009 = .ok (.aload_n 0, 1) := by decide +kernel
theorem dL_law_1010 : decode cL_law 1010 = .ok (.iload_n 3, 1) := by decide +kernel
theorem dL_law_1011 : decode cL_law 1011 = .ok (.iconst 2, 1) := by decide +kernel
theorem dL_law_1012 : decode cL_law 1012 = .ok (.iadd, 1) := by decide +kernel
theorem dL_law_1013 : decode cL_law 1013 = .ok (.iaload, 1) := by decide +kernel
theorem dL_law_1014 : decode cL_law 1014 = .ok (.aload_n 0, 1) := by decide +kernel
theorem dL_law_1015 : decode cL_law 1015 = .ok (.iload_n 3, 1) := by decide +kernel
theorem dL_law_1016 : decode cL_law 1016 = .ok (.iconst 3, 1) := by decide +kernel
theorem dL_law_1017 : decode cL_law 1017 = .ok (.iadd, 1) := by decide +kernel
theorem dL_law_1018 : decode cL_law 1018 = .ok (.iaload, 1) := by decide +kernel
theorem dL_law_1019 : decode cL_law 1019 = .ok (.invokevirtual 131, 3) := by decide +kernel
theorem dL_law_1022 : decode cL_law 1022 = .ok (.aload_n 2, 1) := by decide +kernel
theorem dL_law_1023 : decode cL_law 1023 = .ok (.aload_n 0, 1) := by decide +kernel
theorem dL_law_1024 : decode cL_law 1024 = .ok (.iload_n 3, 1) := by decide +kernel
theorem dL_law_1025 : decode cL_law 1025 = .ok (.iconst 1, 1) := by decide +kernel
theorem dL_law_1026 : decode cL_law 1026 = .ok (.iadd, 1) := by decide +kernel
theorem dL_law_1027 : decode cL_law 1027 = .ok (.iaload, 1) := by decide +kernel
theorem dL_law_1028 : decode cL_law 1028 = .ok (.aload_n 0, 1) := by decide +kernel
theorem dL_law_1029 : decode cL_law 1029 = .ok (.iload_n 3, 1) := by decide +kernel
theorem dL_law_1030 : decode cL_law 1030 = .ok (.iconst 2, 1) := by decide +kernel
theorem dL_law_1031 : decode cL_law 1031 = .ok (.iadd, 1) := by decide +kernel
theorem dL_law_1032 : decode cL_law 1032 = .ok (.iaload, 1) := by decide +kernel
theorem dL_law_1033 : decode cL_law 1033 = .ok (.aload_n 0, 1) := by decide +kernel
theorem dL_law_1034 : decode cL_law 1034 = .ok (.iload_n 3, 1) := by decide +kernel
theorem dL_law_1035 : decode cL_law 1035 = .ok (.iconst 3, 1) := by decide +kernel
theorem dL_law_1036 : decode cL_law 1036 = .ok (.iadd, 1) := by decide +kernel
theorem dL_law_1037 : decode cL_law 1037 = .ok (.iaload, 1) := by decide +kernel
theorem dL_law_1038 : decode cL_law 1038 = .ok (.invokevirtual 134, 3) := by decide +kernel
theorem dL_law_1041 : decode cL_law 1041 = .ok (.if_icmp .eq 97, 3) := by decide +kernel
theorem dL_law_1044 : decode cL_law 1044 = .ok (.iconst 0, 1) := by decide +kernel
theorem dL_law_1045 : decode cL_law 1045 = .ok (.ireturn, 1) := by decide +kernel
theorem dL_law_1046 : decode cL_law 1046 = .ok (.aload_n 1, 1) := by decide +kernel
theorem dL_law_1047 : decode cL_law 1047 = .ok (.aload_n 0, 1) := by decide +kernel
theorem dL_law_1048 : decode cL_law 1048 = .ok (.iload_n 3, 1) := by decide +kernel
theorem dL_law_1049 : decode cL_law 1049 = .ok (.iconst 1, 1) := by decide +kernel
theorem dL_law_1050 : decode cL_law 1050 = .ok (.iadd, 1) := by decide +kernel
theorem dL_law_1051 : decode cL_law 1051 = .ok (.iaload, 1) := by decide +kernel
theorem dL_law_1052 : decode cL_law 1052 = .ok (.invokevirtual 135, 3) := by decide +kernel
theorem dL_law_1055 : decode cL_law 1055 = .ok (.aload_n 2, 1) := by decide +kernel
theorem dL_law_1056 : decode cL_law 1056 = .ok (.aload_n 0, 1) := by decide +kernel
theorem dL_law_1057 : decode cL_law 1057 = .ok (.iload_n 3, 1) := by decide +kernel
theorem dL_law_1058 : decode cL_law 1058 = .ok (.iconst 1, 1) := by decide +kernel
theorem dL_law_1059 : decode cL_law 1059 = .ok (.iadd, 1) := by decide +kernel
theorem dL_law_1060 : decode cL_law 1060 = .ok (.iaload, 1) := by decide +kernel
theorem dL_law_1061 : decode cL_law 1061 = .ok (.invokevirtual 138, 3) := by decide +kernel
theorem dL_law_1064 : decode cL_law 1064 = .ok (.if_icmp .eq 74, 3) := by decide +kernel
theorem dL_law_1067 : decode cL_law 1067 = .ok (.iconst 0, 1) := by decide +kernel
theorem dL_law_1068 : decode cL_law 1068 = .ok (.ireturn, 1) := by decide +kernel
theorem dL_law_1069 : decode cL_law 1069 = .ok (.aload_n 1, 1) := by decide +kernel
theorem dL_law_1070 : decode cL_law 1070 = .ok (.aload_n 0, 1) := by decide +kernel
theorem dL_law_1071 : decode cL_law 1071 = .ok (.iload_n 3, 1) := by decide +kernel
theorem dL_law_1072 : decode cL_law 1072 = .ok (.iconst 1, 1) := by decide +kernel
theorem dL_law_1073 : decode cL_law 1073 = .ok (.iadd, 1) := by decide +kernel
theorem dL_law_1074 : decode cL_law 1074 = .ok (.iaload, 1) := by decide +kernel
theorem dL_law_1075 : decode cL_law 1075 = .ok (.invokevirtual 139, 3) := by decide +kernel
theorem dL_law_1078 : decode cL_law 1078 = .ok (.aload_n 2, 1) := by decide +kernel
theorem dL_law_1079 : decode cL_law 1079 = .ok (.aload_n 0, 1) := by decide +kernel
theorem dL_law_1080 : decode cL_law 1080 = .ok (.iload_n 3, 1) := by decide +kernel
theorem dL_law_1081 : decode cL_law 1081 = .ok (.iconst 1, 1) := by decide +kernel
theorem dL_law_1082 : decode cL_law 1082 = .ok (.iadd, 1) := by decide +kernel
theorem dL_law_1083 : decode cL_law 1083 = .ok (.iaload, 1) := by decide +kernel
theorem dL_law_1084 : decode cL_law 1084 = .ok (.invokevirtual 143, 3) := by decide +kernel
theorem dL_law_1087 : decode cL_law 1087 = .ok (.if_icmp .eq 51, 3) := by decide +kernel
theorem dL_law_1090 : decode cL_law 1090 = .ok (.iconst 0, 1) := by decide +kernel
theorem dL_law_1091 : decode cL_law 1091 = .ok (.ireturn, 1) := by decide +kernel
theorem dL_law_1092 : decode cL_law 1092 = .ok (.aload_n 1, 1) := by decide +kernel
theorem dL_law_1093 : decode cL_law 1093 = .ok (.aload_n 0, 1) := by decide +kernel
theorem dL_law_1094 : decode cL_law 1094 = .ok (.iload_n 3, 1) := by decide +kernel
theorem dL_law_1095 : decode cL_law 1095 = .ok (.iconst 1, 1) := by decide +kernel
theorem dL_law_1096 : decode cL_law 1096 = .ok (.iadd, 1) := by decide +kernel
theorem dL_law_1097 : decode cL_law 1097 = .ok (.iaload, 1) := by decide +kernel
theorem dL_law_1098 : decode cL_law 1098 = .ok (.invokevirtual 144, 3) := by decide +kernel
theorem dL_law_1101 : decode cL_law 1101 = .ok (.aload_n 2, 1) := by decide +kernel
theorem dL_law_1102 : decode cL_law 1102 = .ok (.aload_n 0, 1) := by decide +kernel
theorem dL_law_1103 : decode cL_law 1103 = .ok (.iload_n 3, 1) := by decide +kernel
theorem dL_law_1104 : decode cL_law 1104 = .ok (.iconst 1, 1) := by decide +kernel
theorem dL_law_1105 : decode cL_law 1105 = .ok (.iadd, 1) := by decide +kernel
theorem dL_law_1106 : decode cL_law 1106 = .ok (.iaload, 1) := by decide +kernel
theorem dL_law_1107 : decode cL_law 1107 = .ok (.invokevirtual 147, 3) := by decide +kernel
theorem dL_law_1110 : decode cL_law 1110 = .ok (.if_icmp .eq 28, 3) := by decide +kernel
theorem dL_law_1113 : decode cL_law 1113 = .ok (.iconst 0, 1) := by decide +kernel
theorem dL_law_1114 : decode cL_law 1114 = .ok (.ireturn, 1) := by decide +kernel
theorem dL_law_1115 : decode cL_law 1115 = .ok (.aload_n 1, 1) := by decide +kernel
theorem dL_law_1116 : decode cL_law 1116 = .ok (.aload_n 0, 1) := by decide +kernel
theorem dL_law_1117 : decode cL_law 1117 = .ok (.iload_n 3, 1) := by decide +kernel
theorem dL_law_1118 : decode cL_law 1118 = .ok (.iconst 1, 1) := by decide +kernel
theorem dL_law_1119 : decode cL_law 1119 = .ok (.iadd, 1) := by decide +kernel
theorem dL_law_1120 : decode cL_law 1120 = .ok (.iaload, 1) := by decide +kernel
theorem dL_law_1121 : decode cL_law 1121 = .ok (.invokevirtual 148, 3) := by decide +kernel
theorem dL_law_1124 : decode cL_law 1124 = .ok (.aload_n 2, 1) := by decide +kernel
theorem dL_law_1125 : decode cL_law 1125 = .ok (.aload_n 0, 1) := by decide +kernel
theorem dL_law_1126 : decode cL_law 1126 = .ok (.iload_n 3, 1) := by decide +kernel
theorem dL_law_1127 : decode cL_law 1127 = .ok (.iconst 1, 1) := by decide +kernel
theorem dL_law_1128 : decode cL_law 1128 = .ok (.iadd, 1) := by decide +kernel
theorem dL_law_1129 : decode cL_law 1129 = .ok (.iaload, 1) := by decide +kernel
theorem dL_law_1130 : decode cL_law 1130 = .ok (.invokevirtual 151, 3) := by decide +kernel
theorem dL_law_1133 : decode cL_law 1133 = .ok (.if_icmp .eq 5, 3) := by decide +kernel
theorem dL_law_1136 : decode cL_law 1136 = .ok (.iconst 0, 1) := by decide +kernel
theorem dL_law_1137 : decode cL_law 1137 = .ok (.ireturn, 1) := by decide +kernel
theorem dL_law_1138 : decode cL_law 1138 = .ok (.iinc 3 6, 3) := by decide +kernel
theorem dL_law_1141 : decode cL_law 1141 = .ok (.goto (-1123), 3) := by decide +kernel
theorem dL_law_1144 : decode cL_law 1144 = .ok (.iconst 1, 1) := by decide +kernel
theorem dL_law_1145 : decode cL_law 1145 = .ok (.ireturn, 1) := by decide +kernel
