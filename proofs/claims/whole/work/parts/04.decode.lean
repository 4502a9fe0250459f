theorem d_M_accepts_21 : decode b_M_accepts 21 = .ok (.iload_n 2, 1) := by decide +kernel
theorem d_M_accepts_22 : decode b_M_accepts 22 = .ok (.i2l, 1) := by decide +kernel
theorem d_M_accepts_23 : decode b_M_accepts 23 = .ok (.aload_n 0, 1) := by decide +kernel
theorem d_M_accepts_24 : decode b_M_accepts 24 = .ok (.getfield 9, 3) := by decide +kernel
theorem d_M_accepts_27 : decode b_M_accepts 27 = .ok (.aload_n 0, 1) := by decide +kernel
theorem d_M_accepts_28 : decode b_M_accepts 28 = .ok (.getfield 17, 3) := by decide +kernel
theorem d_M_accepts_31 : decode b_M_accepts 31 = .ok (.invokestatic 41, 3) := by decide +kernel
theorem d_M_accepts_34 : decode b_M_accepts 34 = .ok (.ifCond .eq 63, 3) := by decide +kernel
theorem d_M_accepts_37 : decode b_M_accepts 37 = .ok (.aload_n 0, 1) := by decide +kernel
theorem d_M_accepts_38 : decode b_M_accepts 38 = .ok (.iload_n 3, 1) := by decide +kernel
theorem d_M_accepts_39 : decode b_M_accepts 39 = .ok (.i2l, 1) := by decide +kernel
theorem d_M_accepts_40 : decode b_M_accepts 40 = .ok (.invokevirtual 54, 3) := by decide +kernel
theorem d_M_accepts_43 : decode b_M_accepts 43 = .ok (.ifCond .eq 54, 3) := by decide +kernel
theorem d_M_accepts_46 : decode b_M_accepts 46 = .ok (.aload_n 0, 1) := by decide +kernel
theorem d_M_accepts_47 : decode b_M_accepts 47 = .ok (.iload 4, 2) := by decide +kernel
theorem d_M_accepts_49 : decode b_M_accepts 49 = .ok (.i2l, 1) := by decide +kernel
theorem d_M_accepts_50 : decode b_M_accepts 50 = .ok (.invokevirtual 54, 3) := by decide +kernel
theorem d_M_accepts_53 : decode b_M_accepts 53 = .ok (.ifCond .eq 44, 3) := by decide +kernel
theorem d_M_accepts_56 : decode b_M_accepts 56 = .ok (.aload_n 0, 1) := by decide +kernel
theorem d_M_accepts_57 : decode b_M_accepts 57 = .ok (.getfield 22, 3) := by decide +kernel
theorem d_M_accepts_60 : decode b_M_accepts 60 = .ok (.iload 4, 2) := by decide +kernel
theorem d_M_accepts_62 : decode b_M_accepts 62 = .ok (.i2l, 1) := by decide +kernel
theorem d_M_accepts_63 : decode b_M_accepts 63 = .ok (.aload_n 0, 1) := by decide +kernel
theorem d_M_accepts_64 : decode b_M_accepts 64 = .ok (.getfield 9, 3) := by decide +kernel
theorem d_M_accepts_67 : decode b_M_accepts 67 = .ok (.invokestatic 33, 3) := by decide +kernel
theorem d_M_accepts_70 : decode b_M_accepts 70 = .ok (.iload_n 2, 1) := by decide +kernel
theorem d_M_accepts_71 : decode b_M_accepts 71 = .ok (.i2l, 1) := by decide +kernel
theorem d_M_accepts_72 : decode b_M_accepts 72 = .ok (.iload_n 1, 1) := by decide +kernel
theorem d_M_accepts_73 : decode b_M_accepts 73 = .ok (.i2l, 1) := by decide +kernel
theorem d_M_accepts_74 : decode b_M_accepts 74 = .ok (.iload_n 3, 1) := by decide +kernel
theorem d_M_accepts_75 : decode b_M_accepts 75 = .ok (.i2l, 1) := by decide +kernel
theorem d_M_accepts_76 : decode b_M_accepts 76 = .ok (.aload_n 0, 1) := by decide +kernel
theorem d_M_accepts_77 : decode b_M_accepts 77 = .ok (.getfield 9, 3) := by decide +kernel
theorem d_M_accepts_80 : decode b_M_accepts 80 = .ok (.invokestatic 33, 3) := by decide +kernel
theorem d_M_accepts_83 : decode b_M_accepts 83 = .ok (.lmul, 1) := by decide +kernel
theorem d_M_accepts_84 : decode b_M_accepts 84 = .ok (.aload_n 0, 1) := by decide +kernel
theorem d_M_accepts_85 : decode b_M_accepts 85 = .ok (.getfield 9, 3) := by decide +kernel
theorem d_M_accepts_88 : decode b_M_accepts 88 = .ok (.lrem, 1) := by decide +kernel
theorem d_M_accepts_89 : decode b_M_accepts 89 = .ok (.lcmp, 1) := by decide +kernel
theorem d_M_accepts_90 : decode b_M_accepts 90 = .ok (.ifCond .ne 7, 3) := by decide +kernel
theorem d_M_accepts_93 : decode b_M_accepts 93 = .ok (.iconst 1, 1) := by decide +kernel
theorem d_M_accepts_94 : decode b_M_accepts 94 = .ok (.goto 4, 3) := by decide +kernel
theorem d_M_accepts_97 : decode b_M_accepts 97 = .ok (.iconst 0, 1) := by decide +kernel
theorem d_M_accepts_98 : decode b_M_accepts 98 = .ok (.ireturn, 1) := by decide +kernel
theorem d_M_answer_0 : decode b_M_answer 0 = .ok (.aload_n 0, 1) := by decide +kernel
theorem d_M_answer_1 : decode b_M_answer 1 = .ok (.iconst 0, 1) := by decide +kernel
theorem d_M_answer_2 : decode b_M_answer 2 = .ok (.putfield 25, 3) := by decide +kernel
theorem d_M_answer_5 : decode b_M_answer 5 = .ok (.aload_n 0, 1) := by decide +kernel
theorem d_M_answer_6 : decode b_M_answer 6 = .ok (.aload_n 0, 1) := by decide +kernel
theorem d_M_answer_7 : decode b_M_answer 7 = .ok (.iload_n 1, 1) := by decide +kernel
theorem d_M_answer_8 : decode b_M_answer 8 = .ok (.i2l, 1) := by decide +kernel
theorem d_M_answer_9 : decode b_M_answer 9 = .ok (.invokevirtual 54, 3) := by decide +kernel
theorem d_M_answer_12 : decode b_M_answer 12 = .ok (.ifCond .eq 21, 3) := by decide +kernel
theorem d_M_answer_15 : decode b_M_answer 15 = .ok (.aload_n 0, 1) := by decide +kernel
theorem d_M_answer_16 : decode b_M_answer 16 = .ok (.iload_n 2, 1) := by decide +kernel
theorem d_M_answer_17 : decode b_M_answer 17 = .ok (.i2l, 1) := by decide +kernel
theorem d_M_answer_18 : decode b_M_answer 18 = .ok (.invokevirtual 54, 3) := by decide +kernel
theorem d_M_answer_21 : decode b_M_answer 21 = .ok (.ifCond .eq 12, 3) := by decide +kernel
theorem d_M_answer_24 : decode b_M_answer 24 = .ok (.aload_n 0, 1) := by decide +kernel
theorem d_M_answer_25 : decode b_M_answer 25 = .ok (.iload_n 3, 1) := by decide +kernel
theorem d_M_answer_26 : decode b_M_answer 26 = .ok (.i2l, 1) := by decide +kernel
theorem d_M_answer_27 : decode b_M_answer 27 = .ok (.invokevirtual 54, 3) := by decide +kernel
theorem d_M_answer_30 : decode b_M_answer 30 = .ok (.ifCond .ne 7, 3) := by decide +kernel
theorem d_M_answer_33 : decode b_M_answer 33 = .ok (.iconst 1, 1) := by decide +kernel
theorem d_M_answer_34 : decode b_M_answer 34 = .ok (.goto 4, 3) := by decide +kernel
theorem d_M_answer_37 : decode b_M_answer 37 = .ok (.iconst 0, 1) := by decide +kernel
theorem d_M_answer_38 : decode b_M_answer 38 = .ok (.iconst 1, 1) := by decide +kernel
theorem d_M_answer_39 : decode b_M_answer 39 = .ok (.invokevirtual 44, 3) := by decide +kernel
theorem d_M_answer_42 : decode b_M_answer 42 = .ok (.ifCond .eq 7, 3) := by decide +kernel
theorem d_M_answer_45 : decode b_M_answer 45 = .ok (.iconst 0, 1) := by decide +kernel
theorem d_M_answer_46 : decode b_M_answer 46 = .ok (.goto 17, 3) := by decide +kernel
theorem d_M_answer_49 : decode b_M_answer 49 = .ok (.iload_n 2, 1) := by decide +kernel
theorem d_M_answer_50 : decode b_M_answer 50 = .ok (.i2l, 1) := by decide +kernel
theorem d_M_answer_51 : decode b_M_answer 51 = .ok (.iload_n 3, 1) := by decide +kernel
theorem d_M_answer_52 : decode b_M_answer 52 = .ok (.i2l, 1) := by decide +kernel
theorem d_M_answer_53 : decode b_M_answer 53 = .ok (.iload_n 1, 1) := by decide +kernel
theorem d_M_answer_54 : decode b_M_answer 54 = .ok (.i2l, 1) := by decide +kernel
theorem d_M_answer_55 : decode b_M_answer 55 = .ok (.lmul, 1) := by decide +kernel
theorem d_M_answer_56 : decode b_M_answer 56 = .ok (.ladd, 1) := by decide +kernel
theorem d_M_answer_57 : decode b_M_answer 57 = .ok (.aload_n 0, 1) := by decide +kernel
theorem d_M_answer_58 : decode b_M_answer 58 = .ok (.getfield 17, 3) := by decide +kernel
theorem d_M_answer_61 : decode b_M_answer 61 = .ok (.lrem, 1) := by decide +kernel
theorem d_M_answer_62 : decode b_M_answer 62 = .ok (.l2i, 1) := by decide +kernel
theorem d_M_answer_63 : decode b_M_answer 63 = .ok (.ireturn, 1) := by decide +kernel
theorem d_M_feign_0 : decode b_M_feign 0 = .ok (.aload_n 0, 1) := by decide +kernel
theorem d_M_feign_1 : decode b_M_feign 1 = .ok (.iconst 0, 1) := by decide +kernel
theorem d_M_feign_2 : decode b_M_feign 2 = .ok (.putfield 25, 3) := by decide +kernel
theorem d_M_feign_5 : decode b_M_feign 5 = .ok (.aload_n 0, 1) := by decide +kernel
theorem d_M_feign_6 : decode b_M_feign 6 = .ok (.iload_n 1, 1) := by decide +kernel
theorem d_M_feign_7 : decode b_M_feign 7 = .ok (.i2l, 1) := by decide +kernel
theorem d_M_feign_8 : decode b_M_feign 8 = .ok (.aload_n 0, 1) := by decide +kernel
theorem d_M_feign_9 : decode b_M_feign 9 = .ok (.getfield 9, 3) := by decide +kernel
theorem d_M_feign_12 : decode b_M_feign 12 = .ok (.aload_n 0, 1) := by decide +kernel
theorem d_M_feign_13 : decode b_M_feign 13 = .ok (.getfield 17, 3) := by decide +kernel
theorem d_M_feign_16 : decode b_M_feign 16 = .ok (.invokestatic 41, 3) := by decide +kernel
theorem d_M_feign_19 : decode b_M_feign 19 = .ok (.ifCond .eq 21, 3) := by decide +kernel
theorem d_M_feign_22 : decode b_M_feign 22 = .ok (.aload_n 0, 1) := by decide +kernel
theorem d_M_feign_23 : decode b_M_feign 23 = .ok (.iload_n 2, 1) := by decide +kernel
theorem d_M_feign_24 : decode b_M_feign 24 = .ok (.i2l, 1) := by decide +kernel
theorem d_M_feign_25 : decode b_M_feign 25 = .ok (.invokevirtual 54, 3) := by decide +kernel
theorem d_M_feign_28 : decode b_M_feign 28 = .ok (.ifCond .eq 12, 3) := by decide +kernel
theorem d_M_feign_31 : decode b_M_feign 31 = .ok (.aload_n 0, 1) := by decide +kernel
theorem d_M_feign_32 : decode b_M_feign 32 = .ok (.iload_n 3, 1) := by decide +kernel
theorem d_M_feign_33 : decode b_M_feign 33 = .ok (.i2l, 1) := by decide +kernel
theorem d_M_feign_34 : decode b_M_feign 34 = .ok (.invokevirtual 54, 3) := by decide +kernel
theorem d_M_feign_37 : decode b_M_feign 37 = .ok (.ifCond .ne 7, 3) := by decide +kernel
theorem d_M_feign_40 : decode b_M_feign 40 = .ok (.iconst 1, 1) := by decide +kernel
theorem d_M_feign_41 : decode b_M_feign 41 = .ok (.goto 4, 3) := by decide +kernel
theorem d_M_feign_44 : decode b_M_feign 44 = .ok (.iconst 0, 1) := by decide +kernel
theorem d_M_feign_45 : decode b_M_feign 45 = .ok (.iconst 1, 1) := by decide +kernel
theorem d_M_feign_46 : decode b_M_feign 46 = .ok (.invokevirtual 44, 3) := by decide +kernel
theorem d_M_feign_49 : decode b_M_feign 49 = .ok (.ifCond .eq 7, 3) := by decide +kernel
theorem d_M_feign_52 : decode b_M_feign 52 = .ok (.iconst 0, 1) := by decide +kernel
theorem d_M_feign_53 : decode b_M_feign 53 = .ok (.goto 41, 3) := by decide +kernel
theorem d_M_feign_56 : decode b_M_feign 56 = .ok (.aload_n 0, 1) := by decide +kernel
theorem d_M_feign_57 : decode b_M_feign 57 = .ok (.getfield 22, 3) := by decide +kernel
theorem d_M_feign_60 : decode b_M_feign 60 = .ok (.iload_n 3, 1) := by decide +kernel
theorem d_M_feign_61 : decode b_M_feign 61 = .ok (.i2l, 1) := by decide +kernel
theorem d_M_feign_62 : decode b_M_feign 62 = .ok (.aload_n 0, 1) := by decide +kernel
theorem d_M_feign_63 : decode b_M_feign 63 = .ok (.getfield 9, 3) := by decide +kernel
theorem d_M_feign_66 : decode b_M_feign 66 = .ok (.invokestatic 33, 3) := by decide +kernel
theorem d_M_feign_69 : decode b_M_feign 69 = .ok (.iload_n 1, 1) := by decide +kernel
theorem d_M_feign_70 : decode b_M_feign 70 = .ok (.i2l, 1) := by decide +kernel
theorem d_M_feign_71 : decode b_M_feign 71 = .ok (.iload_n 2, 1) := by decide +kernel
theorem d_M_feign_72 : decode b_M_feign 72 = .ok (.i2l, 1) := by decide +kernel
theorem d_M_feign_73 : decode b_M_feign 73 = .ok (.aload_n 0, 1) := by decide +kernel
theorem d_M_feign_74 : decode b_M_feign 74 = .ok (.getfield 9, 3) := by decide +kernel
theorem d_M_feign_77 : decode b_M_feign 77 = .ok (.invokestatic 33, 3) := by decide +kernel
theorem d_M_feign_80 : decode b_M_feign 80 = .ok (.aload_n 0, 1) := by decide +kernel
theorem d_M_feign_81 : decode b_M_feign 81 = .ok (.getfield 9, 3) := by decide +kernel
theorem d_M_feign_84 : decode b_M_feign 84 = .ok (.invokestatic 48, 3) := by decide +kernel
theorem d_M_feign_87 : decode b_M_feign 87 = .ok (.lmul, 1) := by decide +kernel
theorem d_M_feign_88 : decode b_M_feign 88 = .ok (.aload_n 0, 1) := by decide +kernel
theorem d_M_feign_89 : decode b_M_feign 89 = .ok (.getfield 9, 3) := by decide +kernel
theorem d_M_feign_92 : decode b_M_feign 92 = .ok (.lrem, 1) := by decide +kernel
theorem d_M_feign_93 : decode b_M_feign 93 = .ok (.l2i, 1) := by decide +kernel
theorem d_M_feign_94 : decode b_M_feign 94 = .ok (.ireturn, 1) := by decide +kernel
theorem d_M_secret_0 : decode b_M_secret 0 = .ok (.aload_n 0, 1) := by decide +kernel
theorem d_M_secret_1 : decode b_M_secret 1 = .ok (.iconst 0, 1) := by decide +kernel
theorem d_M_secret_2 : decode b_M_secret 2 = .ok (.putfield 25, 3) := by decide +kernel
theorem d_M_secret_5 : decode b_M_secret 5 = .ok (.aload_n 0, 1) := by decide +kernel
theorem d_M_secret_6 : decode b_M_secret 6 = .ok (.aload_n 0, 1) := by decide +kernel
theorem d_M_secret_7 : decode b_M_secret 7 = .ok (.iload_n 1, 1) := by decide +kernel
theorem d_M_secret_8 : decode b_M_secret 8 = .ok (.i2l, 1) := by decide +kernel
theorem d_M_secret_9 : decode b_M_secret 9 = .ok (.invokevirtual 54, 3) := by decide +kernel
theorem d_M_secret_12 : decode b_M_secret 12 = .ok (.ifCond .eq 36, 3) := by decide +kernel
theorem d_M_secret_15 : decode b_M_secret 15 = .ok (.aload_n 0, 1) := by decide +kernel
theorem d_M_secret_16 : decode b_M_secret 16 = .ok (.iload_n 2, 1) := by decide +kernel
theorem d_M_secret_17 : decode b_M_secret 17 = .ok (.i2l, 1) := by decide +kernel
theorem d_M_secret_18 : decode b_M_secret 18 = .ok (.invokevirtual 54, 3) := by decide +kernel
theorem d_M_secret_21 : decode b_M_secret 21 = .ok (.ifCond .eq 27, 3) := by decide +kernel
theorem d_M_secret_24 : decode b_M_secret 24 = .ok (.aload_n 0, 1) := by decide +kernel
theorem d_M_secret_25 : decode b_M_secret 25 = .ok (.iload_n 3, 1) := by decide +kernel
theorem d_M_secret_26 : decode b_M_secret 26 = .ok (.i2l, 1) := by decide +kernel
theorem d_M_secret_27 : decode b_M_secret 27 = .ok (.invokevirtual 54, 3) := by decide +kernel
theorem d_M_secret_30 : decode b_M_secret 30 = .ok (.ifCond .eq 18, 3) := by decide +kernel
theorem d_M_secret_33 : decode b_M_secret 33 = .ok (.aload_n 0, 1) := by decide +kernel
theorem d_M_secret_34 : decode b_M_secret 34 = .ok (.iload 4, 2) := by decide +kernel
theorem d_M_secret_36 : decode b_M_secret 36 = .ok (.i2l, 1) := by decide +kernel
theorem d_M_secret_37 : decode b_M_secret 37 = .ok (.invokevirtual 54, 3) := by decide +kernel
theorem d_M_secret_40 : decode b_M_secret 40 = .ok (.ifCond .eq 8, 3) := by decide +kernel
theorem d_M_secret_43 : decode b_M_secret 43 = .ok (.iload_n 1, 1) := by decide +kernel
theorem d_M_secret_44 : decode b_M_secret 44 = .ok (.iload_n 3, 1) := by decide +kernel
theorem d_M_secret_45 : decode b_M_secret 45 = .ok (.if_icmp .ne 7, 3) := by decide +kernel
theorem d_M_secret_48 : decode b_M_secret 48 = .ok (.iconst 1, 1) := by decide +kernel
theorem d_M_secret_49 : decode b_M_secret 49 = .ok (.goto 4, 3) := by decide +kernel
theorem d_M_secret_52 : decode b_M_secret 52 = .ok (.iconst 0, 1) := by decide +kernel
theorem d_M_secret_53 : decode b_M_secret 53 = .ok (.iconst 1, 1) := by decide +kernel
theorem d_M_secret_54 : decode b_M_secret 54 = .ok (.invokevirtual 44, 3) := by decide +kernel
theorem d_M_secret_57 : decode b_M_secret 57 = .ok (.ifCond .eq 5, 3) := by decide +kernel
theorem d_M_secret_60 : decode b_M_secret 60 = .ok (.iconst 0, 1) := by decide +kernel
theorem d_M_secret_61 : decode b_M_secret 61 = .ok (.ireturn, 1) := by decide +kernel
theorem d_M_secret_62 : decode b_M_secret 62 = .ok (.iload_n 2, 1) := by decide +kernel
theorem d_M_secret_63 : decode b_M_secret 63 = .ok (.i2l, 1) := by decide +kernel
theorem d_M_secret_64 : decode b_M_secret 64 = .ok (.iload 4, 2) := by decide +kernel
theorem d_M_secret_66 : decode b_M_secret 66 = .ok (.i2l, 1) := by decide +kernel
theorem d_M_secret_67 : decode b_M_secret 67 = .ok (.lsub, 1) := by decide +kernel
theorem d_M_secret_68 : decode b_M_secret 68 = .ok (.aload_n 0, 1) := by decide +kernel
theorem d_M_secret_69 : decode b_M_secret 69 = .ok (.getfield 17, 3) := by decide +kernel
theorem d_M_secret_72 : decode b_M_secret 72 = .ok (.ladd, 1) := by decide +kernel
theorem d_M_secret_73 : decode b_M_secret 73 = .ok (.aload_n 0, 1) := by decide +kernel
theorem d_M_secret_74 : decode b_M_secret 74 = .ok (.getfield 17, 3) := by decide +kernel
theorem d_M_secret_77 : decode b_M_secret 77 = .ok (.lrem, 1) := by decide +kernel
theorem d_M_secret_78 : decode b_M_secret 78 = .ok (.lstore 5, 2) := by decide +kernel
theorem d_M_secret_80 : decode b_M_secret 80 = .ok (.iload_n 1, 1) := by decide +kernel
theorem d_M_secret_81 : decode b_M_secret 81 = .ok (.i2l, 1) := by decide +kernel
theorem d_M_secret_82 : decode b_M_secret 82 = .ok (.iload_n 3, 1) := by decide +kernel
theorem d_M_secret_83 : decode b_M_secret 83 = .ok (.i2l, 1) := by decide +kernel
theorem d_M_secret_84 : decode b_M_secret 84 = .ok (.lsub, 1) := by decide +kernel
theorem d_M_secret_85 : decode b_M_secret 85 = .ok (.aload_n 0, 1) := by decide +kernel
theorem d_M_secret_86 : decode b_M_secret 86 = .ok (.getfield 17, 3) := by decide +kernel
theorem d_M_secret_89 : decode b_M_secret 89 = .ok (.ladd, 1) := by decide +kernel
theorem d_M_secret_90 : decode b_M_secret 90 = .ok (.aload_n 0, 1) := by decide +kernel
theorem d_M_secret_91 : decode b_M_secret 91 = .ok (.getfield 17, 3) := by decide +kernel
theorem d_M_secret_94 : decode b_M_secret 94 = .ok (.lrem, 1) := by decide +kernel
theorem d_M_secret_95 : decode b_M_secret 95 = .ok (.lstore 7, 2) := by decide +kernel
theorem d_M_secret_97 : decode b_M_secret 97 = .ok (.lload 5, 2) := by decide +kernel
theorem d_M_secret_99 : decode b_M_secret 99 = .ok (.lload 7, 2) := by decide +kernel
theorem d_M_secret_101 : decode b_M_secret 101 = .ok (.aload_n 0, 1) := by decide +kernel
theorem d_M_secret_102 : decode b_M_secret 102 = .ok (.getfield 17, 3) := by decide +kernel
theorem d_M_secret_105 : decode b_M_secret 105 = .ok (.invokestatic 48, 3) := by decide +kernel
theorem d_M_secret_108 : decode b_M_secret 108 = .ok (.lmul, 1) := by decide +kernel
theorem d_M_secret_109 : decode b_M_secret 109 = .ok (.aload_n 0, 1) := by decide +kernel
theorem d_M_secret_110 : decode b_M_secret 110 = .ok (.getfield 17, 3) := by decide +kernel
theorem d_M_secret_113 : decode b_M_secret 113 = .ok (.lrem, 1) := by decide +kernel
theorem d_M_secret_114 : decode b_M_secret 114 = .ok (.l2i, 1) := by decide +kernel
theorem d_M_secret_115 : decode b_M_secret 115 = .ok (.ireturn, 1) := by decide +kernel
theorem d_M_count_0 : decode b_M_count 0 = .ok (.aload_n 0, 1) := by decide +kernel
theorem d_M_count_1 : decode b_M_count 1 = .ok (.iconst 0, 1) := by decide +kernel
theorem d_M_count_2 : decode b_M_count 2 = .ok (.putfield 25, 3) := by decide +kernel
theorem d_M_count_5 : decode b_M_count 5 = .ok (.aload_n 0, 1) := by decide +kernel
theorem d_M_count_6 : decode b_M_count 6 = .ok (.iload_n 1, 1) := by decide +kernel
theorem d_M_count_7 : decode b_M_count 7 = .ok (.i2l, 1) := by decide +kernel
theorem d_M_count_8 : decode b_M_count 8 = .ok (.lconst 0, 1) := by decide +kernel
theorem d_M_count_9 : decode b_M_count 9 = .ok (.ldc2_w 20, 3) := by decide +kernel
theorem d_M_count_12 : decode b_M_count 12 = .ok (.invokestatic 29, 3) := by decide +kernel
theorem d_M_count_15 : decode b_M_count 15 = .ok (.ifCond .ne 7, 3) := by decide +kernel
theorem d_M_count_18 : decode b_M_count 18 = .ok (.iconst 1, 1) := by decide +kernel
theorem d_M_count_19 : decode b_M_count 19 = .ok (.goto 4, 3) := by decide +kernel
theorem d_M_count_22 : decode b_M_count 22 = .ok (.iconst 0, 1) := by decide +kernel
theorem d_M_count_23 : decode b_M_count 23 = .ok (.iconst 1, 1) := by decide +kernel
theorem d_M_count_24 : decode b_M_count 24 = .ok (.invokevirtual 44, 3) := by decide +kernel
theorem d_M_count_27 : decode b_M_count 27 = .ok (.ifCond .eq 7, 3) := by decide +kernel
theorem d_M_count_30 : decode b_M_count 30 = .ok (.iconst 0, 1) := by decide +kernel
theorem d_M_count_31 : decode b_M_count 31 = .ok (.goto 31, 3) := by decide +kernel
theorem d_M_count_34 : decode b_M_count 34 = .ok (.iload_n 1, 1) := by decide +kernel
theorem d_M_count_35 : decode b_M_count 35 = .ok (.ifCond .ne 10, 3) := by decide +kernel
theorem d_M_count_38 : decode b_M_count 38 = .ok (.aload_n 0, 1) := by decide +kernel
theorem d_M_count_39 : decode b_M_count 39 = .ok (.getfield 9, 3) := by decide +kernel
theorem d_M_count_42 : decode b_M_count 42 = .ok (.goto 19, 3) := by decide +kernel
theorem d_M_count_45 : decode b_M_count 45 = .ok (.iload_n 1, 1) := by decide +kernel
theorem d_M_count_46 : decode b_M_count 46 = .ok (.iconst 1, 1) := by decide +kernel
theorem d_M_count_47 : decode b_M_count 47 = .ok (.if_icmp .ne 10, 3) := by decide +kernel
theorem d_M_count_50 : decode b_M_count 50 = .ok (.aload_n 0, 1) := by decide +kernel
theorem d_M_count_51 : decode b_M_count 51 = .ok (.getfield 17, 3) := by decide +kernel
theorem d_M_count_54 : decode b_M_count 54 = .ok (.goto 7, 3) := by decide +kernel
theorem d_M_count_57 : decode b_M_count 57 = .ok (.aload_n 0, 1) := by decide +kernel
theorem d_M_count_58 : decode b_M_count 58 = .ok (.getfield 22, 3) := by decide +kernel
theorem d_M_count_61 : decode b_M_count 61 = .ok (.l2i, 1) := by decide +kernel
theorem d_M_count_62 : decode b_M_count 62 = .ok (.ireturn, 1) := by decide +kernel
theorem d_L_product_0 : decode b_L_product 0 = .ok (.aload_n 3, 1) := by decide +kernel
theorem d_L_product_1 : decode b_L_product 1 = .ok (.iconst 0, 1) := by decide +kernel
theorem d_L_product_2 : decode b_L_product 2 = .ok (.aload_n 0, 1) := by decide +kernel
theorem d_L_product_3 : decode b_L_product 3 = .ok (.iload_n 1, 1) := by decide +kernel
theorem d_L_product_4 : decode b_L_product 4 = .ok (.iload_n 2, 1) := by decide +kernel
theorem d_L_product_5 : decode b_L_product 5 = .ok (.invokevirtual 7, 3) := by decide +kernel
theorem d_L_product_8 : decode b_L_product 8 = .ok (.i2l, 1) := by decide +kernel
theorem d_L_product_9 : decode b_L_product 9 = .ok (.lastore, 1) := by decide +kernel
theorem d_L_product_10 : decode b_L_product 10 = .ok (.goto 7, 3) := by decide +kernel
theorem d_L_product_13 : decode b_L_product 13 = .ok (.astore 4, 2) := by decide +kernel
theorem d_L_product_15 : decode b_L_product 15 = .ok (.iconst 1, 1) := by decide +kernel
theorem d_L_product_16 : decode b_L_product 16 = .ok (.ireturn, 1) := by decide +kernel
theorem d_L_product_17 : decode b_L_product 17 = .ok (.iconst 0, 1) := by decide +kernel
theorem d_L_product_18 : decode b_L_product 18 = .ok (.ireturn, 1) := by decide +kernel
theorem d_L_power_0 : decode b_L_power 0 = .ok (.aload 4, 2) := by decide +kernel
theorem d_L_power_2 : decode b_L_power 2 = .ok (.iconst 0, 1) := by decide +kernel
theorem d_L_power_3 : decode b_L_power 3 = .ok (.aload_n 0, 1) := by decide +kernel
theorem d_L_power_4 : decode b_L_power 4 = .ok (.iload_n 1, 1) := by decide +kernel
theorem d_L_power_5 : decode b_L_power 5 = .ok (.lload_n 2, 1) := by decide +kernel
theorem d_L_power_6 : decode b_L_power 6 = .ok (.invokevirtual 15, 3) := by decide +kernel
theorem d_L_power_9 : decode b_L_power 9 = .ok (.i2l, 1) := by decide +kernel
theorem d_L_power_10 : decode b_L_power 10 = .ok (.lastore, 1) := by decide +kernel
theorem d_L_power_11 : decode b_L_power 11 = .ok (.goto 7, 3) := by decide +kernel
theorem d_L_power_14 : decode b_L_power 14 = .ok (.astore 5, 2) := by decide +kernel
theorem d_L_power_16 : decode b_L_power 16 = .ok (.iconst 1, 1) := by decide +kernel
theorem d_L_power_17 : decode b_L_power 17 = .ok (.ireturn, 1) := by decide +kernel
theorem d_L_power_18 : decode b_L_power 18 = .ok (.iconst 0, 1) := by decide +kernel
theorem d_L_power_19 : decode b_L_power 19 = .ok (.ireturn, 1) := by decide +kernel
theorem d_L_inverse_0 : decode b_L_inverse 0 = .ok (.aload_n 2, 1) := by decide +kernel
theorem d_L_inverse_1 : decode b_L_inverse 1 = .ok (.iconst 0, 1) := by decide +kernel
theorem d_L_inverse_2 : decode b_L_inverse 2 = .ok (.aload_n 0, 1) := by decide +kernel
theorem d_L_inverse_3 : decode b_L_inverse 3 = .ok (.iload_n 1, 1) := by decide +kernel
theorem d_L_inverse_4 : decode b_L_inverse 4 = .ok (.invokevirtual 19, 3) := by decide +kernel
theorem d_L_inverse_7 : decode b_L_inverse 7 = .ok (.i2l, 1) := by decide +kernel
theorem d_L_inverse_8 : decode b_L_inverse 8 = .ok (.lastore, 1) := by decide +kernel
theorem d_L_inverse_9 : decode b_L_inverse 9 = .ok (.goto 6, 3) := by decide +kernel
theorem d_L_inverse_12 : decode b_L_inverse 12 = .ok (.astore_n 3, 1) := by decide +kernel
theorem d_L_inverse_13 : decode b_L_inverse 13 = .ok (.iconst 1, 1) := by decide +kernel
theorem d_L_inverse_14 : decode b_L_inverse 14 = .ok (.ireturn, 1) := by decide +kernel
theorem d_L_inverse_15 : decode b_L_inverse 15 = .ok (.iconst 0, 1) := by decide +kernel
theorem d_L_inverse_16 : decode b_L_inverse 16 = .ok (.ireturn, 1) := by decide +kernel
theorem d_L_log_0 : decode b_L_log 0 = .ok (.aload_n 2, 1) := by decide +kernel
theorem d_L_log_1 : decode b_L_log 1 = .ok (.iconst 0, 1) := by decide +kernel
theorem d_L_log_2 : decode b_L_log 2 = .ok (.aload_n 0, 1) := by decide +kernel
theorem d_L_log_3 : decode b_L_log 3 = .ok (.iload_n 1, 1) := by decide +kernel
theorem d_L_log_4 : decode b_L_log 4 = .ok (.invokevirtual 23, 3) := by decide +kernel
theorem d_L_log_7 : decode b_L_log 7 = .ok (.i2l, 1) := by decide +kernel
theorem d_L_log_8 : decode b_L_log 8 = .ok (.lastore, 1) := by decide +kernel
theorem d_L_log_9 : decode b_L_log 9 = .ok (.goto 9, 3) := by decide +kernel
theorem d_L_log_12 : decode b_L_log 12 = .ok (.astore_n 3, 1) := by decide +kernel
theorem d_L_log_13 : decode b_L_log 13 = .ok (.iconst 1, 1) := by decide +kernel
theorem d_L_log_14 : decode b_L_log 14 = .ok (.ireturn, 1) := by decide +kernel
theorem d_L_log_15 : decode b_L_log 15 = .ok (.astore_n 3, 1) := by decide +kernel
theorem d_L_log_16 : decode b_L_log 16 = .ok (.iconst 2, 1) := by decide +kernel
theorem d_L_log_17 : decode b_L_log 17 = .ok (.ireturn, 1) := by decide +kernel
theorem d_L_log_18 : decode b_L_log 18 = .ok (.iconst 0, 1) := by decide +kernel
theorem d_L_log_19 : decode b_L_log 19 = .ok (.ireturn, 1) := by decide +kernel
theorem d_L_answer_0 : decode b_L_answer 0 = .ok (.aload 4, 2) := by decide +kernel
theorem d_L_answer_2 : decode b_L_answer 2 = .ok (.iconst 0, 1) := by decide +kernel
theorem d_L_answer_3 : decode b_L_answer 3 = .ok (.aload_n 0, 1) := by decide +kernel
theorem d_L_answer_4 : decode b_L_answer 4 = .ok (.iload_n 1, 1) := by decide +kernel
theorem d_L_answer_5 : decode b_L_answer 5 = .ok (.iload_n 2, 1) := by decide +kernel
theorem d_L_answer_6 : decode b_L_answer 6 = .ok (.iload_n 3, 1) := by decide +kernel
theorem d_L_answer_7 : decode b_L_answer 7 = .ok (.invokevirtual 28, 3) := by decide +kernel
theorem d_L_answer_10 : decode b_L_answer 10 = .ok (.i2l, 1) := by decide +kernel
theorem d_L_answer_11 : decode b_L_answer 11 = .ok (.lastore, 1) := by decide +kernel
theorem d_L_answer_12 : decode b_L_answer 12 = .ok (.goto 7, 3) := by decide +kernel
theorem d_L_answer_15 : decode b_L_answer 15 = .ok (.astore 5, 2) := by decide +kernel
theorem d_L_answer_17 : decode b_L_answer 17 = .ok (.iconst 1, 1) := by decide +kernel
theorem d_L_answer_18 : decode b_L_answer 18 = .ok (.ireturn, 1) := by decide +kernel
theorem d_L_answer_19 : decode b_L_answer 19 = .ok (.iconst 0, 1) := by decide +kernel
theorem d_L_answer_20 : decode b_L_answer 20 = .ok (.ireturn, 1) := by decide +kernel
theorem d_L_feign_0 : decode b_L_feign 0 = .ok (.aload 4, 2) := by decide +kernel
theorem d_L_feign_2 : decode b_L_feign 2 = .ok (.iconst 0, 1) := by decide +kernel
theorem d_L_feign_3 : decode b_L_feign 3 = .ok (.aload_n 0, 1) := by decide +kernel
theorem d_L_feign_4 : decode b_L_feign 4 = .ok (.iload_n 1, 1) := by decide +kernel
theorem d_L_feign_5 : decode b_L_feign 5 = .ok (.iload_n 2, 1) := by decide +kernel
theorem d_L_feign_6 : decode b_L_feign 6 = .ok (.iload_n 3, 1) := by decide +kernel
theorem d_L_feign_7 : decode b_L_feign 7 = .ok (.invokevirtual 32, 3) := by decide +kernel
theorem d_L_feign_10 : decode b_L_feign 10 = .ok (.i2l, 1) := by decide +kernel
theorem d_L_feign_11 : decode b_L_feign 11 = .ok (.lastore, 1) := by decide +kernel
theorem d_L_feign_12 : decode b_L_feign 12 = .ok (.goto 7, 3) := by decide +kernel
theorem d_L_feign_15 : decode b_L_feign 15 = .ok (.astore 5, 2) := by decide +kernel
theorem d_L_feign_17 : decode b_L_feign 17 = .ok (.iconst 1, 1) := by decide +kernel
theorem d_L_feign_18 : decode b_L_feign 18 = .ok (.ireturn, 1) := by decide +kernel
theorem d_L_feign_19 : decode b_L_feign 19 = .ok (.iconst 0, 1) := by decide +kernel
theorem d_L_feign_20 : decode b_L_feign 20 = .ok (.ireturn, 1) := by decide +kernel
theorem d_L_secret_0 : decode b_L_secret 0 = .ok (.aload 5, 2) := by decide +kernel
theorem d_L_secret_2 : decode b_L_secret 2 = .ok (.iconst 0, 1) := by decide +kernel
theorem d_L_secret_3 : decode b_L_secret 3 = .ok (.aload_n 0, 1) := by decide +kernel
theorem d_L_secret_4 : decode b_L_secret 4 = .ok (.iload_n 1, 1) := by decide +kernel
theorem d_L_secret_5 : decode b_L_secret 5 = .ok (.iload_n 2, 1) := by decide +kernel
theorem d_L_secret_6 : decode b_L_secret 6 = .ok (.iload_n 3, 1) := by decide +kernel
theorem d_L_secret_7 : decode b_L_secret 7 = .ok (.iload 4, 2) := by decide +kernel
theorem d_L_secret_9 : decode b_L_secret 9 = .ok (.invokevirtual 35, 3) := by decide +kernel
theorem d_L_secret_12 : decode b_L_secret 12 = .ok (.i2l, 1) := by decide +kernel
theorem d_L_secret_13 : decode b_L_secret 13 = .ok (.lastore, 1) := by decide +kernel
theorem d_L_secret_14 : decode b_L_secret 14 = .ok (.goto 7, 3) := by decide +kernel
theorem d_L_secret_17 : decode b_L_secret 17 = .ok (.astore 6, 2) := by decide +kernel
theorem d_L_secret_19 : decode b_L_secret 19 = .ok (.iconst 1, 1) := by decide +kernel
theorem d_L_secret_20 : decode b_L_secret 20 = .ok (.ireturn, 1) := by decide +kernel
theorem d_L_secret_21 : decode b_L_secret 21 = .ok (.iconst 0, 1) := by decide +kernel
theorem d_L_secret_22 : decode b_L_secret 22 = .ok (.ireturn, 1) := by decide +kernel
theorem d_L_count_0 : decode b_L_count 0 = .ok (.aload_n 2, 1) := by decide +kernel
theorem d_L_count_1 : decode b_L_count 1 = .ok (.iconst 0, 1) := by decide +kernel
theorem d_L_count_2 : decode b_L_count 2 = .ok (.aload_n 0, 1) := by decide +kernel
theorem d_L_count_3 : decode b_L_count 3 = .ok (.iload_n 1, 1) := by decide +kernel
theorem d_L_count_4 : decode b_L_count 4 = .ok (.invokevirtual 39, 3) := by decide +kernel
theorem d_L_count_7 : decode b_L_count 7 = .ok (.i2l, 1) := by decide +kernel
theorem d_L_count_8 : decode b_L_count 8 = .ok (.lastore, 1) := by decide +kernel
theorem d_L_count_9 : decode b_L_count 9 = .ok (.goto 6, 3) := by decide +kernel
theorem d_L_count_12 : decode b_L_count 12 = .ok (.astore_n 3, 1) := by decide +kernel
theorem d_L_count_13 : decode b_L_count 13 = .ok (.iconst 1, 1) := by decide +kernel
theorem d_L_count_14 : decode b_L_count 14 = .ok (.ireturn, 1) := by decide +kernel
theorem d_L_count_15 : decode b_L_count 15 = .ok (.iconst 0, 1) := by decide +kernel
theorem d_L_count_16 : decode b_L_count 16 = .ok (.ireturn, 1) := by decide +kernel
theorem d_L_law_0 : decode b_L_law 0 = .ok (.new 8, 3) := by decide +kernel
theorem d_L_law_3 : decode b_L_law 3 = .ok (.dup, 1) := by decide +kernel
theorem d_L_law_4 : decode b_L_law 4 = .ok (.invokespecial 42, 3) := by decide +kernel
theorem d_L_law_7 : decode b_L_law 7 = .ok (.astore_n 1, 1) := by decide +kernel
theorem d_L_law_8 : decode b_L_law 8 = .ok (.new 43, 3) := by decide +kernel
theorem d_L_law_11 : decode b_L_law 11 = .ok (.dup, 1) := by decide +kernel
theorem d_L_law_12 : decode b_L_law 12 = .ok (.invokespecial 45, 3) := by decide +kernel
theorem d_L_law_15 : decode b_L_law 15 = .ok (.astore_n 2, 1) := by decide +kernel
theorem d_L_law_16 : decode b_L_law 16 = .ok (.iconst 1, 1) := by decide +kernel
theorem d_L_law_17 : decode b_L_law 17 = .ok (.newarray .long, 2) := by decide +kernel
theorem d_L_law_19 : decode b_L_law 19 = .ok (.astore_n 3, 1) := by decide +kernel
theorem d_L_law_20 : decode b_L_law 20 = .ok (.iconst 0, 1) := by decide +kernel
theorem d_L_law_21 : decode b_L_law 21 = .ok (.istore 4, 2) := by decide +kernel
theorem d_L_law_23 : decode b_L_law 23 = .ok (.iload 4, 2) := by decide +kernel
theorem d_L_law_25 : decode b_L_law 25 = .ok (.aload_n 0, 1) := by decide +kernel
theorem d_L_law_26 : decode b_L_law 26 = .ok (.arraylength, 1) := by decide +kernel
theorem d_L_law_27 : decode b_L_law 27 = .ok (.iconst 5, 1) := by decide +kernel
theorem d_L_law_28 : decode b_L_law 28 = .ok (.isub, 1) := by decide +kernel
theorem d_L_law_29 : decode b_L_law 29 = .ok (.if_icmp .gt 784, 3) := by decide +kernel
theorem d_L_law_32 : decode b_L_law 32 = .ok (.aload_n 0, 1) := by decide +kernel
theorem d_L_law_33 : decode b_L_law 33 = .ok (.iload 4, 2) := by decide +kernel
theorem d_L_law_35 : decode b_L_law 35 = .ok (.iaload, 1) := by decide +kernel
theorem d_L_law_36 : decode b_L_law 36 = .ok (.bipush 15, 2) := by decide +kernel
theorem d_L_law_38 : decode b_L_law 38 = .ok (.iand, 1) := by decide +kernel
theorem d_L_law_39 : decode b_L_law 39 = .ok (.tableswitch 768 0 10 #[57, 94, 119, 187, 287, 343, 399, 460, 540, 620, 712], 57) := by decide +kernel
theorem d_L_law_96 : decode b_L_law 96 = .ok (.aload_n 1, 1) := by decide +kernel
theorem d_L_law_97 : decode b_L_law 97 = .ok (.aload_n 0, 1) := by decide +kernel
theorem d_L_law_98 : decode b_L_law 98 = .ok (.iload 4, 2) := by decide +kernel
theorem d_L_law_100 : decode b_L_law 100 = .ok (.iconst 1, 1) := by decide +kernel
theorem d_L_law_101 : decode b_L_law 101 = .ok (.iadd, 1) := by decide +kernel
theorem d_L_law_102 : decode b_L_law 102 = .ok (.iaload, 1) := by decide +kernel
theorem d_L_law_103 : decode b_L_law 103 = .ok (.aload_n 0, 1) := by decide +kernel
theorem d_L_law_104 : decode b_L_law 104 = .ok (.iload 4, 2) := by decide +kernel
theorem d_L_law_106 : decode b_L_law 106 = .ok (.iconst 2, 1) := by decide +kernel
theorem d_L_law_107 : decode b_L_law 107 = .ok (.iadd, 1) := by decide +kernel
theorem d_L_law_108 : decode b_L_law 108 = .ok (.iaload, 1) := by decide +kernel
theorem d_L_law_109 : decode b_L_law 109 = .ok (.invokevirtual 46, 3) := by decide +kernel
theorem d_L_law_112 : decode b_L_law 112 = .ok (.aload_n 2, 1) := by decide +kernel
theorem d_L_law_113 : decode b_L_law 113 = .ok (.aload_n 0, 1) := by decide +kernel
theorem d_L_law_114 : decode b_L_law 114 = .ok (.iload 4, 2) := by decide +kernel
theorem d_L_law_116 : decode b_L_law 116 = .ok (.iconst 1, 1) := by decide +kernel
theorem d_L_law_117 : decode b_L_law 117 = .ok (.iadd, 1) := by decide +kernel
theorem d_L_law_118 : decode b_L_law 118 = .ok (.iaload, 1) := by decide +kernel
theorem d_L_law_119 : decode b_L_law 119 = .ok (.aload_n 0, 1) := by decide +kernel
theorem d_L_law_120 : decode b_L_law 120 = .ok (.iload 4, 2) := by decide +kernel
theorem d_L_law_122 : decode b_L_law 122 = .ok (.iconst 2, 1) := by decide +kernel
theorem d_L_law_123 : decode b_L_law 123 = .ok (.iadd, 1) := by decide +kernel
theorem d_L_law_124 : decode b_L_law 124 = .ok (.iaload, 1) := by decide +kernel
theorem d_L_law_125 : decode b_L_law 125 = .ok (.invokevirtual 50, 3) := by decide +kernel
theorem d_L_law_128 : decode b_L_law 128 = .ok (.if_icmp .eq 679, 3) := by decide +kernel
theorem d_L_law_131 : decode b_L_law 131 = .ok (.iconst 0, 1) := by decide +kernel
theorem d_L_law_132 : decode b_L_law 132 = .ok (.ireturn, 1) := by decide +kernel
theorem d_L_law_133 : decode b_L_law 133 = .ok (.aload_n 1, 1) := by decide +kernel
theorem d_L_law_134 : decode b_L_law 134 = .ok (.aload_n 0, 1) := by decide +kernel
theorem d_L_law_135 : decode b_L_law 135 = .ok (.iload 4, 2) := by decide +kernel
theorem d_L_law_137 : decode b_L_law 137 = .ok (.iconst 1, 1) := by decide +kernel
theorem d_L_law_138 : decode b_L_law 138 = .ok (.iadd, 1) := by decide +kernel
theorem d_L_law_139 : decode b_L_law 139 = .ok (.iaload, 1) := by decide +kernel
theorem d_L_law_140 : decode b_L_law 140 = .ok (.invokevirtual 51, 3) := by decide +kernel
theorem d_L_law_143 : decode b_L_law 143 = .ok (.aload_n 2, 1) := by decide +kernel
theorem d_L_law_144 : decode b_L_law 144 = .ok (.aload_n 0, 1) := by decide +kernel
theorem d_L_law_145 : decode b_L_law 145 = .ok (.iload 4, 2) := by decide +kernel
theorem d_L_law_147 : decode b_L_law 147 = .ok (.iconst 1, 1) := by decide +kernel
theorem d_L_law_148 : decode b_L_law 148 = .ok (.iadd, 1) := by decide +kernel
theorem d_L_law_149 : decode b_L_law 149 = .ok (.iaload, 1) := by decide +kernel
theorem d_L_law_150 : decode b_L_law 150 = .ok (.invokevirtual 55, 3) := by decide +kernel
theorem d_L_law_153 : decode b_L_law 153 = .ok (.if_icmp .eq 654, 3) := by decide +kernel
theorem d_L_law_156 : decode b_L_law 156 = .ok (.iconst 0, 1) := by decide +kernel
theorem d_L_law_157 : decode b_L_law 157 = .ok (.ireturn, 1) := by decide +kernel
theorem d_L_law_158 : decode b_L_law 158 = .ok (.aload_n 1, 1) := by decide +kernel
theorem d_L_law_159 : decode b_L_law 159 = .ok (.aload_n 0, 1) := by decide +kernel
theorem d_L_law_160 : decode b_L_law 160 = .ok (.iload 4, 2) := by decide +kernel
theorem d_L_law_162 : decode b_L_law 162 = .ok (.iconst 1, 1) := by decide +kernel
theorem d_L_law_163 : decode b_L_law 163 = .ok (.iadd, 1) := by decide +kernel
theorem d_L_law_164 : decode b_L_law 164 = .ok (.iaload, 1) := by decide +kernel
theorem d_L_law_165 : decode b_L_law 165 = .ok (.aload_n 0, 1) := by decide +kernel
theorem d_L_law_166 : decode b_L_law 166 = .ok (.iload 4, 2) := by decide +kernel
theorem d_L_law_168 : decode b_L_law 168 = .ok (.iconst 2, 1) := by decide +kernel
theorem d_L_law_169 : decode b_L_law 169 = .ok (.iadd, 1) := by decide +kernel
theorem d_L_law_170 : decode b_L_law 170 = .ok (.iaload, 1) := by decide +kernel
theorem d_L_law_171 : decode b_L_law 171 = .ok (.aload_n 3, 1) := by decide +kernel
theorem d_L_law_172 : decode b_L_law 172 = .ok (.invokestatic 56, 3) := by decide +kernel
theorem d_L_law_175 : decode b_L_law 175 = .ok (.istore 5, 2) := by decide +kernel
theorem d_L_law_177 : decode b_L_law 177 = .ok (.aload_n 2, 1) := by decide +kernel
theorem d_L_law_178 : decode b_L_law 178 = .ok (.aload_n 0, 1) := by decide +kernel
theorem d_L_law_179 : decode b_L_law 179 = .ok (.iload 4, 2) := by decide +kernel
theorem d_L_law_181 : decode b_L_law 181 = .ok (.iconst 1, 1) := by decide +kernel
theorem d_L_law_182 : decode b_L_law 182 = .ok (.iadd, 1) := by decide +kernel
theorem d_L_law_183 : decode b_L_law 183 = .ok (.iaload, 1) := by decide +kernel
theorem d_L_law_184 : decode b_L_law 184 = .ok (.aload_n 0, 1) := by decide +kernel
theorem d_L_law_185 : decode b_L_law 185 = .ok (.iload 4, 2) := by decide +kernel
theorem d_L_law_187 : decode b_L_law 187 = .ok (.iconst 2, 1) := by decide +kernel
theorem d_L_law_188 : decode b_L_law 188 = .ok (.iadd, 1) := by decide +kernel
theorem d_L_law_189 : decode b_L_law 189 = .ok (.iaload, 1) := by decide +kernel
theorem d_L_law_190 : decode b_L_law 190 = .ok (.invokevirtual 61, 3) := by decide +kernel
theorem d_L_law_193 : decode b_L_law 193 = .ok (.istore 6, 2) := by decide +kernel
theorem d_L_law_195 : decode b_L_law 195 = .ok (.aload_n 2, 1) := by decide +kernel
theorem d_L_law_196 : decode b_L_law 196 = .ok (.invokevirtual 62, 3) := by decide +kernel
theorem d_L_law_199 : decode b_L_law 199 = .ok (.iload 5, 2) := by decide +kernel
theorem d_L_law_201 : decode b_L_law 201 = .ok (.if_icmp .eq 5, 3) := by decide +kernel
theorem d_L_law_204 : decode b_L_law 204 = .ok (.iconst 0, 1) := by decide +kernel
theorem d_L_law_205 : decode b_L_law 205 = .ok (.ireturn, 1) := by decide +kernel
theorem d_L_law_206 : decode b_L_law 206 = .ok (.iload 5, 2) := by decide +kernel
theorem d_L_law_208 : decode b_L_law 208 = .ok (.ifCond .ne 15, 3) := by decide +kernel
theorem d_L_law_211 : decode b_L_law 211 = .ok (.aload_n 3, 1) := by decide +kernel
theorem d_L_law_212 : decode b_L_law 212 = .ok (.iconst 0, 1) := by decide +kernel
theorem d_L_law_213 : decode b_L_law 213 = .ok (.laload, 1) := by decide +kernel
theorem d_L_law_214 : decode b_L_law 214 = .ok (.iload 6, 2) := by decide +kernel
theorem d_L_law_216 : decode b_L_law 216 = .ok (.i2l, 1) := by decide +kernel
theorem d_L_law_217 : decode b_L_law 217 = .ok (.lcmp, 1) := by decide +kernel
theorem d_L_law_218 : decode b_L_law 218 = .ok (.ifCond .eq 5, 3) := by decide +kernel
theorem d_L_law_221 : decode b_L_law 221 = .ok (.iconst 0, 1) := by decide +kernel
theorem d_L_law_222 : decode b_L_law 222 = .ok (.ireturn, 1) := by decide +kernel
theorem d_L_law_223 : decode b_L_law 223 = .ok (.goto 584, 3) := by decide +kernel
theorem d_L_law_226 : decode b_L_law 226 = .ok (.aload_n 1, 1) := by decide +kernel
theorem d_L_law_227 : decode b_L_law 227 = .ok (.aload_n 0, 1) := by decide +kernel
theorem d_L_law_228 : decode b_L_law 228 = .ok (.iload 4, 2) := by decide +kernel
theorem d_L_law_230 : decode b_L_law 230 = .ok (.iconst 1, 1) := by decide +kernel
theorem d_L_law_231 : decode b_L_law 231 = .ok (.iadd, 1) := by decide +kernel
theorem d_L_law_232 : decode b_L_law 232 = .ok (.iaload, 1) := by decide +kernel
theorem d_L_law_233 : decode b_L_law 233 = .ok (.aload_n 0, 1) := by decide +kernel
theorem d_L_law_234 : decode b_L_law 234 = .ok (.iload 4, 2) := by decide +kernel
theorem d_L_law_236 : decode b_L_law 236 = .ok (.iconst 2, 1) := by decide +kernel
theorem d_L_law_237 : decode b_L_law 237 = .ok (.iadd, 1) := by decide +kernel
theorem d_L_law_238 : decode b_L_law 238 = .ok (.iaload, 1) := by decide +kernel
theorem d_L_law_239 : decode b_L_law 239 = .ok (.i2l, 1) := by decide +kernel
theorem d_L_law_240 : decode b_L_law 240 = .ok (.bipush 32, 2) := by decide +kernel
theorem d_L_law_242 : decode b_L_law 242 = .ok (.lshl, 1) := by decide +kernel
theorem d_L_law_243 : decode b_L_law 243 = .ok (.aload_n 0, 1) := by decide +kernel
theorem d_L_law_244 : decode b_L_law 244 = .ok (.iload 4, 2) := by decide +kernel
theorem d_L_law_246 : decode b_L_law 246 = .ok (.iconst 3, 1) := by decide +kernel
theorem d_L_law_247 : decode b_L_law 247 = .ok (.iadd, 1) := by decide +kernel
theorem d_L_law_248 : decode b_L_law 248 = .ok (.iaload, 1) := by decide +kernel
theorem d_L_law_249 : decode b_L_law 249 = .ok (.i2l, 1) := by decide +kernel
theorem d_L_law_250 : decode b_L_law 250 = .ok (.ldc2_w 66, 3) := by decide +kernel
theorem d_L_law_253 : decode b_L_law 253 = .ok (.land, 1) := by decide +kernel
theorem d_L_law_254 : decode b_L_law 254 = .ok (.lor, 1) := by decide +kernel
theorem d_L_law_255 : decode b_L_law 255 = .ok (.aload_n 3, 1) := by decide +kernel
theorem d_L_law_256 : decode b_L_law 256 = .ok (.invokestatic 68, 3) := by decide +kernel
theorem d_L_law_259 : decode b_L_law 259 = .ok (.istore 5, 2) := by decide +kernel
theorem d_L_law_261 : decode b_L_law 261 = .ok (.aload_n 2, 1) := by decide +kernel
theorem d_L_law_262 : decode b_L_law 262 = .ok (.aload_n 0, 1) := by decide +kernel
theorem d_L_law_263 : decode b_L_law 263 = .ok (.iload 4, 2) := by decide +kernel
theorem d_L_law_265 : decode b_L_law 265 = .ok (.iconst 1, 1) := by decide +kernel
theorem d_L_law_266 : decode b_L_law 266 = .ok (.iadd, 1) := by decide +kernel
theorem d_L_law_267 : decode b_L_law 267 = .ok (.iaload, 1) := by decide +kernel
theorem d_L_law_268 : decode b_L_law 268 = .ok (.aload_n 0, 1) := by decide +kernel
theorem d_L_law_269 : decode b_L_law 269 = .ok (.iload 4, 2) := by decide +kernel
theorem d_L_law_271 : decode b_L_law 271 = .ok (.iconst 2, 1) := by decide +kernel
theorem d_L_law_272 : decode b_L_law 272 = .ok (.iadd, 1) := by decide +kernel
theorem d_L_law_273 : decode b_L_law 273 = .ok (.iaload, 1) := by decide +kernel
theorem d_L_law_274 : decode b_L_law 274 = .ok (.i2l, 1) := by decide +kernel
theorem d_L_law_275 : decode b_L_law 275 = .ok (.bipush 32, 2) := by decide +kernel
theorem d_L_law_277 : decode b_L_law 277 = .ok (.lshl, 1) := by decide +kernel
theorem d_L_law_278 : decode b_L_law 278 = .ok (.aload_n 0, 1) := by decide +kernel
theorem d_L_law_279 : decode b_L_law 279 = .ok (.iload 4, 2) := by decide +kernel
theorem d_L_law_281 : decode b_L_law 281 = .ok (.iconst 3, 1) := by decide +kernel
theorem d_L_law_282 : decode b_L_law 282 = .ok (.iadd, 1) := by decide +kernel
theorem d_L_law_283 : decode b_L_law 283 = .ok (.iaload, 1) := by decide +kernel
theorem d_L_law_284 : decode b_L_law 284 = .ok (.i2l, 1) := by decide +kernel
theorem d_L_law_285 : decode b_L_law 285 = .ok (.ldc2_w 66, 3) := by decide +kernel
theorem d_L_law_288 : decode b_L_law 288 = .ok (.land, 1) := by decide +kernel
theorem d_L_law_289 : decode b_L_law 289 = .ok (.lor, 1) := by decide +kernel
theorem d_L_law_290 : decode b_L_law 290 = .ok (.invokevirtual 71, 3) := by decide +kernel
theorem d_L_law_293 : decode b_L_law 293 = .ok (.istore 6, 2) := by decide +kernel
theorem d_L_law_295 : decode b_L_law 295 = .ok (.aload_n 2, 1) := by decide +kernel
theorem d_L_law_296 : decode b_L_law 296 = .ok (.invokevirtual 62, 3) := by decide +kernel
theorem d_L_law_299 : decode b_L_law 299 = .ok (.iload 5, 2) := by decide +kernel
theorem d_L_law_301 : decode b_L_law 301 = .ok (.if_icmp .eq 5, 3) := by decide +kernel
theorem d_L_law_304 : decode b_L_law 304 = .ok (.iconst 0, 1) := by decide +kernel
theorem d_L_law_305 : decode b_L_law 305 = .ok (.ireturn, 1) := by decide +kernel
theorem d_L_law_306 : decode b_L_law 306 = .ok (.iload 5, 2) := by decide +kernel
theorem d_L_law_308 : decode b_L_law 308 = .ok (.ifCond .ne 15, 3) := by decide +kernel
theorem d_L_law_311 : decode b_L_law 311 = .ok (.aload_n 3, 1) := by decide +kernel
theorem d_L_law_312 : decode b_L_law 312 = .ok (.iconst 0, 1) := by decide +kernel
theorem d_L_law_313 : decode b_L_law 313 = .ok (.laload, 1) := by decide +kernel
theorem d_L_law_314 : decode b_L_law 314 = .ok (.iload 6, 2) := by decide +kernel
theorem d_L_law_316 : decode b_L_law 316 = .ok (.i2l, 1) := by decide +kernel
theorem d_L_law_317 : decode b_L_law 317 = .ok (.lcmp, 1) := by decide +kernel
theorem d_L_law_318 : decode b_L_law 318 = .ok (.ifCond .eq 5, 3) := by decide +kernel
theorem d_L_law_321 : decode b_L_law 321 = .ok (.iconst 0, 1) := by decide +kernel
theorem d_L_law_322 : decode b_L_law 322 = .ok (.ireturn, 1) := by decide +kernel
theorem d_L_law_323 : decode b_L_law 323 = .ok (.goto 484, 3) := by decide +kernel
theorem d_L_law_326 : decode b_L_law 326 = .ok (.aload_n 1, 1) := by decide +kernel
theorem d_L_law_327 : decode b_L_law 327 = .ok (.aload_n 0, 1) := by decide +kernel
theorem d_L_law_328 : decode b_L_law 328 = .ok (.iload 4, 2) := by decide +kernel
theorem d_L_law_330 : decode b_L_law 330 = .ok (.iconst 1, 1) := by decide +kernel
theorem d_L_law_331 : decode b_L_law 331 = .ok (.iadd, 1) := by decide +kernel
theorem d_L_law_332 : decode b_L_law 332 = .ok (.iaload, 1) := by decide +kernel
theorem d_L_law_333 : decode b_L_law 333 = .ok (.aload_n 3, 1) := by decide +kernel
theorem d_L_law_334 : decode b_L_law 334 = .ok (.invokestatic 72, 3) := by decide +kernel
theorem d_L_law_337 : decode b_L_law 337 = .ok (.istore 5, 2) := by decide +kernel
theorem d_L_law_339 : decode b_L_law 339 = .ok (.aload_n 2, 1) := by decide +kernel
theorem d_L_law_340 : decode b_L_law 340 = .ok (.aload_n 0, 1) := by decide +kernel
theorem d_L_law_341 : decode b_L_law 341 = .ok (.iload 4, 2) := by decide +kernel
theorem d_L_law_343 : decode b_L_law 343 = .ok (.iconst 1, 1) := by decide +kernel
theorem d_L_law_344 : decode b_L_law 344 = .ok (.iadd, 1) := by decide +kernel
theorem d_L_law_345 : decode b_L_law 345 = .ok (.iaload, 1) := by decide +kernel
theorem d_L_law_346 : decode b_L_law 346 = .ok (.invokevirtual 75, 3) := by decide +kernel
theorem d_L_law_349 : decode b_L_law 349 = .ok (.istore 6, 2) := by decide +kernel
theorem d_L_law_351 : decode b_L_law 351 = .ok (.aload_n 2, 1) := by decide +kernel
theorem d_L_law_352 : decode b_L_law 352 = .ok (.invokevirtual 62, 3) := by decide +kernel
theorem d_L_law_355 : decode b_L_law 355 = .ok (.iload 5, 2) := by decide +kernel
theorem d_L_law_357 : decode b_L_law 357 = .ok (.if_icmp .eq 5, 3) := by decide +kernel
theorem d_L_law_360 : decode b_L_law 360 = .ok (.iconst 0, 1) := by decide +kernel
theorem d_L_law_361 : decode b_L_law 361 = .ok (.ireturn, 1) := by decide +kernel
theorem d_L_law_362 : decode b_L_law 362 = .ok (.iload 5, 2) := by decide +kernel
theorem d_L_law_364 : decode b_L_law 364 = .ok (.ifCond .ne 15, 3) := by decide +kernel
theorem d_L_law_367 : decode b_L_law 367 = .ok (.aload_n 3, 1) := by decide +kernel
theorem d_L_law_368 : decode b_L_law 368 = .ok (.iconst 0, 1) := by decide +kernel
theorem d_L_law_369 : decode b_L_law 369 = .ok (.laload, 1) := by decide +kernel
theorem d_L_law_370 : decode b_L_law 370 = .ok (.iload 6, 2) := by decide +kernel
theorem d_L_law_372 : decode b_L_law 372 = .ok (.i2l, 1) := by decide +kernel
theorem d_L_law_373 : decode b_L_law 373 = .ok (.lcmp, 1) := by decide +kernel
theorem d_L_law_374 : decode b_L_law 374 = .ok (.ifCond .eq 5, 3) := by decide +kernel
theorem d_L_law_377 : decode b_L_law 377 = .ok (.iconst 0, 1) := by decide +kernel
theorem d_L_law_378 : decode b_L_law 378 = .ok (.ireturn, 1) := by decide +kernel
theorem d_L_law_379 : decode b_L_law 379 = .ok (.goto 428, 3) := by decide +kernel
theorem d_L_law_382 : decode b_L_law 382 = .ok (.aload_n 1, 1) := by decide +kernel
theorem d_L_law_383 : decode b_L_law 383 = .ok (.aload_n 0, 1) := by decide +kernel
theorem d_L_law_384 : decode b_L_law 384 = .ok (.iload 4, 2) := by decide +kernel
theorem d_L_law_386 : decode b_L_law 386 = .ok (.iconst 1, 1) := by decide +kernel
theorem d_L_law_387 : decode b_L_law 387 = .ok (.iadd, 1) := by decide +kernel
theorem d_L_law_388 : decode b_L_law 388 = .ok (.iaload, 1) := by decide +kernel
theorem d_L_law_389 : decode b_L_law 389 = .ok (.aload_n 3, 1) := by decide +kernel
theorem d_L_law_390 : decode b_L_law 390 = .ok (.invokestatic 76, 3) := by decide +kernel
theorem d_L_law_393 : decode b_L_law 393 = .ok (.istore 5, 2) := by decide +kernel
theorem d_L_law_395 : decode b_L_law 395 = .ok (.aload_n 2, 1) := by decide +kernel
theorem d_L_law_396 : decode b_L_law 396 = .ok (.aload_n 0, 1) := by decide +kernel
theorem d_L_law_397 : decode b_L_law 397 = .ok (.iload 4, 2) := by decide +kernel
theorem d_L_law_399 : decode b_L_law 399 = .ok (.iconst 1, 1) := by decide +kernel
theorem d_L_law_400 : decode b_L_law 400 = .ok (.iadd, 1) := by decide +kernel
theorem d_L_law_401 : decode b_L_law 401 = .ok (.iaload, 1) := by decide +kernel
theorem d_L_law_402 : decode b_L_law 402 = .ok (.invokevirtual 78, 3) := by decide +kernel
theorem d_L_law_405 : decode b_L_law 405 = .ok (.istore 6, 2) := by decide +kernel
theorem d_L_law_407 : decode b_L_law 407 = .ok (.aload_n 2, 1) := by decide +kernel
theorem d_L_law_408 : decode b_L_law 408 = .ok (.invokevirtual 62, 3) := by decide +kernel
theorem d_L_law_411 : decode b_L_law 411 = .ok (.iload 5, 2) := by decide +kernel
theorem d_L_law_413 : decode b_L_law 413 = .ok (.if_icmp .eq 5, 3) := by decide +kernel
theorem d_L_law_416 : decode b_L_law 416 = .ok (.iconst 0, 1) := by decide +kernel
theorem d_L_law_417 : decode b_L_law 417 = .ok (.ireturn, 1) := by decide +kernel
theorem d_L_law_418 : decode b_L_law 418 = .ok (.iload 5, 2) := by decide +kernel
theorem d_L_law_420 : decode b_L_law 420 = .ok (.ifCond .ne 15, 3) := by decide +kernel
theorem d_L_law_423 : decode b_L_law 423 = .ok (.aload_n 3, 1) := by decide +kernel
theorem d_L_law_424 : decode b_L_law 424 = .ok (.iconst 0, 1) := by decide +kernel
theorem d_L_law_425 : decode b_L_law 425 = .ok (.laload, 1) := by decide +kernel
theorem d_L_law_426 : decode b_L_law 426 = .ok (.iload 6, 2) := by decide +kernel
theorem d_L_law_428 : decode b_L_law 428 = .ok (.i2l, 1) := by decide +kernel
theorem d_L_law_429 : decode b_L_law 429 = .ok (.lcmp, 1) := by decide +kernel
theorem d_L_law_430 : decode b_L_law 430 = .ok (.ifCond .eq 5, 3) := by decide +kernel
theorem d_L_law_433 : decode b_L_law 433 = .ok (.iconst 0, 1) := by decide +kernel
theorem d_L_law_434 : decode b_L_law 434 = .ok (.ireturn, 1) := by decide +kernel
theorem d_L_law_435 : decode b_L_law 435 = .ok (.goto 372, 3) := by decide +kernel
theorem d_L_law_438 : decode b_L_law 438 = .ok (.aload_n 1, 1) := by decide +kernel
theorem d_L_law_439 : decode b_L_law 439 = .ok (.aload_n 0, 1) := by decide +kernel
theorem d_L_law_440 : decode b_L_law 440 = .ok (.iload 4, 2) := by decide +kernel
theorem d_L_law_442 : decode b_L_law 442 = .ok (.iconst 1, 1) := by decide +kernel
theorem d_L_law_443 : decode b_L_law 443 = .ok (.iadd, 1) := by decide +kernel
theorem d_L_law_444 : decode b_L_law 444 = .ok (.iaload, 1) := by decide +kernel
theorem d_L_law_445 : decode b_L_law 445 = .ok (.aload_n 0, 1) := by decide +kernel
theorem d_L_law_446 : decode b_L_law 446 = .ok (.iload 4, 2) := by decide +kernel
theorem d_L_law_448 : decode b_L_law 448 = .ok (.iconst 2, 1) := by decide +kernel
theorem d_L_law_449 : decode b_L_law 449 = .ok (.iadd, 1) := by decide +kernel
theorem d_L_law_450 : decode b_L_law 450 = .ok (.iaload, 1) := by decide +kernel
theorem d_L_law_451 : decode b_L_law 451 = .ok (.aload_n 0, 1) := by decide +kernel
theorem d_L_law_452 : decode b_L_law 452 = .ok (.iload 4, 2) := by decide +kernel
theorem d_L_law_454 : decode b_L_law 454 = .ok (.iconst 3, 1) := by decide +kernel
theorem d_L_law_455 : decode b_L_law 455 = .ok (.iadd, 1) := by decide +kernel
theorem d_L_law_456 : decode b_L_law 456 = .ok (.iaload, 1) := by decide +kernel
theorem d_L_law_457 : decode b_L_law 457 = .ok (.aload_n 0, 1) := by decide +kernel
theorem d_L_law_458 : decode b_L_law 458 = .ok (.iload 4, 2) := by decide +kernel
theorem d_L_law_460 : decode b_L_law 460 = .ok (.iconst 4, 1) := by decide +kernel
theorem d_L_law_461 : decode b_L_law 461 = .ok (.iadd, 1) := by decide +kernel
theorem d_L_law_462 : decode b_L_law 462 = .ok (.iaload, 1) := by decide +kernel
theorem d_L_law_463 : decode b_L_law 463 = .ok (.invokevirtual 79, 3) := by decide +kernel
theorem d_L_law_466 : decode b_L_law 466 = .ok (.aload_n 2, 1) := by decide +kernel
theorem d_L_law_467 : decode b_L_law 467 = .ok (.aload_n 0, 1) := by decide +kernel
theorem d_L_law_468 : decode b_L_law 468 = .ok (.iload 4, 2) := by decide +kernel
theorem d_L_law_470 : decode b_L_law 470 = .ok (.iconst 1, 1) := by decide +kernel
theorem d_L_law_471 : decode b_L_law 471 = .ok (.iadd, 1) := by decide +kernel
theorem d_L_law_472 : decode b_L_law 472 = .ok (.iaload, 1) := by decide +kernel
theorem d_L_law_473 : decode b_L_law 473 = .ok (.aload_n 0, 1) := by decide +kernel
theorem d_L_law_474 : decode b_L_law 474 = .ok (.iload 4, 2) := by decide +kernel
theorem d_L_law_476 : decode b_L_law 476 = .ok (.iconst 2, 1) := by decide +kernel
theorem d_L_law_477 : decode b_L_law 477 = .ok (.iadd, 1) := by decide +kernel
theorem d_L_law_478 : decode b_L_law 478 = .ok (.iaload, 1) := by decide +kernel
theorem d_L_law_479 : decode b_L_law 479 = .ok (.aload_n 0, 1) := by decide +kernel
theorem d_L_law_480 : decode b_L_law 480 = .ok (.iload 4, 2) := by decide +kernel
theorem d_L_law_482 : decode b_L_law 482 = .ok (.iconst 3, 1) := by decide +kernel
theorem d_L_law_483 : decode b_L_law 483 = .ok (.iadd, 1) := by decide +kernel
theorem d_L_law_484 : decode b_L_law 484 = .ok (.iaload, 1) := by decide +kernel
theorem d_L_law_485 : decode b_L_law 485 = .ok (.aload_n 0, 1) := by decide +kernel
theorem d_L_law_486 : decode b_L_law 486 = .ok (.iload 4, 2) := by decide +kernel
theorem d_L_law_488 : decode b_L_law 488 = .ok (.iconst 4, 1) := by decide +kernel
theorem d_L_law_489 : decode b_L_law 489 = .ok (.iadd, 1) := by decide +kernel
theorem d_L_law_490 : decode b_L_law 490 = .ok (.iaload, 1) := by decide +kernel
theorem d_L_law_491 : decode b_L_law 491 = .ok (.invokevirtual 83, 3) := by decide +kernel
theorem d_L_law_494 : decode b_L_law 494 = .ok (.if_icmp .eq 313, 3) := by decide +kernel
theorem d_L_law_497 : decode b_L_law 497 = .ok (.iconst 0, 1) := by decide +kernel
theorem d_L_law_498 : decode b_L_law 498 = .ok (.ireturn, 1) := by decide +kernel
theorem d_L_law_499 : decode b_L_law 499 = .ok (.aload_n 1, 1) := by decide +kernel
theorem d_L_law_500 : decode b_L_law 500 = .ok (.aload_n 0, 1) := by decide +kernel
theorem d_L_law_501 : decode b_L_law 501 = .ok (.iload 4, 2) := by decide +kernel
theorem d_L_law_503 : decode b_L_law 503 = .ok (.iconst 1, 1) := by decide +kernel
theorem d_L_law_504 : decode b_L_law 504 = .ok (.iadd, 1) := by decide +kernel
theorem d_L_law_505 : decode b_L_law 505 = .ok (.iaload, 1) := by decide +kernel
theorem d_L_law_506 : decode b_L_law 506 = .ok (.aload_n 0, 1) := by decide +kernel
theorem d_L_law_507 : decode b_L_law 507 = .ok (.iload 4, 2) := by decide +kernel
theorem d_L_law_509 : decode b_L_law 509 = .ok (.iconst 2, 1) := by decide +kernel
theorem d_L_law_510 : decode b_L_law 510 = .ok (.iadd, 1) := by decide +kernel
theorem d_L_law_511 : decode b_L_law 511 = .ok (.iaload, 1) := by decide +kernel
theorem d_L_law_512 : decode b_L_law 512 = .ok (.aload_n 0, 1) := by decide +kernel
theorem d_L_law_513 : decode b_L_law 513 = .ok (.iload 4, 2) := by decide +kernel
theorem d_L_law_515 : decode b_L_law 515 = .ok (.iconst 3, 1) := by decide +kernel
theorem d_L_law_516 : decode b_L_law 516 = .ok (.iadd, 1) := by decide +kernel
theorem d_L_law_517 : decode b_L_law 517 = .ok (.iaload, 1) := by decide +kernel
theorem d_L_law_518 : decode b_L_law 518 = .ok (.aload_n 3, 1) := by decide +kernel
theorem d_L_law_519 : decode b_L_law 519 = .ok (.invokestatic 84, 3) := by decide +kernel
theorem d_L_law_522 : decode b_L_law 522 = .ok (.istore 5, 2) := by decide +kernel
theorem d_L_law_524 : decode b_L_law 524 = .ok (.aload_n 2, 1) := by decide +kernel
theorem d_L_law_525 : decode b_L_law 525 = .ok (.aload_n 0, 1) := by decide +kernel
theorem d_L_law_526 : decode b_L_law 526 = .ok (.iload 4, 2) := by decide +kernel
theorem d_L_law_528 : decode b_L_law 528 = .ok (.iconst 1, 1) := by decide +kernel
theorem d_L_law_529 : decode b_L_law 529 = .ok (.iadd, 1) := by decide +kernel
theorem d_L_law_530 : decode b_L_law 530 = .ok (.iaload, 1) := by decide +kernel
theorem d_L_law_531 : decode b_L_law 531 = .ok (.aload_n 0, 1) := by decide +kernel
theorem d_L_law_532 : decode b_L_law 532 = .ok (.iload 4, 2) := by decide +kernel
theorem d_L_law_534 : decode b_L_law 534 = .ok (.iconst 2, 1) := by decide +kernel
theorem d_L_law_535 : decode b_L_law 535 = .ok (.iadd, 1) := by decide +kernel
theorem d_L_law_536 : decode b_L_law 536 = .ok (.iaload, 1) := by decide +kernel
theorem d_L_law_537 : decode b_L_law 537 = .ok (.aload_n 0, 1) := by decide +kernel
theorem d_L_law_538 : decode b_L_law 538 = .ok (.iload 4, 2) := by decide +kernel
theorem d_L_law_540 : decode b_L_law 540 = .ok (.iconst 3, 1) := by decide +kernel
theorem d_L_law_541 : decode b_L_law 541 = .ok (.iadd, 1) := by decide +kernel
theorem d_L_law_542 : decode b_L_law 542 = .ok (.iaload, 1) := by decide +kernel
theorem d_L_law_543 : decode b_L_law 543 = .ok (.invokevirtual 87, 3) := by decide +kernel
theorem d_L_law_546 : decode b_L_law 546 = .ok (.istore 6, 2) := by decide +kernel
theorem d_L_law_548 : decode b_L_law 548 = .ok (.aload_n 2, 1) := by decide +kernel
theorem d_L_law_549 : decode b_L_law 549 = .ok (.invokevirtual 62, 3) := by decide +kernel
theorem d_L_law_552 : decode b_L_law 552 = .ok (.iload 5, 2) := by decide +kernel
theorem d_L_law_554 : decode b_L_law 554 = .ok (.if_icmp .eq 5, 3) := by decide +kernel
theorem d_L_law_557 : decode b_L_law 557 = .ok (.iconst 0, 1) := by decide +kernel
theorem d_L_law_558 : decode b_L_law 558 = .ok (.ireturn, 1) := by decide +kernel
theorem d_L_law_559 : decode b_L_law 559 = .ok (.iload 5, 2) := by decide +kernel
theorem d_L_law_561 : decode b_L_law 561 = .ok (.ifCond .ne 15, 3) := by decide +kernel
theorem d_L_law_564 : decode b_L_law 564 = .ok (.aload_n 3, 1) := by decide +kernel
theorem d_L_law_565 : decode b_L_law 565 = .ok (.iconst 0, 1) := by decide +kernel
theorem d_L_law_566 : decode b_L_law 566 = .ok (.laload, 1) := by decide +kernel
theorem d_L_law_567 : decode b_L_law 567 = .ok (.iload 6, 2) := by decide +kernel
theorem d_L_law_569 : decode b_L_law 569 = .ok (.i2l, 1) := by decide +kernel
theorem d_L_law_570 : decode b_L_law 570 = .ok (.lcmp, 1) := by decide +kernel
theorem d_L_law_571 : decode b_L_law 571 = .ok (.ifCond .eq 5, 3) := by decide +kernel
theorem d_L_law_574 : decode b_L_law 574 = .ok (.iconst 0, 1) := by decide +kernel
theorem d_L_law_575 : decode b_L_law 575 = .ok (.ireturn, 1) := by decide +kernel
theorem d_L_law_576 : decode b_L_law 576 = .ok (.goto 231, 3) := by decide +kernel
theorem d_L_law_579 : decode b_L_law 579 = .ok (.aload_n 1, 1) := by decide +kernel
theorem d_L_law_580 : decode b_L_law 580 = .ok (.aload_n 0, 1) := by decide +kernel
theorem d_L_law_581 : decode b_L_law 581 = .ok (.iload 4, 2) := by decide +kernel
theorem d_L_law_583 : decode b_L_law 583 = .ok (.iconst 1, 1) := by decide +kernel
theorem d_L_law_584 : decode b_L_law 584 = .ok (.iadd, 1) := by decide +kernel
theorem d_L_law_585 : decode b_L_law 585 = .ok (.iaload, 1) := by decide +kernel
theorem d_L_law_586 : decode b_L_law 586 = .ok (.aload_n 0, 1) := by decide +kernel
theorem d_L_law_587 : decode b_L_law 587 = .ok (.iload 4, 2) := by decide +kernel
theorem d_L_law_589 : decode b_L_law 589 = .ok (.iconst 2, 1) := by decide +kernel
theorem d_L_law_590 : decode b_L_law 590 = .ok (.iadd, 1) := by decide +kernel
theorem d_L_law_591 : decode b_L_law 591 = .ok (.iaload, 1) := by decide +kernel
theorem d_L_law_592 : decode b_L_law 592 = .ok (.aload_n 0, 1) := by decide +kernel
theorem d_L_law_593 : decode b_L_law 593 = .ok (.iload 4, 2) := by decide +kernel
theorem d_L_law_595 : decode b_L_law 595 = .ok (.iconst 3, 1) := by decide +kernel
theorem d_L_law_596 : decode b_L_law 596 = .ok (.iadd, 1) := by decide +kernel
theorem d_L_law_597 : decode b_L_law 597 = .ok (.iaload, 1) := by decide +kernel
theorem d_L_law_598 : decode b_L_law 598 = .ok (.aload_n 3, 1) := by decide +kernel
theorem d_L_law_599 : decode b_L_law 599 = .ok (.invokestatic 88, 3) := by decide +kernel
theorem d_L_law_602 : decode b_L_law 602 = .ok (.istore 5, 2) := by decide +kernel
theorem d_L_law_604 : decode b_L_law 604 = .ok (.aload_n 2, 1) := by decide +kernel
theorem d_L_law_605 : decode b_L_law 605 = .ok (.aload_n 0, 1) := by decide +kernel
theorem d_L_law_606 : decode b_L_law 606 = .ok (.iload 4, 2) := by decide +kernel
theorem d_L_law_608 : decode b_L_law 608 = .ok (.iconst 1, 1) := by decide +kernel
theorem d_L_law_609 : decode b_L_law 609 = .ok (.iadd, 1) := by decide +kernel
theorem d_L_law_610 : decode b_L_law 610 = .ok (.iaload, 1) := by decide +kernel
theorem d_L_law_611 : decode b_L_law 611 = .ok (.aload_n 0, 1) := by decide +kernel
theorem d_L_law_612 : decode b_L_law 612 = .ok (.iload 4, 2) := by decide +kernel
theorem d_L_law_614 : decode b_L_law 614 = .ok (.iconst 2, 1) := by decide +kernel
theorem d_L_law_615 : decode b_L_law 615 = .ok (.iadd, 1) := by decide +kernel
theorem d_L_law_616 : decode b_L_law 616 = .ok (.iaload, 1) := by decide +kernel
theorem d_L_law_617 : decode b_L_law 617 = .ok (.aload_n 0, 1) := by decide +kernel
theorem d_L_law_618 : decode b_L_law 618 = .ok (.iload 4, 2) := by decide +kernel
theorem d_L_law_620 : decode b_L_law 620 = .ok (.iconst 3, 1) := by decide +kernel
theorem d_L_law_621 : decode b_L_law 621 = .ok (.iadd, 1) := by decide +kernel
theorem d_L_law_622 : decode b_L_law 622 = .ok (.iaload, 1) := by decide +kernel
theorem d_L_law_623 : decode b_L_law 623 = .ok (.invokevirtual 90, 3) := by decide +kernel
theorem d_L_law_626 : decode b_L_law 626 = .ok (.istore 6, 2) := by decide +kernel
theorem d_L_law_628 : decode b_L_law 628 = .ok (.aload_n 2, 1) := by decide +kernel
theorem d_L_law_629 : decode b_L_law 629 = .ok (.invokevirtual 62, 3) := by decide +kernel
theorem d_L_law_632 : decode b_L_law 632 = .ok (.iload 5, 2) := by decide +kernel
theorem d_L_law_634 : decode b_L_law 634 = .ok (.if_icmp .eq 5, 3) := by decide +kernel
theorem d_L_law_637 : decode b_L_law 637 = .ok (.iconst 0, 1) := by decide +kernel
theorem d_L_law_638 : decode b_L_law 638 = .ok (.ireturn, 1) := by decide +kernel
theorem d_L_law_639 : decode b_L_law 639 = .ok (.iload 5, 2) := by decide +kernel
theorem d_L_law_641 : decode b_L_law 641 = .ok (.ifCond .ne 15, 3) := by decide +kernel
theorem d_L_law_644 : decode b_L_law 644 = .ok (.aload_n 3, 1) := by decide +kernel
theorem d_L_law_645 : decode b_L_law 645 = .ok (.iconst 0, 1) := by decide +kernel
theorem d_L_law_646 : decode b_L_law 646 = .ok (.laload, 1) := by decide +kernel
theorem d_L_law_647 : decode b_L_law 647 = .ok (.iload 6, 2) := by decide +kernel
theorem d_L_law_649 : decode b_L_law 649 = .ok (.i2l, 1) := by decide +kernel
theorem d_L_law_650 : decode b_L_law 650 = .ok (.lcmp, 1) := by decide +kernel
theorem d_L_law_651 : decode b_L_law 651 = .ok (.ifCond .eq 5, 3) := by decide +kernel
theorem d_L_law_654 : decode b_L_law 654 = .ok (.iconst 0, 1) := by decide +kernel
theorem d_L_law_655 : decode b_L_law 655 = .ok (.ireturn, 1) := by decide +kernel
theorem d_L_law_656 : decode b_L_law 656 = .ok (.goto 151, 3) := by decide +kernel
theorem d_L_law_659 : decode b_L_law 659 = .ok (.aload_n 1, 1) := by decide +kernel
theorem d_L_law_660 : decode b_L_law 660 = .ok (.aload_n 0, 1) := by decide +kernel
theorem d_L_law_661 : decode b_L_law 661 = .ok (.iload 4, 2) := by decide +kernel
theorem d_L_law_663 : decode b_L_law 663 = .ok (.iconst 1, 1) := by decide +kernel
theorem d_L_law_664 : decode b_L_law 664 = .ok (.iadd, 1) := by decide +kernel
theorem d_L_law_665 : decode b_L_law 665 = .ok (.iaload, 1) := by decide +kernel
theorem d_L_law_666 : decode b_L_law 666 = .ok (.aload_n 0, 1) := by decide +kernel
theorem d_L_law_667 : decode b_L_law 667 = .ok (.iload 4, 2) := by decide +kernel
theorem d_L_law_669 : decode b_L_law 669 = .ok (.iconst 2, 1) := by decide +kernel
theorem d_L_law_670 : decode b_L_law 670 = .ok (.iadd, 1) := by decide +kernel
theorem d_L_law_671 : decode b_L_law 671 = .ok (.iaload, 1) := by decide +kernel
theorem d_L_law_672 : decode b_L_law 672 = .ok (.aload_n 0, 1) := by decide +kernel
theorem d_L_law_673 : decode b_L_law 673 = .ok (.iload 4, 2) := by decide +kernel
theorem d_L_law_675 : decode b_L_law 675 = .ok (.iconst 3, 1) := by decide +kernel
theorem d_L_law_676 : decode b_L_law 676 = .ok (.iadd, 1) := by decide +kernel
theorem d_L_law_677 : decode b_L_law 677 = .ok (.iaload, 1) := by decide +kernel
theorem d_L_law_678 : decode b_L_law 678 = .ok (.aload_n 0, 1) := by decide +kernel
theorem d_L_law_679 : decode b_L_law 679 = .ok (.iload 4, 2) := by decide +kernel
theorem d_L_law_681 : decode b_L_law 681 = .ok (.iconst 4, 1) := by decide +kernel
theorem d_L_law_682 : decode b_L_law 682 = .ok (.iadd, 1) := by decide +kernel
theorem d_L_law_683 : decode b_L_law 683 = .ok (.iaload, 1) := by decide +kernel
theorem d_L_law_684 : decode b_L_law 684 = .ok (.aload_n 3, 1) := by decide +kernel
theorem d_L_law_685 : decode b_L_law 685 = .ok (.invokestatic 91, 3) := by decide +kernel
theorem d_L_law_688 : decode b_L_law 688 = .ok (.istore 5, 2) := by decide +kernel
theorem d_L_law_690 : decode b_L_law 690 = .ok (.aload_n 2, 1) := by decide +kernel
theorem d_L_law_691 : decode b_L_law 691 = .ok (.aload_n 0, 1) := by decide +kernel
theorem d_L_law_692 : decode b_L_law 692 = .ok (.iload 4, 2) := by decide +kernel
theorem d_L_law_694 : decode b_L_law 694 = .ok (.iconst 1, 1) := by decide +kernel
theorem d_L_law_695 : decode b_L_law 695 = .ok (.iadd, 1) := by decide +kernel
theorem d_L_law_696 : decode b_L_law 696 = .ok (.iaload, 1) := by decide +kernel
theorem d_L_law_697 : decode b_L_law 697 = .ok (.aload_n 0, 1) := by decide +kernel
theorem d_L_law_698 : decode b_L_law 698 = .ok (.iload 4, 2) := by decide +kernel
theorem d_L_law_700 : decode b_L_law 700 = .ok (.iconst 2, 1) := by decide +kernel
theorem d_L_law_701 : decode b_L_law 701 = .ok (.iadd, 1) := by decide +kernel
theorem d_L_law_702 : decode b_L_law 702 = .ok (.iaload, 1) := by decide +kernel
theorem d_L_law_703 : decode b_L_law 703 = .ok (.aload_n 0, 1) := by decide +kernel
theorem d_L_law_704 : decode b_L_law 704 = .ok (.iload 4, 2) := by decide +kernel
theorem d_L_law_706 : decode b_L_law 706 = .ok (.iconst 3, 1) := by decide +kernel
theorem d_L_law_707 : decode b_L_law 707 = .ok (.iadd, 1) := by decide +kernel
theorem d_L_law_708 : decode b_L_law 708 = .ok (.iaload, 1) := by decide +kernel
theorem d_L_law_709 : decode b_L_law 709 = .ok (.aload_n 0, 1) := by decide +kernel
theorem d_L_law_710 : decode b_L_law 710 = .ok (.iload 4, 2) := by decide +kernel
theorem d_L_law_712 : decode b_L_law 712 = .ok (.iconst 4, 1) := by decide +kernel
theorem d_L_law_713 : decode b_L_law 713 = .ok (.iadd, 1) := by decide +kernel
theorem d_L_law_714 : decode b_L_law 714 = .ok (.iaload, 1) := by decide +kernel
theorem d_L_law_715 : decode b_L_law 715 = .ok (.invokevirtual 94, 3) := by decide +kernel
theorem d_L_law_718 : decode b_L_law 718 = .ok (.istore 6, 2) := by decide +kernel
theorem d_L_law_720 : decode b_L_law 720 = .ok (.aload_n 2, 1) := by decide +kernel
theorem d_L_law_721 : decode b_L_law 721 = .ok (.invokevirtual 62, 3) := by decide +kernel
theorem d_L_law_724 : decode b_L_law 724 = .ok (.iload 5, 2) := by decide +kernel
theorem d_L_law_726 : decode b_L_law 726 = .ok (.if_icmp .eq 5, 3) := by decide +kernel
theorem d_L_law_729 : decode b_L_law 729 = .ok (.iconst 0, 1) := by decide +kernel
theorem d_L_law_730 : decode b_L_law 730 = .ok (.ireturn, 1) := by decide +kernel
theorem d_L_law_731 : decode b_L_law 731 = .ok (.iload 5, 2) := by decide +kernel
theorem d_L_law_733 : decode b_L_law 733 = .ok (.ifCond .ne 15, 3) := by decide +kernel
theorem d_L_law_736 : decode b_L_law 736 = .ok (.aload_n 3, 1) := by decide +kernel
theorem d_L_law_737 : decode b_L_law 737 = .ok (.iconst 0, 1) := by decide +kernel
theorem d_L_law_738 : decode b_L_law 738 = .ok (.laload, 1) := by decide +kernel
theorem d_L_law_739 : decode b_L_law 739 = .ok (.iload 6, 2) := by decide +kernel
theorem d_L_law_741 : decode b_L_law 741 = .ok (.i2l, 1) := by decide +kernel
theorem d_L_law_742 : decode b_L_law 742 = .ok (.lcmp, 1) := by decide +kernel
theorem d_L_law_743 : decode b_L_law 743 = .ok (.ifCond .eq 5, 3) := by decide +kernel
theorem d_L_law_746 : decode b_L_law 746 = .ok (.iconst 0, 1) := by decide +kernel
theorem d_L_law_747 : decode b_L_law 747 = .ok (.ireturn, 1) := by decide +kernel
theorem d_L_law_748 : decode b_L_law 748 = .ok (.goto 59, 3) := by decide +kernel
theorem d_L_law_751 : decode b_L_law 751 = .ok (.aload_n 1, 1) := by decide +kernel
theorem d_L_law_752 : decode b_L_law 752 = .ok (.aload_n 0, 1) := by decide +kernel
theorem d_L_law_753 : decode b_L_law 753 = .ok (.iload 4, 2) := by decide +kernel
theorem d_L_law_755 : decode b_L_law 755 = .ok (.iconst 1, 1) := by decide +kernel
theorem d_L_law_756 : decode b_L_law 756 = .ok (.iadd, 1) := by decide +kernel
theorem d_L_law_757 : decode b_L_law 757 = .ok (.iaload, 1) := by decide +kernel
theorem d_L_law_758 : decode b_L_law 758 = .ok (.aload_n 3, 1) := by decide +kernel
theorem d_L_law_759 : decode b_L_law 759 = .ok (.invokestatic 95, 3) := by decide +kernel
theorem d_L_law_762 : decode b_L_law 762 = .ok (.istore 5, 2) := by decide +kernel
theorem d_L_law_764 : decode b_L_law 764 = .ok (.aload_n 2, 1) := by decide +kernel
theorem d_L_law_765 : decode b_L_law 765 = .ok (.aload_n 0, 1) := by decide +kernel
theorem d_L_law_766 : decode b_L_law 766 = .ok (.iload 4, 2) := by decide +kernel
theorem d_L_law_768 : decode b_L_law 768 = .ok (.iconst 1, 1) := by decide +kernel
theorem d_L_law_769 : decode b_L_law 769 = .ok (.iadd, 1) := by decide +kernel
theorem d_L_law_770 : decode b_L_law 770 = .ok (.iaload, 1) := by decide +kernel
theorem d_L_law_771 : decode b_L_law 771 = .ok (.invokevirtual 97, 3) := by decide +kernel
theorem d_L_law_774 : decode b_L_law 774 = .ok (.istore 6, 2) := by decide +kernel
theorem d_L_law_776 : decode b_L_law 776 = .ok (.aload_n 2, 1) := by decide +kernel
theorem d_L_law_777 : decode b_L_law 777 = .ok (.invokevirtual 62, 3) := by decide +kernel
theorem d_L_law_780 : decode b_L_law 780 = .ok (.iload 5, 2) := by decide +kernel
theorem d_L_law_782 : decode b_L_law 782 = .ok (.if_icmp .eq 5, 3) := by decide +kernel
theorem d_L_law_785 : decode b_L_law 785 = .ok (.iconst 0, 1) := by decide +kernel
theorem d_L_law_786 : decode b_L_law 786 = .ok (.ireturn, 1) := by decide +kernel
theorem d_L_law_787 : decode b_L_law 787 = .ok (.iload 5, 2) := by decide +kernel
theorem d_L_law_789 : decode b_L_law 789 = .ok (.ifCond .ne 15, 3) := by decide +kernel
theorem d_L_law_792 : decode b_L_law 792 = .ok (.aload_n 3, 1) := by decide +kernel
theorem d_L_law_793 : decode b_L_law 793 = .ok (.iconst 0, 1) := by decide +kernel
theorem d_L_law_794 : decode b_L_law 794 = .ok (.laload, 1) := by decide +kernel
theorem d_L_law_795 : decode b_L_law 795 = .ok (.iload 6, 2) := by decide +kernel
theorem d_L_law_797 : decode b_L_law 797 = .ok (.i2l, 1) := by decide +kernel
theorem d_L_law_798 : decode b_L_law 798 = .ok (.lcmp, 1) := by decide +kernel
theorem d_L_law_799 : decode b_L_law 799 = .ok (.ifCond .eq 5, 3) := by decide +kernel
theorem d_L_law_802 : decode b_L_law 802 = .ok (.iconst 0, 1) := by decide +kernel
theorem d_L_law_803 : decode b_L_law 803 = .ok (.ireturn, 1) := by decide +kernel
theorem d_L_law_804 : decode b_L_law 804 = .ok (.goto 3, 3) := by decide +kernel
theorem d_L_law_807 : decode b_L_law 807 = .ok (.iinc 4 5, 3) := by decide +kernel
theorem d_L_law_810 : decode b_L_law 810 = .ok (.goto (-787), 3) := by decide +kernel
theorem d_L_law_813 : decode b_L_law 813 = .ok (.iconst 1, 1) := by decide +kernel
theorem d_L_law_814 : decode b_L_law 814 = .ok (.ireturn, 1) := by decide +kernel
