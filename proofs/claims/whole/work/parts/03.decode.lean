theorem d_X_init_0 : decode b_X_init 0 = .ok (.aload_n 0, 1) := by decide +kernel
theorem d_X_init_1 : decode b_X_init 1 = .ok (.invokespecial 1, 3) := by decide +kernel
theorem d_X_init_4 : decode b_X_init 4 = .ok (.aload_n 0, 1) := by decide +kernel
theorem d_X_init_5 : decode b_X_init 5 = .ok (.bipush 23, 2) := by decide +kernel
theorem d_X_init_7 : decode b_X_init 7 = .ok (.putfield 7, 3) := by decide +kernel
theorem d_X_init_10 : decode b_X_init 10 = .ok (.aload_n 0, 1) := by decide +kernel
theorem d_X_init_11 : decode b_X_init 11 = .ok (.bipush 11, 2) := by decide +kernel
theorem d_X_init_13 : decode b_X_init 13 = .ok (.putfield 13, 3) := by decide +kernel
theorem d_X_init_16 : decode b_X_init 16 = .ok (.aload_n 0, 1) := by decide +kernel
theorem d_X_init_17 : decode b_X_init 17 = .ok (.iconst 2, 1) := by decide +kernel
theorem d_X_init_18 : decode b_X_init 18 = .ok (.putfield 16, 3) := by decide +kernel
theorem d_X_init_21 : decode b_X_init 21 = .ok (.return_, 1) := by decide +kernel
theorem d_X_begin_0 : decode b_X_begin 0 = .ok (.iload_n 1, 1) := by decide +kernel
theorem d_X_begin_1 : decode b_X_begin 1 = .ok (.iload_n 2, 1) := by decide +kernel
theorem d_X_begin_2 : decode b_X_begin 2 = .ok (.invokestatic 19, 3) := by decide +kernel
theorem d_X_begin_5 : decode b_X_begin 5 = .ok (.ifCond .ne 5, 3) := by decide +kernel
theorem d_X_begin_8 : decode b_X_begin 8 = .ok (.iconst 0, 1) := by decide +kernel
theorem d_X_begin_9 : decode b_X_begin 9 = .ok (.ireturn, 1) := by decide +kernel
theorem d_X_begin_10 : decode b_X_begin 10 = .ok (.aload_n 0, 1) := by decide +kernel
theorem d_X_begin_11 : decode b_X_begin 11 = .ok (.iload_n 1, 1) := by decide +kernel
theorem d_X_begin_12 : decode b_X_begin 12 = .ok (.putfield 7, 3) := by decide +kernel
theorem d_X_begin_15 : decode b_X_begin 15 = .ok (.aload_n 0, 1) := by decide +kernel
theorem d_X_begin_16 : decode b_X_begin 16 = .ok (.iload_n 1, 1) := by decide +kernel
theorem d_X_begin_17 : decode b_X_begin 17 = .ok (.invokestatic 23, 3) := by decide +kernel
theorem d_X_begin_20 : decode b_X_begin 20 = .ok (.putfield 13, 3) := by decide +kernel
theorem d_X_begin_23 : decode b_X_begin 23 = .ok (.aload_n 0, 1) := by decide +kernel
theorem d_X_begin_24 : decode b_X_begin 24 = .ok (.iload_n 2, 1) := by decide +kernel
theorem d_X_begin_25 : decode b_X_begin 25 = .ok (.putfield 16, 3) := by decide +kernel
theorem d_X_begin_28 : decode b_X_begin 28 = .ok (.iconst 1, 1) := by decide +kernel
theorem d_X_begin_29 : decode b_X_begin 29 = .ok (.ireturn, 1) := by decide +kernel
theorem d_X_member_0 : decode b_X_member 0 = .ok (.iload_n 1, 1) := by decide +kernel
theorem d_X_member_1 : decode b_X_member 1 = .ok (.aload_n 0, 1) := by decide +kernel
theorem d_X_member_2 : decode b_X_member 2 = .ok (.getfield 7, 3) := by decide +kernel
theorem d_X_member_5 : decode b_X_member 5 = .ok (.invokestatic 27, 3) := by decide +kernel
theorem d_X_member_8 : decode b_X_member 8 = .ok (.ireturn, 1) := by decide +kernel
theorem d_X_product_0 : decode b_X_product 0 = .ok (.aload_n 0, 1) := by decide +kernel
theorem d_X_product_1 : decode b_X_product 1 = .ok (.iload_n 1, 1) := by decide +kernel
theorem d_X_product_2 : decode b_X_product 2 = .ok (.invokevirtual 30, 3) := by decide +kernel
theorem d_X_product_5 : decode b_X_product 5 = .ok (.aload_n 0, 1) := by decide +kernel
theorem d_X_product_6 : decode b_X_product 6 = .ok (.iload_n 2, 1) := by decide +kernel
theorem d_X_product_7 : decode b_X_product 7 = .ok (.invokevirtual 30, 3) := by decide +kernel
theorem d_X_product_10 : decode b_X_product 10 = .ok (.iload_n 1, 1) := by decide +kernel
theorem d_X_product_11 : decode b_X_product 11 = .ok (.iload_n 2, 1) := by decide +kernel
theorem d_X_product_12 : decode b_X_product 12 = .ok (.aload_n 0, 1) := by decide +kernel
theorem d_X_product_13 : decode b_X_product 13 = .ok (.getfield 7, 3) := by decide +kernel
theorem d_X_product_16 : decode b_X_product 16 = .ok (.invokestatic 34, 3) := by decide +kernel
theorem d_X_product_19 : decode b_X_product 19 = .ok (.ireturn, 1) := by decide +kernel
theorem d_X_power_0 : decode b_X_power 0 = .ok (.aload_n 0, 1) := by decide +kernel
theorem d_X_power_1 : decode b_X_power 1 = .ok (.iload_n 1, 1) := by decide +kernel
theorem d_X_power_2 : decode b_X_power 2 = .ok (.invokevirtual 30, 3) := by decide +kernel
theorem d_X_power_5 : decode b_X_power 5 = .ok (.lload_n 2, 1) := by decide +kernel
theorem d_X_power_6 : decode b_X_power 6 = .ok (.lconst 0, 1) := by decide +kernel
theorem d_X_power_7 : decode b_X_power 7 = .ok (.lcmp, 1) := by decide +kernel
theorem d_X_power_8 : decode b_X_power 8 = .ok (.ifCond .ge 13, 3) := by decide +kernel
theorem d_X_power_11 : decode b_X_power 11 = .ok (.new 38, 3) := by decide +kernel
theorem d_X_power_14 : decode b_X_power 14 = .ok (.dup, 1) := by decide +kernel
theorem d_X_power_15 : decode b_X_power 15 = .ok (.ldc 40, 2) := by decide +kernel
theorem d_X_power_17 : decode b_X_power 17 = .ok (.invokespecial 42, 3) := by decide +kernel
theorem d_X_power_20 : decode b_X_power 20 = .ok (.athrow, 1) := by decide +kernel
theorem d_X_power_21 : decode b_X_power 21 = .ok (.iload_n 1, 1) := by decide +kernel
theorem d_X_power_22 : decode b_X_power 22 = .ok (.lload_n 2, 1) := by decide +kernel
theorem d_X_power_23 : decode b_X_power 23 = .ok (.aload_n 0, 1) := by decide +kernel
theorem d_X_power_24 : decode b_X_power 24 = .ok (.getfield 7, 3) := by decide +kernel
theorem d_X_power_27 : decode b_X_power 27 = .ok (.invokestatic 45, 3) := by decide +kernel
theorem d_X_power_30 : decode b_X_power 30 = .ok (.ireturn, 1) := by decide +kernel
theorem d_X_inverse_0 : decode b_X_inverse 0 = .ok (.aload_n 0, 1) := by decide +kernel
theorem d_X_inverse_1 : decode b_X_inverse 1 = .ok (.iload_n 1, 1) := by decide +kernel
theorem d_X_inverse_2 : decode b_X_inverse 2 = .ok (.invokevirtual 30, 3) := by decide +kernel
theorem d_X_inverse_5 : decode b_X_inverse 5 = .ok (.iload_n 1, 1) := by decide +kernel
theorem d_X_inverse_6 : decode b_X_inverse 6 = .ok (.ifCond .ne 13, 3) := by decide +kernel
theorem d_X_inverse_9 : decode b_X_inverse 9 = .ok (.new 38, 3) := by decide +kernel
theorem d_X_inverse_12 : decode b_X_inverse 12 = .ok (.dup, 1) := by decide +kernel
theorem d_X_inverse_13 : decode b_X_inverse 13 = .ok (.ldc 49, 2) := by decide +kernel
theorem d_X_inverse_15 : decode b_X_inverse 15 = .ok (.invokespecial 42, 3) := by decide +kernel
theorem d_X_inverse_18 : decode b_X_inverse 18 = .ok (.athrow, 1) := by decide +kernel
theorem d_X_inverse_19 : decode b_X_inverse 19 = .ok (.iload_n 1, 1) := by decide +kernel
theorem d_X_inverse_20 : decode b_X_inverse 20 = .ok (.aload_n 0, 1) := by decide +kernel
theorem d_X_inverse_21 : decode b_X_inverse 21 = .ok (.getfield 7, 3) := by decide +kernel
theorem d_X_inverse_24 : decode b_X_inverse 24 = .ok (.invokestatic 51, 3) := by decide +kernel
theorem d_X_inverse_27 : decode b_X_inverse 27 = .ok (.ireturn, 1) := by decide +kernel
theorem d_X_log_0 : decode b_X_log 0 = .ok (.aload_n 0, 1) := by decide +kernel
theorem d_X_log_1 : decode b_X_log 1 = .ok (.iload_n 1, 1) := by decide +kernel
theorem d_X_log_2 : decode b_X_log 2 = .ok (.invokevirtual 55, 3) := by decide +kernel
theorem d_X_log_5 : decode b_X_log 5 = .ok (.aload_n 0, 1) := by decide +kernel
theorem d_X_log_6 : decode b_X_log 6 = .ok (.getfield 7, 3) := by decide +kernel
theorem d_X_log_9 : decode b_X_log 9 = .ok (.sipush 20000, 3) := by decide +kernel
theorem d_X_log_12 : decode b_X_log 12 = .ok (.if_icmp .le 13, 3) := by decide +kernel
theorem d_X_log_15 : decode b_X_log 15 = .ok (.new 58, 3) := by decide +kernel
theorem d_X_log_18 : decode b_X_log 18 = .ok (.dup, 1) := by decide +kernel
theorem d_X_log_19 : decode b_X_log 19 = .ok (.ldc 60, 2) := by decide +kernel
theorem d_X_log_21 : decode b_X_log 21 = .ok (.invokespecial 62, 3) := by decide +kernel
theorem d_X_log_24 : decode b_X_log 24 = .ok (.athrow, 1) := by decide +kernel
theorem d_X_log_25 : decode b_X_log 25 = .ok (.iconst 0, 1) := by decide +kernel
theorem d_X_log_26 : decode b_X_log 26 = .ok (.istore_n 2, 1) := by decide +kernel
theorem d_X_log_27 : decode b_X_log 27 = .ok (.iconst 1, 1) := by decide +kernel
theorem d_X_log_28 : decode b_X_log 28 = .ok (.istore_n 3, 1) := by decide +kernel
theorem d_X_log_29 : decode b_X_log 29 = .ok (.iload_n 2, 1) := by decide +kernel
theorem d_X_log_30 : decode b_X_log 30 = .ok (.aload_n 0, 1) := by decide +kernel
theorem d_X_log_31 : decode b_X_log 31 = .ok (.getfield 13, 3) := by decide +kernel
theorem d_X_log_34 : decode b_X_log 34 = .ok (.iconst 1, 1) := by decide +kernel
theorem d_X_log_35 : decode b_X_log 35 = .ok (.isub, 1) := by decide +kernel
theorem d_X_log_36 : decode b_X_log 36 = .ok (.if_icmp .ge 27, 3) := by decide +kernel
theorem d_X_log_39 : decode b_X_log 39 = .ok (.iload_n 3, 1) := by decide +kernel
theorem d_X_log_40 : decode b_X_log 40 = .ok (.iload_n 1, 1) := by decide +kernel
theorem d_X_log_41 : decode b_X_log 41 = .ok (.if_icmp .eq 22, 3) := by decide +kernel
theorem d_X_log_44 : decode b_X_log 44 = .ok (.iload_n 3, 1) := by decide +kernel
theorem d_X_log_45 : decode b_X_log 45 = .ok (.aload_n 0, 1) := by decide +kernel
theorem d_X_log_46 : decode b_X_log 46 = .ok (.getfield 16, 3) := by decide +kernel
theorem d_X_log_49 : decode b_X_log 49 = .ok (.aload_n 0, 1) := by decide +kernel
theorem d_X_log_50 : decode b_X_log 50 = .ok (.getfield 7, 3) := by decide +kernel
theorem d_X_log_53 : decode b_X_log 53 = .ok (.invokestatic 34, 3) := by decide +kernel
theorem d_X_log_56 : decode b_X_log 56 = .ok (.istore_n 3, 1) := by decide +kernel
theorem d_X_log_57 : decode b_X_log 57 = .ok (.iinc 2 1, 3) := by decide +kernel
theorem d_X_log_60 : decode b_X_log 60 = .ok (.goto (-31), 3) := by decide +kernel
theorem d_X_log_63 : decode b_X_log 63 = .ok (.iload_n 2, 1) := by decide +kernel
theorem d_X_log_64 : decode b_X_log 64 = .ok (.ireturn, 1) := by decide +kernel
theorem d_X_accepts_0 : decode b_X_accepts 0 = .ok (.iload_n 1, 1) := by decide +kernel
theorem d_X_accepts_1 : decode b_X_accepts 1 = .ok (.aload_n 0, 1) := by decide +kernel
theorem d_X_accepts_2 : decode b_X_accepts 2 = .ok (.getfield 7, 3) := by decide +kernel
theorem d_X_accepts_5 : decode b_X_accepts 5 = .ok (.invokestatic 27, 3) := by decide +kernel
theorem d_X_accepts_8 : decode b_X_accepts 8 = .ok (.ifCond .eq 31, 3) := by decide +kernel
theorem d_X_accepts_11 : decode b_X_accepts 11 = .ok (.iload_n 2, 1) := by decide +kernel
theorem d_X_accepts_12 : decode b_X_accepts 12 = .ok (.aload_n 0, 1) := by decide +kernel
theorem d_X_accepts_13 : decode b_X_accepts 13 = .ok (.getfield 7, 3) := by decide +kernel
theorem d_X_accepts_16 : decode b_X_accepts 16 = .ok (.invokestatic 27, 3) := by decide +kernel
theorem d_X_accepts_19 : decode b_X_accepts 19 = .ok (.ifCond .eq 20, 3) := by decide +kernel
theorem d_X_accepts_22 : decode b_X_accepts 22 = .ok (.aload_n 0, 1) := by decide +kernel
theorem d_X_accepts_23 : decode b_X_accepts 23 = .ok (.iload_n 3, 1) := by decide +kernel
theorem d_X_accepts_24 : decode b_X_accepts 24 = .ok (.invokevirtual 63, 3) := by decide +kernel
theorem d_X_accepts_27 : decode b_X_accepts 27 = .ok (.ifCond .eq 12, 3) := by decide +kernel
theorem d_X_accepts_30 : decode b_X_accepts 30 = .ok (.aload_n 0, 1) := by decide +kernel
theorem d_X_accepts_31 : decode b_X_accepts 31 = .ok (.iload 4, 2) := by decide +kernel
theorem d_X_accepts_33 : decode b_X_accepts 33 = .ok (.invokevirtual 63, 3) := by decide +kernel
theorem d_X_accepts_36 : decode b_X_accepts 36 = .ok (.ifCond .ne 5, 3) := by decide +kernel
theorem d_X_accepts_39 : decode b_X_accepts 39 = .ok (.iconst 0, 1) := by decide +kernel
theorem d_X_accepts_40 : decode b_X_accepts 40 = .ok (.ireturn, 1) := by decide +kernel
theorem d_X_accepts_41 : decode b_X_accepts 41 = .ok (.aload_n 0, 1) := by decide +kernel
theorem d_X_accepts_42 : decode b_X_accepts 42 = .ok (.getfield 16, 3) := by decide +kernel
theorem d_X_accepts_45 : decode b_X_accepts 45 = .ok (.iload 4, 2) := by decide +kernel
theorem d_X_accepts_47 : decode b_X_accepts 47 = .ok (.i2l, 1) := by decide +kernel
theorem d_X_accepts_48 : decode b_X_accepts 48 = .ok (.aload_n 0, 1) := by decide +kernel
theorem d_X_accepts_49 : decode b_X_accepts 49 = .ok (.getfield 7, 3) := by decide +kernel
theorem d_X_accepts_52 : decode b_X_accepts 52 = .ok (.invokestatic 45, 3) := by decide +kernel
theorem d_X_accepts_55 : decode b_X_accepts 55 = .ok (.iload_n 2, 1) := by decide +kernel
theorem d_X_accepts_56 : decode b_X_accepts 56 = .ok (.iload_n 1, 1) := by decide +kernel
theorem d_X_accepts_57 : decode b_X_accepts 57 = .ok (.iload_n 3, 1) := by decide +kernel
theorem d_X_accepts_58 : decode b_X_accepts 58 = .ok (.i2l, 1) := by decide +kernel
theorem d_X_accepts_59 : decode b_X_accepts 59 = .ok (.aload_n 0, 1) := by decide +kernel
theorem d_X_accepts_60 : decode b_X_accepts 60 = .ok (.getfield 7, 3) := by decide +kernel
theorem d_X_accepts_63 : decode b_X_accepts 63 = .ok (.invokestatic 45, 3) := by decide +kernel
theorem d_X_accepts_66 : decode b_X_accepts 66 = .ok (.aload_n 0, 1) := by decide +kernel
theorem d_X_accepts_67 : decode b_X_accepts 67 = .ok (.getfield 7, 3) := by decide +kernel
theorem d_X_accepts_70 : decode b_X_accepts 70 = .ok (.invokestatic 34, 3) := by decide +kernel
theorem d_X_accepts_73 : decode b_X_accepts 73 = .ok (.if_icmp .ne 7, 3) := by decide +kernel
theorem d_X_accepts_76 : decode b_X_accepts 76 = .ok (.iconst 1, 1) := by decide +kernel
theorem d_X_accepts_77 : decode b_X_accepts 77 = .ok (.goto 4, 3) := by decide +kernel
theorem d_X_accepts_80 : decode b_X_accepts 80 = .ok (.iconst 0, 1) := by decide +kernel
theorem d_X_accepts_81 : decode b_X_accepts 81 = .ok (.ireturn, 1) := by decide +kernel
theorem d_X_answer_0 : decode b_X_answer 0 = .ok (.aload_n 0, 1) := by decide +kernel
theorem d_X_answer_1 : decode b_X_answer 1 = .ok (.iload_n 1, 1) := by decide +kernel
theorem d_X_answer_2 : decode b_X_answer 2 = .ok (.invokevirtual 67, 3) := by decide +kernel
theorem d_X_answer_5 : decode b_X_answer 5 = .ok (.aload_n 0, 1) := by decide +kernel
theorem d_X_answer_6 : decode b_X_answer 6 = .ok (.iload_n 2, 1) := by decide +kernel
theorem d_X_answer_7 : decode b_X_answer 7 = .ok (.invokevirtual 67, 3) := by decide +kernel
theorem d_X_answer_10 : decode b_X_answer 10 = .ok (.aload_n 0, 1) := by decide +kernel
theorem d_X_answer_11 : decode b_X_answer 11 = .ok (.iload_n 3, 1) := by decide +kernel
theorem d_X_answer_12 : decode b_X_answer 12 = .ok (.invokevirtual 67, 3) := by decide +kernel
theorem d_X_answer_15 : decode b_X_answer 15 = .ok (.iload_n 2, 1) := by decide +kernel
theorem d_X_answer_16 : decode b_X_answer 16 = .ok (.iload_n 3, 1) := by decide +kernel
theorem d_X_answer_17 : decode b_X_answer 17 = .ok (.iload_n 1, 1) := by decide +kernel
theorem d_X_answer_18 : decode b_X_answer 18 = .ok (.aload_n 0, 1) := by decide +kernel
theorem d_X_answer_19 : decode b_X_answer 19 = .ok (.getfield 13, 3) := by decide +kernel
theorem d_X_answer_22 : decode b_X_answer 22 = .ok (.invokestatic 34, 3) := by decide +kernel
theorem d_X_answer_25 : decode b_X_answer 25 = .ok (.aload_n 0, 1) := by decide +kernel
theorem d_X_answer_26 : decode b_X_answer 26 = .ok (.getfield 13, 3) := by decide +kernel
theorem d_X_answer_29 : decode b_X_answer 29 = .ok (.invokestatic 70, 3) := by decide +kernel
theorem d_X_answer_32 : decode b_X_answer 32 = .ok (.ireturn, 1) := by decide +kernel
theorem d_X_feign_0 : decode b_X_feign 0 = .ok (.aload_n 0, 1) := by decide +kernel
theorem d_X_feign_1 : decode b_X_feign 1 = .ok (.iload_n 1, 1) := by decide +kernel
theorem d_X_feign_2 : decode b_X_feign 2 = .ok (.invokevirtual 55, 3) := by decide +kernel
theorem d_X_feign_5 : decode b_X_feign 5 = .ok (.aload_n 0, 1) := by decide +kernel
theorem d_X_feign_6 : decode b_X_feign 6 = .ok (.iload_n 2, 1) := by decide +kernel
theorem d_X_feign_7 : decode b_X_feign 7 = .ok (.invokevirtual 67, 3) := by decide +kernel
theorem d_X_feign_10 : decode b_X_feign 10 = .ok (.aload_n 0, 1) := by decide +kernel
theorem d_X_feign_11 : decode b_X_feign 11 = .ok (.iload_n 3, 1) := by decide +kernel
theorem d_X_feign_12 : decode b_X_feign 12 = .ok (.invokevirtual 67, 3) := by decide +kernel
theorem d_X_feign_15 : decode b_X_feign 15 = .ok (.aload_n 0, 1) := by decide +kernel
theorem d_X_feign_16 : decode b_X_feign 16 = .ok (.getfield 16, 3) := by decide +kernel
theorem d_X_feign_19 : decode b_X_feign 19 = .ok (.iload_n 3, 1) := by decide +kernel
theorem d_X_feign_20 : decode b_X_feign 20 = .ok (.i2l, 1) := by decide +kernel
theorem d_X_feign_21 : decode b_X_feign 21 = .ok (.aload_n 0, 1) := by decide +kernel
theorem d_X_feign_22 : decode b_X_feign 22 = .ok (.getfield 7, 3) := by decide +kernel
theorem d_X_feign_25 : decode b_X_feign 25 = .ok (.invokestatic 45, 3) := by decide +kernel
theorem d_X_feign_28 : decode b_X_feign 28 = .ok (.iload_n 1, 1) := by decide +kernel
theorem d_X_feign_29 : decode b_X_feign 29 = .ok (.aload_n 0, 1) := by decide +kernel
theorem d_X_feign_30 : decode b_X_feign 30 = .ok (.getfield 13, 3) := by decide +kernel
theorem d_X_feign_33 : decode b_X_feign 33 = .ok (.iload_n 2, 1) := by decide +kernel
theorem d_X_feign_34 : decode b_X_feign 34 = .ok (.isub, 1) := by decide +kernel
theorem d_X_feign_35 : decode b_X_feign 35 = .ok (.i2l, 1) := by decide +kernel
theorem d_X_feign_36 : decode b_X_feign 36 = .ok (.aload_n 0, 1) := by decide +kernel
theorem d_X_feign_37 : decode b_X_feign 37 = .ok (.getfield 7, 3) := by decide +kernel
theorem d_X_feign_40 : decode b_X_feign 40 = .ok (.invokestatic 45, 3) := by decide +kernel
theorem d_X_feign_43 : decode b_X_feign 43 = .ok (.aload_n 0, 1) := by decide +kernel
theorem d_X_feign_44 : decode b_X_feign 44 = .ok (.getfield 7, 3) := by decide +kernel
theorem d_X_feign_47 : decode b_X_feign 47 = .ok (.invokestatic 34, 3) := by decide +kernel
theorem d_X_feign_50 : decode b_X_feign 50 = .ok (.ireturn, 1) := by decide +kernel
theorem d_X_secret_0 : decode b_X_secret 0 = .ok (.aload_n 0, 1) := by decide +kernel
theorem d_X_secret_1 : decode b_X_secret 1 = .ok (.iload_n 1, 1) := by decide +kernel
theorem d_X_secret_2 : decode b_X_secret 2 = .ok (.invokevirtual 67, 3) := by decide +kernel
theorem d_X_secret_5 : decode b_X_secret 5 = .ok (.aload_n 0, 1) := by decide +kernel
theorem d_X_secret_6 : decode b_X_secret 6 = .ok (.iload_n 2, 1) := by decide +kernel
theorem d_X_secret_7 : decode b_X_secret 7 = .ok (.invokevirtual 67, 3) := by decide +kernel
theorem d_X_secret_10 : decode b_X_secret 10 = .ok (.aload_n 0, 1) := by decide +kernel
theorem d_X_secret_11 : decode b_X_secret 11 = .ok (.iload_n 3, 1) := by decide +kernel
theorem d_X_secret_12 : decode b_X_secret 12 = .ok (.invokevirtual 67, 3) := by decide +kernel
theorem d_X_secret_15 : decode b_X_secret 15 = .ok (.aload_n 0, 1) := by decide +kernel
theorem d_X_secret_16 : decode b_X_secret 16 = .ok (.iload 4, 2) := by decide +kernel
theorem d_X_secret_18 : decode b_X_secret 18 = .ok (.invokevirtual 67, 3) := by decide +kernel
theorem d_X_secret_21 : decode b_X_secret 21 = .ok (.iload_n 1, 1) := by decide +kernel
theorem d_X_secret_22 : decode b_X_secret 22 = .ok (.iload_n 3, 1) := by decide +kernel
theorem d_X_secret_23 : decode b_X_secret 23 = .ok (.if_icmp .ne 13, 3) := by decide +kernel
theorem d_X_secret_26 : decode b_X_secret 26 = .ok (.new 38, 3) := by decide +kernel
theorem d_X_secret_29 : decode b_X_secret 29 = .ok (.dup, 1) := by decide +kernel
theorem d_X_secret_30 : decode b_X_secret 30 = .ok (.ldc 73, 2) := by decide +kernel
theorem d_X_secret_32 : decode b_X_secret 32 = .ok (.invokespecial 42, 3) := by decide +kernel
theorem d_X_secret_35 : decode b_X_secret 35 = .ok (.athrow, 1) := by decide +kernel
theorem d_X_secret_36 : decode b_X_secret 36 = .ok (.iload_n 2, 1) := by decide +kernel
theorem d_X_secret_37 : decode b_X_secret 37 = .ok (.iload 4, 2) := by decide +kernel
theorem d_X_secret_39 : decode b_X_secret 39 = .ok (.aload_n 0, 1) := by decide +kernel
theorem d_X_secret_40 : decode b_X_secret 40 = .ok (.getfield 13, 3) := by decide +kernel
theorem d_X_secret_43 : decode b_X_secret 43 = .ok (.invokestatic 75, 3) := by decide +kernel
theorem d_X_secret_46 : decode b_X_secret 46 = .ok (.iload_n 1, 1) := by decide +kernel
theorem d_X_secret_47 : decode b_X_secret 47 = .ok (.iload_n 3, 1) := by decide +kernel
theorem d_X_secret_48 : decode b_X_secret 48 = .ok (.aload_n 0, 1) := by decide +kernel
theorem d_X_secret_49 : decode b_X_secret 49 = .ok (.getfield 13, 3) := by decide +kernel
theorem d_X_secret_52 : decode b_X_secret 52 = .ok (.invokestatic 75, 3) := by decide +kernel
theorem d_X_secret_55 : decode b_X_secret 55 = .ok (.aload_n 0, 1) := by decide +kernel
theorem d_X_secret_56 : decode b_X_secret 56 = .ok (.getfield 13, 3) := by decide +kernel
theorem d_X_secret_59 : decode b_X_secret 59 = .ok (.invokestatic 51, 3) := by decide +kernel
theorem d_X_secret_62 : decode b_X_secret 62 = .ok (.aload_n 0, 1) := by decide +kernel
theorem d_X_secret_63 : decode b_X_secret 63 = .ok (.getfield 13, 3) := by decide +kernel
theorem d_X_secret_66 : decode b_X_secret 66 = .ok (.invokestatic 34, 3) := by decide +kernel
theorem d_X_secret_69 : decode b_X_secret 69 = .ok (.ireturn, 1) := by decide +kernel
theorem d_X_count_0 : decode b_X_count 0 = .ok (.iload_n 1, 1) := by decide +kernel
theorem d_X_count_1 : decode b_X_count 1 = .ok (.tableswitch 42 0 2 #[27, 32, 37], 27) := by decide +kernel
theorem d_X_count_28 : decode b_X_count 28 = .ok (.aload_n 0, 1) := by decide +kernel
theorem d_X_count_29 : decode b_X_count 29 = .ok (.getfield 7, 3) := by decide +kernel
theorem d_X_count_32 : decode b_X_count 32 = .ok (.ireturn, 1) := by decide +kernel
theorem d_X_count_33 : decode b_X_count 33 = .ok (.aload_n 0, 1) := by decide +kernel
theorem d_X_count_34 : decode b_X_count 34 = .ok (.getfield 13, 3) := by decide +kernel
theorem d_X_count_37 : decode b_X_count 37 = .ok (.ireturn, 1) := by decide +kernel
theorem d_X_count_38 : decode b_X_count 38 = .ok (.aload_n 0, 1) := by decide +kernel
theorem d_X_count_39 : decode b_X_count 39 = .ok (.getfield 16, 3) := by decide +kernel
theorem d_X_count_42 : decode b_X_count 42 = .ok (.ireturn, 1) := by decide +kernel
theorem d_X_count_43 : decode b_X_count 43 = .ok (.new 38, 3) := by decide +kernel
theorem d_X_count_46 : decode b_X_count 46 = .ok (.dup, 1) := by decide +kernel
theorem d_X_count_47 : decode b_X_count 47 = .ok (.ldc 78, 2) := by decide +kernel
theorem d_X_count_49 : decode b_X_count 49 = .ok (.invokespecial 42, 3) := by decide +kernel
theorem d_X_count_52 : decode b_X_count 52 = .ok (.athrow, 1) := by decide +kernel
theorem d_X_requireResidue_0 : decode b_X_requireResidue 0 = .ok (.iload_n 1, 1) := by decide +kernel
theorem d_X_requireResidue_1 : decode b_X_requireResidue 1 = .ok (.ifCond .lt 11, 3) := by decide +kernel
theorem d_X_requireResidue_4 : decode b_X_requireResidue 4 = .ok (.iload_n 1, 1) := by decide +kernel
theorem d_X_requireResidue_5 : decode b_X_requireResidue 5 = .ok (.aload_n 0, 1) := by decide +kernel
theorem d_X_requireResidue_6 : decode b_X_requireResidue 6 = .ok (.getfield 7, 3) := by decide +kernel
theorem d_X_requireResidue_9 : decode b_X_requireResidue 9 = .ok (.if_icmp .lt 13, 3) := by decide +kernel
theorem d_X_requireResidue_12 : decode b_X_requireResidue 12 = .ok (.new 38, 3) := by decide +kernel
theorem d_X_requireResidue_15 : decode b_X_requireResidue 15 = .ok (.dup, 1) := by decide +kernel
theorem d_X_requireResidue_16 : decode b_X_requireResidue 16 = .ok (.ldc 80, 2) := by decide +kernel
theorem d_X_requireResidue_18 : decode b_X_requireResidue 18 = .ok (.invokespecial 42, 3) := by decide +kernel
theorem d_X_requireResidue_21 : decode b_X_requireResidue 21 = .ok (.athrow, 1) := by decide +kernel
theorem d_X_requireResidue_22 : decode b_X_requireResidue 22 = .ok (.return_, 1) := by decide +kernel
theorem d_X_requireMember_0 : decode b_X_requireMember 0 = .ok (.iload_n 1, 1) := by decide +kernel
theorem d_X_requireMember_1 : decode b_X_requireMember 1 = .ok (.aload_n 0, 1) := by decide +kernel
theorem d_X_requireMember_2 : decode b_X_requireMember 2 = .ok (.getfield 7, 3) := by decide +kernel
theorem d_X_requireMember_5 : decode b_X_requireMember 5 = .ok (.invokestatic 27, 3) := by decide +kernel
theorem d_X_requireMember_8 : decode b_X_requireMember 8 = .ok (.ifCond .ne 13, 3) := by decide +kernel
theorem d_X_requireMember_11 : decode b_X_requireMember 11 = .ok (.new 38, 3) := by decide +kernel
theorem d_X_requireMember_14 : decode b_X_requireMember 14 = .ok (.dup, 1) := by decide +kernel
theorem d_X_requireMember_15 : decode b_X_requireMember 15 = .ok (.ldc 82, 2) := by decide +kernel
theorem d_X_requireMember_17 : decode b_X_requireMember 17 = .ok (.invokespecial 42, 3) := by decide +kernel
theorem d_X_requireMember_20 : decode b_X_requireMember 20 = .ok (.athrow, 1) := by decide +kernel
theorem d_X_requireMember_21 : decode b_X_requireMember 21 = .ok (.return_, 1) := by decide +kernel
theorem d_X_requireExponent_0 : decode b_X_requireExponent 0 = .ok (.aload_n 0, 1) := by decide +kernel
theorem d_X_requireExponent_1 : decode b_X_requireExponent 1 = .ok (.iload_n 1, 1) := by decide +kernel
theorem d_X_requireExponent_2 : decode b_X_requireExponent 2 = .ok (.invokevirtual 63, 3) := by decide +kernel
theorem d_X_requireExponent_5 : decode b_X_requireExponent 5 = .ok (.ifCond .ne 13, 3) := by decide +kernel
theorem d_X_requireExponent_8 : decode b_X_requireExponent 8 = .ok (.new 38, 3) := by decide +kernel
theorem d_X_requireExponent_11 : decode b_X_requireExponent 11 = .ok (.dup, 1) := by decide +kernel
theorem d_X_requireExponent_12 : decode b_X_requireExponent 12 = .ok (.ldc 84, 2) := by decide +kernel
theorem d_X_requireExponent_14 : decode b_X_requireExponent 14 = .ok (.invokespecial 42, 3) := by decide +kernel
theorem d_X_requireExponent_17 : decode b_X_requireExponent 17 = .ok (.athrow, 1) := by decide +kernel
theorem d_X_requireExponent_18 : decode b_X_requireExponent 18 = .ok (.return_, 1) := by decide +kernel
theorem d_X_isExponent_0 : decode b_X_isExponent 0 = .ok (.iload_n 1, 1) := by decide +kernel
theorem d_X_isExponent_1 : decode b_X_isExponent 1 = .ok (.ifCond .lt 15, 3) := by decide +kernel
theorem d_X_isExponent_4 : decode b_X_isExponent 4 = .ok (.iload_n 1, 1) := by decide +kernel
theorem d_X_isExponent_5 : decode b_X_isExponent 5 = .ok (.aload_n 0, 1) := by decide +kernel
theorem d_X_isExponent_6 : decode b_X_isExponent 6 = .ok (.getfield 13, 3) := by decide +kernel
theorem d_X_isExponent_9 : decode b_X_isExponent 9 = .ok (.if_icmp .ge 7, 3) := by decide +kernel
theorem d_X_isExponent_12 : decode b_X_isExponent 12 = .ok (.iconst 1, 1) := by decide +kernel
theorem d_X_isExponent_13 : decode b_X_isExponent 13 = .ok (.goto 4, 3) := by decide +kernel
theorem d_X_isExponent_16 : decode b_X_isExponent 16 = .ok (.iconst 0, 1) := by decide +kernel
theorem d_X_isExponent_17 : decode b_X_isExponent 17 = .ok (.ireturn, 1) := by decide +kernel
theorem d_X_isGroup_0 : decode b_X_isGroup 0 = .ok (.iload_n 0, 1) := by decide +kernel
theorem d_X_isGroup_1 : decode b_X_isGroup 1 = .ok (.iconst 5, 1) := by decide +kernel
theorem d_X_isGroup_2 : decode b_X_isGroup 2 = .ok (.if_icmp .lt 37, 3) := by decide +kernel
theorem d_X_isGroup_5 : decode b_X_isGroup 5 = .ok (.iload_n 1, 1) := by decide +kernel
theorem d_X_isGroup_6 : decode b_X_isGroup 6 = .ok (.iconst 1, 1) := by decide +kernel
theorem d_X_isGroup_7 : decode b_X_isGroup 7 = .ok (.if_icmp .eq 32, 3) := by decide +kernel
theorem d_X_isGroup_10 : decode b_X_isGroup 10 = .ok (.iload_n 1, 1) := by decide +kernel
theorem d_X_isGroup_11 : decode b_X_isGroup 11 = .ok (.iload_n 0, 1) := by decide +kernel
theorem d_X_isGroup_12 : decode b_X_isGroup 12 = .ok (.invokestatic 27, 3) := by decide +kernel
theorem d_X_isGroup_15 : decode b_X_isGroup 15 = .ok (.ifCond .eq 24, 3) := by decide +kernel
theorem d_X_isGroup_18 : decode b_X_isGroup 18 = .ok (.iload_n 0, 1) := by decide +kernel
theorem d_X_isGroup_19 : decode b_X_isGroup 19 = .ok (.invokestatic 23, 3) := by decide +kernel
theorem d_X_isGroup_22 : decode b_X_isGroup 22 = .ok (.invokestatic 86, 3) := by decide +kernel
theorem d_X_isGroup_25 : decode b_X_isGroup 25 = .ok (.ifCond .eq 14, 3) := by decide +kernel
theorem d_X_isGroup_28 : decode b_X_isGroup 28 = .ok (.iload_n 0, 1) := by decide +kernel
theorem d_X_isGroup_29 : decode b_X_isGroup 29 = .ok (.invokestatic 86, 3) := by decide +kernel
theorem d_X_isGroup_32 : decode b_X_isGroup 32 = .ok (.ifCond .eq 7, 3) := by decide +kernel
theorem d_X_isGroup_35 : decode b_X_isGroup 35 = .ok (.iconst 1, 1) := by decide +kernel
theorem d_X_isGroup_36 : decode b_X_isGroup 36 = .ok (.goto 4, 3) := by decide +kernel
theorem d_X_isGroup_39 : decode b_X_isGroup 39 = .ok (.iconst 0, 1) := by decide +kernel
theorem d_X_isGroup_40 : decode b_X_isGroup 40 = .ok (.ireturn, 1) := by decide +kernel
theorem d_X_halfOf_0 : decode b_X_halfOf 0 = .ok (.iload_n 0, 1) := by decide +kernel
theorem d_X_halfOf_1 : decode b_X_halfOf 1 = .ok (.iconst 1, 1) := by decide +kernel
theorem d_X_halfOf_2 : decode b_X_halfOf 2 = .ok (.isub, 1) := by decide +kernel
theorem d_X_halfOf_3 : decode b_X_halfOf 3 = .ok (.iconst 2, 1) := by decide +kernel
theorem d_X_halfOf_4 : decode b_X_halfOf 4 = .ok (.idiv, 1) := by decide +kernel
theorem d_X_halfOf_5 : decode b_X_halfOf 5 = .ok (.ireturn, 1) := by decide +kernel
theorem d_X_isMember_0 : decode b_X_isMember 0 = .ok (.iload_n 0, 1) := by decide +kernel
theorem d_X_isMember_1 : decode b_X_isMember 1 = .ok (.iconst 1, 1) := by decide +kernel
theorem d_X_isMember_2 : decode b_X_isMember 2 = .ok (.if_icmp .lt 26, 3) := by decide +kernel
theorem d_X_isMember_5 : decode b_X_isMember 5 = .ok (.iload_n 0, 1) := by decide +kernel
theorem d_X_isMember_6 : decode b_X_isMember 6 = .ok (.iload_n 1, 1) := by decide +kernel
theorem d_X_isMember_7 : decode b_X_isMember 7 = .ok (.if_icmp .ge 21, 3) := by decide +kernel
theorem d_X_isMember_10 : decode b_X_isMember 10 = .ok (.iload_n 0, 1) := by decide +kernel
theorem d_X_isMember_11 : decode b_X_isMember 11 = .ok (.iload_n 1, 1) := by decide +kernel
theorem d_X_isMember_12 : decode b_X_isMember 12 = .ok (.invokestatic 23, 3) := by decide +kernel
theorem d_X_isMember_15 : decode b_X_isMember 15 = .ok (.i2l, 1) := by decide +kernel
theorem d_X_isMember_16 : decode b_X_isMember 16 = .ok (.iload_n 1, 1) := by decide +kernel
theorem d_X_isMember_17 : decode b_X_isMember 17 = .ok (.invokestatic 45, 3) := by decide +kernel
theorem d_X_isMember_20 : decode b_X_isMember 20 = .ok (.iconst 1, 1) := by decide +kernel
theorem d_X_isMember_21 : decode b_X_isMember 21 = .ok (.if_icmp .ne 7, 3) := by decide +kernel
theorem d_X_isMember_24 : decode b_X_isMember 24 = .ok (.iconst 1, 1) := by decide +kernel
theorem d_X_isMember_25 : decode b_X_isMember 25 = .ok (.goto 4, 3) := by decide +kernel
theorem d_X_isMember_28 : decode b_X_isMember 28 = .ok (.iconst 0, 1) := by decide +kernel
theorem d_X_isMember_29 : decode b_X_isMember 29 = .ok (.ireturn, 1) := by decide +kernel
theorem d_X_isPrime_0 : decode b_X_isPrime 0 = .ok (.iload_n 0, 1) := by decide +kernel
theorem d_X_isPrime_1 : decode b_X_isPrime 1 = .ok (.iconst 4, 1) := by decide +kernel
theorem d_X_isPrime_2 : decode b_X_isPrime 2 = .ok (.if_icmp .ge 14, 3) := by decide +kernel
theorem d_X_isPrime_5 : decode b_X_isPrime 5 = .ok (.iload_n 0, 1) := by decide +kernel
theorem d_X_isPrime_6 : decode b_X_isPrime 6 = .ok (.iconst 2, 1) := by decide +kernel
theorem d_X_isPrime_7 : decode b_X_isPrime 7 = .ok (.if_icmp .lt 7, 3) := by decide +kernel
theorem d_X_isPrime_10 : decode b_X_isPrime 10 = .ok (.iconst 1, 1) := by decide +kernel
theorem d_X_isPrime_11 : decode b_X_isPrime 11 = .ok (.goto 4, 3) := by decide +kernel
theorem d_X_isPrime_14 : decode b_X_isPrime 14 = .ok (.iconst 0, 1) := by decide +kernel
theorem d_X_isPrime_15 : decode b_X_isPrime 15 = .ok (.ireturn, 1) := by decide +kernel
theorem d_X_isPrime_16 : decode b_X_isPrime 16 = .ok (.iload_n 0, 1) := by decide +kernel
theorem d_X_isPrime_17 : decode b_X_isPrime 17 = .ok (.iconst 2, 1) := by decide +kernel
theorem d_X_isPrime_18 : decode b_X_isPrime 18 = .ok (.irem, 1) := by decide +kernel
theorem d_X_isPrime_19 : decode b_X_isPrime 19 = .ok (.ifCond .eq 9, 3) := by decide +kernel
theorem d_X_isPrime_22 : decode b_X_isPrime 22 = .ok (.iload_n 0, 1) := by decide +kernel
theorem d_X_isPrime_23 : decode b_X_isPrime 23 = .ok (.iconst 3, 1) := by decide +kernel
theorem d_X_isPrime_24 : decode b_X_isPrime 24 = .ok (.irem, 1) := by decide +kernel
theorem d_X_isPrime_25 : decode b_X_isPrime 25 = .ok (.ifCond .ne 5, 3) := by decide +kernel
theorem d_X_isPrime_28 : decode b_X_isPrime 28 = .ok (.iconst 0, 1) := by decide +kernel
theorem d_X_isPrime_29 : decode b_X_isPrime 29 = .ok (.ireturn, 1) := by decide +kernel
theorem d_X_isPrime_30 : decode b_X_isPrime 30 = .ok (.iconst 5, 1) := by decide +kernel
theorem d_X_isPrime_31 : decode b_X_isPrime 31 = .ok (.istore_n 1, 1) := by decide +kernel
theorem d_X_isPrime_32 : decode b_X_isPrime 32 = .ok (.iload_n 1, 1) := by decide +kernel
theorem d_X_isPrime_33 : decode b_X_isPrime 33 = .ok (.i2l, 1) := by decide +kernel
theorem d_X_isPrime_34 : decode b_X_isPrime 34 = .ok (.iload_n 1, 1) := by decide +kernel
theorem d_X_isPrime_35 : decode b_X_isPrime 35 = .ok (.i2l, 1) := by decide +kernel
theorem d_X_isPrime_36 : decode b_X_isPrime 36 = .ok (.lmul, 1) := by decide +kernel
theorem d_X_isPrime_37 : decode b_X_isPrime 37 = .ok (.iload_n 0, 1) := by decide +kernel
theorem d_X_isPrime_38 : decode b_X_isPrime 38 = .ok (.i2l, 1) := by decide +kernel
theorem d_X_isPrime_39 : decode b_X_isPrime 39 = .ok (.lcmp, 1) := by decide +kernel
theorem d_X_isPrime_40 : decode b_X_isPrime 40 = .ok (.ifCond .gt 25, 3) := by decide +kernel
theorem d_X_isPrime_43 : decode b_X_isPrime 43 = .ok (.iload_n 0, 1) := by decide +kernel
theorem d_X_isPrime_44 : decode b_X_isPrime 44 = .ok (.iload_n 1, 1) := by decide +kernel
theorem d_X_isPrime_45 : decode b_X_isPrime 45 = .ok (.irem, 1) := by decide +kernel
theorem d_X_isPrime_46 : decode b_X_isPrime 46 = .ok (.ifCond .eq 11, 3) := by decide +kernel
theorem d_X_isPrime_49 : decode b_X_isPrime 49 = .ok (.iload_n 0, 1) := by decide +kernel
theorem d_X_isPrime_50 : decode b_X_isPrime 50 = .ok (.iload_n 1, 1) := by decide +kernel
theorem d_X_isPrime_51 : decode b_X_isPrime 51 = .ok (.iconst 2, 1) := by decide +kernel
theorem d_X_isPrime_52 : decode b_X_isPrime 52 = .ok (.iadd, 1) := by decide +kernel
theorem d_X_isPrime_53 : decode b_X_isPrime 53 = .ok (.irem, 1) := by decide +kernel
theorem d_X_isPrime_54 : decode b_X_isPrime 54 = .ok (.ifCond .ne 5, 3) := by decide +kernel
theorem d_X_isPrime_57 : decode b_X_isPrime 57 = .ok (.iconst 0, 1) := by decide +kernel
theorem d_X_isPrime_58 : decode b_X_isPrime 58 = .ok (.ireturn, 1) := by decide +kernel
theorem d_X_isPrime_59 : decode b_X_isPrime 59 = .ok (.iinc 1 6, 3) := by decide +kernel
theorem d_X_isPrime_62 : decode b_X_isPrime 62 = .ok (.goto (-30), 3) := by decide +kernel
theorem d_X_isPrime_65 : decode b_X_isPrime 65 = .ok (.iconst 1, 1) := by decide +kernel
theorem d_X_isPrime_66 : decode b_X_isPrime 66 = .ok (.ireturn, 1) := by decide +kernel
theorem d_X_sum_0 : decode b_X_sum 0 = .ok (.iload_n 0, 1) := by decide +kernel
theorem d_X_sum_1 : decode b_X_sum 1 = .ok (.i2l, 1) := by decide +kernel
theorem d_X_sum_2 : decode b_X_sum 2 = .ok (.iload_n 1, 1) := by decide +kernel
theorem d_X_sum_3 : decode b_X_sum 3 = .ok (.i2l, 1) := by decide +kernel
theorem d_X_sum_4 : decode b_X_sum 4 = .ok (.ladd, 1) := by decide +kernel
theorem d_X_sum_5 : decode b_X_sum 5 = .ok (.iload_n 2, 1) := by decide +kernel
theorem d_X_sum_6 : decode b_X_sum 6 = .ok (.i2l, 1) := by decide +kernel
theorem d_X_sum_7 : decode b_X_sum 7 = .ok (.lrem, 1) := by decide +kernel
theorem d_X_sum_8 : decode b_X_sum 8 = .ok (.l2i, 1) := by decide +kernel
theorem d_X_sum_9 : decode b_X_sum 9 = .ok (.ireturn, 1) := by decide +kernel
theorem d_X_difference_0 : decode b_X_difference 0 = .ok (.iload_n 0, 1) := by decide +kernel
theorem d_X_difference_1 : decode b_X_difference 1 = .ok (.iload_n 1, 1) := by decide +kernel
theorem d_X_difference_2 : decode b_X_difference 2 = .ok (.if_icmp .lt 9, 3) := by decide +kernel
theorem d_X_difference_5 : decode b_X_difference 5 = .ok (.iload_n 0, 1) := by decide +kernel
theorem d_X_difference_6 : decode b_X_difference 6 = .ok (.iload_n 1, 1) := by decide +kernel
theorem d_X_difference_7 : decode b_X_difference 7 = .ok (.isub, 1) := by decide +kernel
theorem d_X_difference_8 : decode b_X_difference 8 = .ok (.goto 8, 3) := by decide +kernel
theorem d_X_difference_11 : decode b_X_difference 11 = .ok (.iload_n 0, 1) := by decide +kernel
theorem d_X_difference_12 : decode b_X_difference 12 = .ok (.iload_n 1, 1) := by decide +kernel
theorem d_X_difference_13 : decode b_X_difference 13 = .ok (.isub, 1) := by decide +kernel
theorem d_X_difference_14 : decode b_X_difference 14 = .ok (.iload_n 2, 1) := by decide +kernel
theorem d_X_difference_15 : decode b_X_difference 15 = .ok (.iadd, 1) := by decide +kernel
theorem d_X_difference_16 : decode b_X_difference 16 = .ok (.ireturn, 1) := by decide +kernel
theorem d_X_times_0 : decode b_X_times 0 = .ok (.iload_n 0, 1) := by decide +kernel
theorem d_X_times_1 : decode b_X_times 1 = .ok (.i2l, 1) := by decide +kernel
theorem d_X_times_2 : decode b_X_times 2 = .ok (.iload_n 1, 1) := by decide +kernel
theorem d_X_times_3 : decode b_X_times 3 = .ok (.i2l, 1) := by decide +kernel
theorem d_X_times_4 : decode b_X_times 4 = .ok (.lmul, 1) := by decide +kernel
theorem d_X_times_5 : decode b_X_times 5 = .ok (.iload_n 2, 1) := by decide +kernel
theorem d_X_times_6 : decode b_X_times 6 = .ok (.i2l, 1) := by decide +kernel
theorem d_X_times_7 : decode b_X_times 7 = .ok (.lrem, 1) := by decide +kernel
theorem d_X_times_8 : decode b_X_times 8 = .ok (.l2i, 1) := by decide +kernel
theorem d_X_times_9 : decode b_X_times 9 = .ok (.ireturn, 1) := by decide +kernel
theorem d_X_raised_0 : decode b_X_raised 0 = .ok (.iconst 1, 1) := by decide +kernel
theorem d_X_raised_1 : decode b_X_raised 1 = .ok (.istore 4, 2) := by decide +kernel
theorem d_X_raised_3 : decode b_X_raised 3 = .ok (.iload_n 0, 1) := by decide +kernel
theorem d_X_raised_4 : decode b_X_raised 4 = .ok (.istore 5, 2) := by decide +kernel
theorem d_X_raised_6 : decode b_X_raised 6 = .ok (.lload_n 1, 1) := by decide +kernel
theorem d_X_raised_7 : decode b_X_raised 7 = .ok (.lstore 6, 2) := by decide +kernel
theorem d_X_raised_9 : decode b_X_raised 9 = .ok (.lload 6, 2) := by decide +kernel
theorem d_X_raised_11 : decode b_X_raised 11 = .ok (.lconst 0, 1) := by decide +kernel
theorem d_X_raised_12 : decode b_X_raised 12 = .ok (.lcmp, 1) := by decide +kernel
theorem d_X_raised_13 : decode b_X_raised 13 = .ok (.ifCond .le 41, 3) := by decide +kernel
theorem d_X_raised_16 : decode b_X_raised 16 = .ok (.lload 6, 2) := by decide +kernel
theorem d_X_raised_18 : decode b_X_raised 18 = .ok (.lconst 1, 1) := by decide +kernel
theorem d_X_raised_19 : decode b_X_raised 19 = .ok (.land, 1) := by decide +kernel
theorem d_X_raised_20 : decode b_X_raised 20 = .ok (.lconst 1, 1) := by decide +kernel
theorem d_X_raised_21 : decode b_X_raised 21 = .ok (.lcmp, 1) := by decide +kernel
theorem d_X_raised_22 : decode b_X_raised 22 = .ok (.ifCond .ne 13, 3) := by decide +kernel
theorem d_X_raised_25 : decode b_X_raised 25 = .ok (.iload 4, 2) := by decide +kernel
theorem d_X_raised_27 : decode b_X_raised 27 = .ok (.iload 5, 2) := by decide +kernel
theorem d_X_raised_29 : decode b_X_raised 29 = .ok (.iload_n 3, 1) := by decide +kernel
theorem d_X_raised_30 : decode b_X_raised 30 = .ok (.invokestatic 34, 3) := by decide +kernel
theorem d_X_raised_33 : decode b_X_raised 33 = .ok (.istore 4, 2) := by decide +kernel
theorem d_X_raised_35 : decode b_X_raised 35 = .ok (.iload 5, 2) := by decide +kernel
theorem d_X_raised_37 : decode b_X_raised 37 = .ok (.iload 5, 2) := by decide +kernel
theorem d_X_raised_39 : decode b_X_raised 39 = .ok (.iload_n 3, 1) := by decide +kernel
theorem d_X_raised_40 : decode b_X_raised 40 = .ok (.invokestatic 34, 3) := by decide +kernel
theorem d_X_raised_43 : decode b_X_raised 43 = .ok (.istore 5, 2) := by decide +kernel
theorem d_X_raised_45 : decode b_X_raised 45 = .ok (.lload 6, 2) := by decide +kernel
theorem d_X_raised_47 : decode b_X_raised 47 = .ok (.iconst 1, 1) := by decide +kernel
theorem d_X_raised_48 : decode b_X_raised 48 = .ok (.lshr, 1) := by decide +kernel
theorem d_X_raised_49 : decode b_X_raised 49 = .ok (.lstore 6, 2) := by decide +kernel
theorem d_X_raised_51 : decode b_X_raised 51 = .ok (.goto (-42), 3) := by decide +kernel
theorem d_X_raised_54 : decode b_X_raised 54 = .ok (.iload 4, 2) := by decide +kernel
theorem d_X_raised_56 : decode b_X_raised 56 = .ok (.ireturn, 1) := by decide +kernel
theorem d_X_inverted_0 : decode b_X_inverted 0 = .ok (.iload_n 0, 1) := by decide +kernel
theorem d_X_inverted_1 : decode b_X_inverted 1 = .ok (.iload_n 1, 1) := by decide +kernel
theorem d_X_inverted_2 : decode b_X_inverted 2 = .ok (.iconst 2, 1) := by decide +kernel
theorem d_X_inverted_3 : decode b_X_inverted 3 = .ok (.isub, 1) := by decide +kernel
theorem d_X_inverted_4 : decode b_X_inverted 4 = .ok (.i2l, 1) := by decide +kernel
theorem d_X_inverted_5 : decode b_X_inverted 5 = .ok (.iload_n 1, 1) := by decide +kernel
theorem d_X_inverted_6 : decode b_X_inverted 6 = .ok (.invokestatic 45, 3) := by decide +kernel
theorem d_X_inverted_9 : decode b_X_inverted 9 = .ok (.ireturn, 1) := by decide +kernel
theorem d_M_init_0 : decode b_M_init 0 = .ok (.aload_n 0, 1) := by decide +kernel
theorem d_M_init_1 : decode b_M_init 1 = .ok (.invokespecial 1, 3) := by decide +kernel
theorem d_M_init_4 : decode b_M_init 4 = .ok (.aload_n 0, 1) := by decide +kernel
theorem d_M_init_5 : decode b_M_init 5 = .ok (.ldc2_w 7, 3) := by decide +kernel
theorem d_M_init_8 : decode b_M_init 8 = .ok (.putfield 9, 3) := by decide +kernel
theorem d_M_init_11 : decode b_M_init 11 = .ok (.aload_n 0, 1) := by decide +kernel
theorem d_M_init_12 : decode b_M_init 12 = .ok (.ldc2_w 15, 3) := by decide +kernel
theorem d_M_init_15 : decode b_M_init 15 = .ok (.putfield 17, 3) := by decide +kernel
theorem d_M_init_18 : decode b_M_init 18 = .ok (.aload_n 0, 1) := by decide +kernel
theorem d_M_init_19 : decode b_M_init 19 = .ok (.ldc2_w 20, 3) := by decide +kernel
theorem d_M_init_22 : decode b_M_init 22 = .ok (.putfield 22, 3) := by decide +kernel
theorem d_M_init_25 : decode b_M_init 25 = .ok (.return_, 1) := by decide +kernel
theorem d_M_thrown_0 : decode b_M_thrown 0 = .ok (.aload_n 0, 1) := by decide +kernel
theorem d_M_thrown_1 : decode b_M_thrown 1 = .ok (.getfield 25, 3) := by decide +kernel
theorem d_M_thrown_4 : decode b_M_thrown 4 = .ok (.ireturn, 1) := by decide +kernel
theorem d_M_in_0 : decode b_M_in 0 = .ok (.lload_n 0, 1) := by decide +kernel
theorem d_M_in_1 : decode b_M_in 1 = .ok (.lload_n 2, 1) := by decide +kernel
theorem d_M_in_2 : decode b_M_in 2 = .ok (.lcmp, 1) := by decide +kernel
theorem d_M_in_3 : decode b_M_in 3 = .ok (.ifCond .lt 14, 3) := by decide +kernel
theorem d_M_in_6 : decode b_M_in 6 = .ok (.lload_n 0, 1) := by decide +kernel
theorem d_M_in_7 : decode b_M_in 7 = .ok (.lload 4, 2) := by decide +kernel
theorem d_M_in_9 : decode b_M_in 9 = .ok (.lcmp, 1) := by decide +kernel
theorem d_M_in_10 : decode b_M_in 10 = .ok (.ifCond .gt 7, 3) := by decide +kernel
theorem d_M_in_13 : decode b_M_in 13 = .ok (.iconst 1, 1) := by decide +kernel
theorem d_M_in_14 : decode b_M_in 14 = .ok (.goto 4, 3) := by decide +kernel
theorem d_M_in_17 : decode b_M_in 17 = .ok (.iconst 0, 1) := by decide +kernel
theorem d_M_in_18 : decode b_M_in 18 = .ok (.ireturn, 1) := by decide +kernel
theorem d_M_fails_0 : decode b_M_fails 0 = .ok (.iload_n 1, 1) := by decide +kernel
theorem d_M_fails_1 : decode b_M_fails 1 = .ok (.ifCond .eq 15, 3) := by decide +kernel
theorem d_M_fails_4 : decode b_M_fails 4 = .ok (.aload_n 0, 1) := by decide +kernel
theorem d_M_fails_5 : decode b_M_fails 5 = .ok (.getfield 25, 3) := by decide +kernel
theorem d_M_fails_8 : decode b_M_fails 8 = .ok (.ifCond .ne 8, 3) := by decide +kernel
theorem d_M_fails_11 : decode b_M_fails 11 = .ok (.aload_n 0, 1) := by decide +kernel
theorem d_M_fails_12 : decode b_M_fails 12 = .ok (.iload_n 2, 1) := by decide +kernel
theorem d_M_fails_13 : decode b_M_fails 13 = .ok (.putfield 25, 3) := by decide +kernel
theorem d_M_fails_16 : decode b_M_fails 16 = .ok (.aload_n 0, 1) := by decide +kernel
theorem d_M_fails_17 : decode b_M_fails 17 = .ok (.getfield 25, 3) := by decide +kernel
theorem d_M_fails_20 : decode b_M_fails 20 = .ok (.ifCond .eq 7, 3) := by decide +kernel
theorem d_M_fails_23 : decode b_M_fails 23 = .ok (.iconst 1, 1) := by decide +kernel
theorem d_M_fails_24 : decode b_M_fails 24 = .ok (.goto 4, 3) := by decide +kernel
theorem d_M_fails_27 : decode b_M_fails 27 = .ok (.iconst 0, 1) := by decide +kernel
theorem d_M_fails_28 : decode b_M_fails 28 = .ok (.ireturn, 1) := by decide +kernel
theorem d_M_isPrime_0 : decode b_M_isPrime 0 = .ok (.lload_n 0, 1) := by decide +kernel
theorem d_M_isPrime_1 : decode b_M_isPrime 1 = .ok (.ldc2_w 20, 3) := by decide +kernel
theorem d_M_isPrime_4 : decode b_M_isPrime 4 = .ok (.lcmp, 1) := by decide +kernel
theorem d_M_isPrime_5 : decode b_M_isPrime 5 = .ok (.ifCond .ge 5, 3) := by decide +kernel
theorem d_M_isPrime_8 : decode b_M_isPrime 8 = .ok (.iconst 0, 1) := by decide +kernel
theorem d_M_isPrime_9 : decode b_M_isPrime 9 = .ok (.ireturn, 1) := by decide +kernel
theorem d_M_isPrime_10 : decode b_M_isPrime 10 = .ok (.ldc2_w 20, 3) := by decide +kernel
theorem d_M_isPrime_13 : decode b_M_isPrime 13 = .ok (.lstore_n 2, 1) := by decide +kernel
theorem d_M_isPrime_14 : decode b_M_isPrime 14 = .ok (.lload_n 2, 1) := by decide +kernel
theorem d_M_isPrime_15 : decode b_M_isPrime 15 = .ok (.lload_n 2, 1) := by decide +kernel
theorem d_M_isPrime_16 : decode b_M_isPrime 16 = .ok (.lmul, 1) := by decide +kernel
theorem d_M_isPrime_17 : decode b_M_isPrime 17 = .ok (.lload_n 0, 1) := by decide +kernel
theorem d_M_isPrime_18 : decode b_M_isPrime 18 = .ok (.lcmp, 1) := by decide +kernel
theorem d_M_isPrime_19 : decode b_M_isPrime 19 = .ok (.ifCond .gt 20, 3) := by decide +kernel
theorem d_M_isPrime_22 : decode b_M_isPrime 22 = .ok (.lload_n 0, 1) := by decide +kernel
theorem d_M_isPrime_23 : decode b_M_isPrime 23 = .ok (.lload_n 2, 1) := by decide +kernel
theorem d_M_isPrime_24 : decode b_M_isPrime 24 = .ok (.lrem, 1) := by decide +kernel
theorem d_M_isPrime_25 : decode b_M_isPrime 25 = .ok (.lconst 0, 1) := by decide +kernel
theorem d_M_isPrime_26 : decode b_M_isPrime 26 = .ok (.lcmp, 1) := by decide +kernel
theorem d_M_isPrime_27 : decode b_M_isPrime 27 = .ok (.ifCond .ne 5, 3) := by decide +kernel
theorem d_M_isPrime_30 : decode b_M_isPrime 30 = .ok (.iconst 0, 1) := by decide +kernel
theorem d_M_isPrime_31 : decode b_M_isPrime 31 = .ok (.ireturn, 1) := by decide +kernel
theorem d_M_isPrime_32 : decode b_M_isPrime 32 = .ok (.lload_n 2, 1) := by decide +kernel
theorem d_M_isPrime_33 : decode b_M_isPrime 33 = .ok (.lconst 1, 1) := by decide +kernel
theorem d_M_isPrime_34 : decode b_M_isPrime 34 = .ok (.ladd, 1) := by decide +kernel
theorem d_M_isPrime_35 : decode b_M_isPrime 35 = .ok (.lstore_n 2, 1) := by decide +kernel
theorem d_M_isPrime_36 : decode b_M_isPrime 36 = .ok (.goto (-22), 3) := by decide +kernel
theorem d_M_isPrime_39 : decode b_M_isPrime 39 = .ok (.iconst 1, 1) := by decide +kernel
theorem d_M_isPrime_40 : decode b_M_isPrime 40 = .ok (.ireturn, 1) := by decide +kernel
theorem d_M_power_JJJ_0 : decode b_M_power_JJJ 0 = .ok (.lconst 1, 1) := by decide +kernel
theorem d_M_power_JJJ_1 : decode b_M_power_JJJ 1 = .ok (.lstore 6, 2) := by decide +kernel
theorem d_M_power_JJJ_3 : decode b_M_power_JJJ 3 = .ok (.bipush 62, 2) := by decide +kernel
theorem d_M_power_JJJ_5 : decode b_M_power_JJJ 5 = .ok (.istore 8, 2) := by decide +kernel
theorem d_M_power_JJJ_7 : decode b_M_power_JJJ 7 = .ok (.iload 8, 2) := by decide +kernel
theorem d_M_power_JJJ_9 : decode b_M_power_JJJ 9 = .ok (.ifCond .lt 39, 3) := by decide +kernel
theorem d_M_power_JJJ_12 : decode b_M_power_JJJ 12 = .ok (.lload 6, 2) := by decide +kernel
theorem d_M_power_JJJ_14 : decode b_M_power_JJJ 14 = .ok (.lload 6, 2) := by decide +kernel
theorem d_M_power_JJJ_16 : decode b_M_power_JJJ 16 = .ok (.lmul, 1) := by decide +kernel
theorem d_M_power_JJJ_17 : decode b_M_power_JJJ 17 = .ok (.lload 4, 2) := by decide +kernel
theorem d_M_power_JJJ_19 : decode b_M_power_JJJ 19 = .ok (.lrem, 1) := by decide +kernel
theorem d_M_power_JJJ_20 : decode b_M_power_JJJ 20 = .ok (.lstore 6, 2) := by decide +kernel
theorem d_M_power_JJJ_22 : decode b_M_power_JJJ 22 = .ok (.lload_n 2, 1) := by decide +kernel
theorem d_M_power_JJJ_23 : decode b_M_power_JJJ 23 = .ok (.iload 8, 2) := by decide +kernel
theorem d_M_power_JJJ_25 : decode b_M_power_JJJ 25 = .ok (.lshr, 1) := by decide +kernel
theorem d_M_power_JJJ_26 : decode b_M_power_JJJ 26 = .ok (.lconst 1, 1) := by decide +kernel
theorem d_M_power_JJJ_27 : decode b_M_power_JJJ 27 = .ok (.land, 1) := by decide +kernel
theorem d_M_power_JJJ_28 : decode b_M_power_JJJ 28 = .ok (.lconst 1, 1) := by decide +kernel
theorem d_M_power_JJJ_29 : decode b_M_power_JJJ 29 = .ok (.lcmp, 1) := by decide +kernel
theorem d_M_power_JJJ_30 : decode b_M_power_JJJ 30 = .ok (.ifCond .ne 12, 3) := by decide +kernel
theorem d_M_power_JJJ_33 : decode b_M_power_JJJ 33 = .ok (.lload 6, 2) := by decide +kernel
theorem d_M_power_JJJ_35 : decode b_M_power_JJJ 35 = .ok (.lload_n 0, 1) := by decide +kernel
theorem d_M_power_JJJ_36 : decode b_M_power_JJJ 36 = .ok (.lmul, 1) := by decide +kernel
theorem d_M_power_JJJ_37 : decode b_M_power_JJJ 37 = .ok (.lload 4, 2) := by decide +kernel
theorem d_M_power_JJJ_39 : decode b_M_power_JJJ 39 = .ok (.lrem, 1) := by decide +kernel
theorem d_M_power_JJJ_40 : decode b_M_power_JJJ 40 = .ok (.lstore 6, 2) := by decide +kernel
theorem d_M_power_JJJ_42 : decode b_M_power_JJJ 42 = .ok (.iinc 8 (-1), 3) := by decide +kernel
theorem d_M_power_JJJ_45 : decode b_M_power_JJJ 45 = .ok (.goto (-38), 3) := by decide +kernel
theorem d_M_power_JJJ_48 : decode b_M_power_JJJ 48 = .ok (.lload 6, 2) := by decide +kernel
theorem d_M_power_JJJ_50 : decode b_M_power_JJJ 50 = .ok (.lreturn, 1) := by decide +kernel
theorem d_M_isMember_0 : decode b_M_isMember 0 = .ok (.lload_n 0, 1) := by decide +kernel
theorem d_M_isMember_1 : decode b_M_isMember 1 = .ok (.lconst 1, 1) := by decide +kernel
theorem d_M_isMember_2 : decode b_M_isMember 2 = .ok (.lload_n 2, 1) := by decide +kernel
theorem d_M_isMember_3 : decode b_M_isMember 3 = .ok (.lconst 1, 1) := by decide +kernel
theorem d_M_isMember_4 : decode b_M_isMember 4 = .ok (.lsub, 1) := by decide +kernel
theorem d_M_isMember_5 : decode b_M_isMember 5 = .ok (.invokestatic 29, 3) := by decide +kernel
theorem d_M_isMember_8 : decode b_M_isMember 8 = .ok (.ifCond .eq 19, 3) := by decide +kernel
theorem d_M_isMember_11 : decode b_M_isMember 11 = .ok (.lload_n 0, 1) := by decide +kernel
theorem d_M_isMember_12 : decode b_M_isMember 12 = .ok (.lload 4, 2) := by decide +kernel
theorem d_M_isMember_14 : decode b_M_isMember 14 = .ok (.lload_n 2, 1) := by decide +kernel
theorem d_M_isMember_15 : decode b_M_isMember 15 = .ok (.invokestatic 33, 3) := by decide +kernel
theorem d_M_isMember_18 : decode b_M_isMember 18 = .ok (.lconst 1, 1) := by decide +kernel
theorem d_M_isMember_19 : decode b_M_isMember 19 = .ok (.lcmp, 1) := by decide +kernel
theorem d_M_isMember_20 : decode b_M_isMember 20 = .ok (.ifCond .ne 7, 3) := by decide +kernel
theorem d_M_isMember_23 : decode b_M_isMember 23 = .ok (.iconst 1, 1) := by decide +kernel
theorem d_M_isMember_24 : decode b_M_isMember 24 = .ok (.goto 4, 3) := by decide +kernel
theorem d_M_isMember_27 : decode b_M_isMember 27 = .ok (.iconst 0, 1) := by decide +kernel
theorem d_M_isMember_28 : decode b_M_isMember 28 = .ok (.ireturn, 1) := by decide +kernel
theorem d_M_isExponent_0 : decode b_M_isExponent 0 = .ok (.lload_n 1, 1) := by decide +kernel
theorem d_M_isExponent_1 : decode b_M_isExponent 1 = .ok (.lconst 0, 1) := by decide +kernel
theorem d_M_isExponent_2 : decode b_M_isExponent 2 = .ok (.aload_n 0, 1) := by decide +kernel
theorem d_M_isExponent_3 : decode b_M_isExponent 3 = .ok (.getfield 17, 3) := by decide +kernel
theorem d_M_isExponent_6 : decode b_M_isExponent 6 = .ok (.lconst 1, 1) := by decide +kernel
theorem d_M_isExponent_7 : decode b_M_isExponent 7 = .ok (.lsub, 1) := by decide +kernel
theorem d_M_isExponent_8 : decode b_M_isExponent 8 = .ok (.invokestatic 29, 3) := by decide +kernel
theorem d_M_isExponent_11 : decode b_M_isExponent 11 = .ok (.ireturn, 1) := by decide +kernel
theorem d_M_inverse_JJ_0 : decode b_M_inverse_JJ 0 = .ok (.lload_n 2, 1) := by decide +kernel
theorem d_M_inverse_JJ_1 : decode b_M_inverse_JJ 1 = .ok (.lstore 4, 2) := by decide +kernel
theorem d_M_inverse_JJ_3 : decode b_M_inverse_JJ 3 = .ok (.lload_n 0, 1) := by decide +kernel
theorem d_M_inverse_JJ_4 : decode b_M_inverse_JJ 4 = .ok (.lstore 6, 2) := by decide +kernel
theorem d_M_inverse_JJ_6 : decode b_M_inverse_JJ 6 = .ok (.lconst 0, 1) := by decide +kernel
theorem d_M_inverse_JJ_7 : decode b_M_inverse_JJ 7 = .ok (.lstore 8, 2) := by decide +kernel
theorem d_M_inverse_JJ_9 : decode b_M_inverse_JJ 9 = .ok (.lconst 1, 1) := by decide +kernel
theorem d_M_inverse_JJ_10 : decode b_M_inverse_JJ 10 = .ok (.lstore 10, 2) := by decide +kernel
theorem d_M_inverse_JJ_12 : decode b_M_inverse_JJ 12 = .ok (.lload 6, 2) := by decide +kernel
theorem d_M_inverse_JJ_14 : decode b_M_inverse_JJ 14 = .ok (.lconst 0, 1) := by decide +kernel
theorem d_M_inverse_JJ_15 : decode b_M_inverse_JJ 15 = .ok (.lcmp, 1) := by decide +kernel
theorem d_M_inverse_JJ_16 : decode b_M_inverse_JJ 16 = .ok (.ifCond .eq 49, 3) := by decide +kernel
theorem d_M_inverse_JJ_19 : decode b_M_inverse_JJ 19 = .ok (.lload 4, 2) := by decide +kernel
theorem d_M_inverse_JJ_21 : decode b_M_inverse_JJ 21 = .ok (.lload 6, 2) := by decide +kernel
theorem d_M_inverse_JJ_23 : decode b_M_inverse_JJ 23 = .ok (.ldiv, 1) := by decide +kernel
theorem d_M_inverse_JJ_24 : decode b_M_inverse_JJ 24 = .ok (.lstore 12, 2) := by decide +kernel
theorem d_M_inverse_JJ_26 : decode b_M_inverse_JJ 26 = .ok (.lload 4, 2) := by decide +kernel
theorem d_M_inverse_JJ_28 : decode b_M_inverse_JJ 28 = .ok (.lload 12, 2) := by decide +kernel
theorem d_M_inverse_JJ_30 : decode b_M_inverse_JJ 30 = .ok (.lload 6, 2) := by decide +kernel
theorem d_M_inverse_JJ_32 : decode b_M_inverse_JJ 32 = .ok (.lmul, 1) := by decide +kernel
theorem d_M_inverse_JJ_33 : decode b_M_inverse_JJ 33 = .ok (.lsub, 1) := by decide +kernel
theorem d_M_inverse_JJ_34 : decode b_M_inverse_JJ 34 = .ok (.lstore 14, 2) := by decide +kernel
theorem d_M_inverse_JJ_36 : decode b_M_inverse_JJ 36 = .ok (.lload 6, 2) := by decide +kernel
theorem d_M_inverse_JJ_38 : decode b_M_inverse_JJ 38 = .ok (.lstore 4, 2) := by decide +kernel
theorem d_M_inverse_JJ_40 : decode b_M_inverse_JJ 40 = .ok (.lload 14, 2) := by decide +kernel
theorem d_M_inverse_JJ_42 : decode b_M_inverse_JJ 42 = .ok (.lstore 6, 2) := by decide +kernel
theorem d_M_inverse_JJ_44 : decode b_M_inverse_JJ 44 = .ok (.lload 8, 2) := by decide +kernel
theorem d_M_inverse_JJ_46 : decode b_M_inverse_JJ 46 = .ok (.lload 12, 2) := by decide +kernel
theorem d_M_inverse_JJ_48 : decode b_M_inverse_JJ 48 = .ok (.lload 10, 2) := by decide +kernel
theorem d_M_inverse_JJ_50 : decode b_M_inverse_JJ 50 = .ok (.lmul, 1) := by decide +kernel
theorem d_M_inverse_JJ_51 : decode b_M_inverse_JJ 51 = .ok (.lsub, 1) := by decide +kernel
theorem d_M_inverse_JJ_52 : decode b_M_inverse_JJ 52 = .ok (.lstore 14, 2) := by decide +kernel
theorem d_M_inverse_JJ_54 : decode b_M_inverse_JJ 54 = .ok (.lload 10, 2) := by decide +kernel
theorem d_M_inverse_JJ_56 : decode b_M_inverse_JJ 56 = .ok (.lstore 8, 2) := by decide +kernel
theorem d_M_inverse_JJ_58 : decode b_M_inverse_JJ 58 = .ok (.lload 14, 2) := by decide +kernel
theorem d_M_inverse_JJ_60 : decode b_M_inverse_JJ 60 = .ok (.lstore 10, 2) := by decide +kernel
theorem d_M_inverse_JJ_62 : decode b_M_inverse_JJ 62 = .ok (.goto (-50), 3) := by decide +kernel
theorem d_M_inverse_JJ_65 : decode b_M_inverse_JJ 65 = .ok (.lload 8, 2) := by decide +kernel
theorem d_M_inverse_JJ_67 : decode b_M_inverse_JJ 67 = .ok (.lload_n 2, 1) := by decide +kernel
theorem d_M_inverse_JJ_68 : decode b_M_inverse_JJ 68 = .ok (.lrem, 1) := by decide +kernel
theorem d_M_inverse_JJ_69 : decode b_M_inverse_JJ 69 = .ok (.lload_n 2, 1) := by decide +kernel
theorem d_M_inverse_JJ_70 : decode b_M_inverse_JJ 70 = .ok (.ladd, 1) := by decide +kernel
theorem d_M_inverse_JJ_71 : decode b_M_inverse_JJ 71 = .ok (.lload_n 2, 1) := by decide +kernel
theorem d_M_inverse_JJ_72 : decode b_M_inverse_JJ 72 = .ok (.lrem, 1) := by decide +kernel
theorem d_M_inverse_JJ_73 : decode b_M_inverse_JJ 73 = .ok (.lreturn, 1) := by decide +kernel
theorem d_M_begin_0 : decode b_M_begin 0 = .ok (.aload_n 0, 1) := by decide +kernel
theorem d_M_begin_1 : decode b_M_begin 1 = .ok (.iconst 0, 1) := by decide +kernel
theorem d_M_begin_2 : decode b_M_begin 2 = .ok (.putfield 25, 3) := by decide +kernel
theorem d_M_begin_5 : decode b_M_begin 5 = .ok (.iload_n 1, 1) := by decide +kernel
theorem d_M_begin_6 : decode b_M_begin 6 = .ok (.iconst 5, 1) := by decide +kernel
theorem d_M_begin_7 : decode b_M_begin 7 = .ok (.if_icmp .lt 44, 3) := by decide +kernel
theorem d_M_begin_10 : decode b_M_begin 10 = .ok (.iload_n 1, 1) := by decide +kernel
theorem d_M_begin_11 : decode b_M_begin 11 = .ok (.i2l, 1) := by decide +kernel
theorem d_M_begin_12 : decode b_M_begin 12 = .ok (.invokestatic 37, 3) := by decide +kernel
theorem d_M_begin_15 : decode b_M_begin 15 = .ok (.ifCond .eq 36, 3) := by decide +kernel
theorem d_M_begin_18 : decode b_M_begin 18 = .ok (.iload_n 1, 1) := by decide +kernel
theorem d_M_begin_19 : decode b_M_begin 19 = .ok (.iconst 1, 1) := by decide +kernel
theorem d_M_begin_20 : decode b_M_begin 20 = .ok (.isub, 1) := by decide +kernel
theorem d_M_begin_21 : decode b_M_begin 21 = .ok (.iconst 2, 1) := by decide +kernel
theorem d_M_begin_22 : decode b_M_begin 22 = .ok (.idiv, 1) := by decide +kernel
theorem d_M_begin_23 : decode b_M_begin 23 = .ok (.i2l, 1) := by decide +kernel
theorem d_M_begin_24 : decode b_M_begin 24 = .ok (.invokestatic 37, 3) := by decide +kernel
theorem d_M_begin_27 : decode b_M_begin 27 = .ok (.ifCond .eq 24, 3) := by decide +kernel
theorem d_M_begin_30 : decode b_M_begin 30 = .ok (.iload_n 2, 1) := by decide +kernel
theorem d_M_begin_31 : decode b_M_begin 31 = .ok (.iconst 1, 1) := by decide +kernel
theorem d_M_begin_32 : decode b_M_begin 32 = .ok (.if_icmp .eq 19, 3) := by decide +kernel
theorem d_M_begin_35 : decode b_M_begin 35 = .ok (.iload_n 2, 1) := by decide +kernel
theorem d_M_begin_36 : decode b_M_begin 36 = .ok (.i2l, 1) := by decide +kernel
theorem d_M_begin_37 : decode b_M_begin 37 = .ok (.iload_n 1, 1) := by decide +kernel
theorem d_M_begin_38 : decode b_M_begin 38 = .ok (.i2l, 1) := by decide +kernel
theorem d_M_begin_39 : decode b_M_begin 39 = .ok (.iload_n 1, 1) := by decide +kernel
theorem d_M_begin_40 : decode b_M_begin 40 = .ok (.iconst 1, 1) := by decide +kernel
theorem d_M_begin_41 : decode b_M_begin 41 = .ok (.isub, 1) := by decide +kernel
theorem d_M_begin_42 : decode b_M_begin 42 = .ok (.iconst 2, 1) := by decide +kernel
theorem d_M_begin_43 : decode b_M_begin 43 = .ok (.idiv, 1) := by decide +kernel
theorem d_M_begin_44 : decode b_M_begin 44 = .ok (.i2l, 1) := by decide +kernel
theorem d_M_begin_45 : decode b_M_begin 45 = .ok (.invokestatic 41, 3) := by decide +kernel
theorem d_M_begin_48 : decode b_M_begin 48 = .ok (.ifCond .ne 5, 3) := by decide +kernel
theorem d_M_begin_51 : decode b_M_begin 51 = .ok (.iconst 0, 1) := by decide +kernel
theorem d_M_begin_52 : decode b_M_begin 52 = .ok (.ireturn, 1) := by decide +kernel
theorem d_M_begin_53 : decode b_M_begin 53 = .ok (.aload_n 0, 1) := by decide +kernel
theorem d_M_begin_54 : decode b_M_begin 54 = .ok (.iload_n 1, 1) := by decide +kernel
theorem d_M_begin_55 : decode b_M_begin 55 = .ok (.i2l, 1) := by decide +kernel
theorem d_M_begin_56 : decode b_M_begin 56 = .ok (.putfield 9, 3) := by decide +kernel
theorem d_M_begin_59 : decode b_M_begin 59 = .ok (.aload_n 0, 1) := by decide +kernel
theorem d_M_begin_60 : decode b_M_begin 60 = .ok (.iload_n 1, 1) := by decide +kernel
theorem d_M_begin_61 : decode b_M_begin 61 = .ok (.iconst 1, 1) := by decide +kernel
theorem d_M_begin_62 : decode b_M_begin 62 = .ok (.isub, 1) := by decide +kernel
theorem d_M_begin_63 : decode b_M_begin 63 = .ok (.iconst 2, 1) := by decide +kernel
theorem d_M_begin_64 : decode b_M_begin 64 = .ok (.idiv, 1) := by decide +kernel
theorem d_M_begin_65 : decode b_M_begin 65 = .ok (.i2l, 1) := by decide +kernel
theorem d_M_begin_66 : decode b_M_begin 66 = .ok (.putfield 17, 3) := by decide +kernel
theorem d_M_begin_69 : decode b_M_begin 69 = .ok (.aload_n 0, 1) := by decide +kernel
theorem d_M_begin_70 : decode b_M_begin 70 = .ok (.iload_n 2, 1) := by decide +kernel
theorem d_M_begin_71 : decode b_M_begin 71 = .ok (.i2l, 1) := by decide +kernel
theorem d_M_begin_72 : decode b_M_begin 72 = .ok (.putfield 22, 3) := by decide +kernel
theorem d_M_begin_75 : decode b_M_begin 75 = .ok (.iconst 1, 1) := by decide +kernel
theorem d_M_begin_76 : decode b_M_begin 76 = .ok (.ireturn, 1) := by decide +kernel
theorem d_M_member_0 : decode b_M_member 0 = .ok (.aload_n 0, 1) := by decide +kernel
theorem d_M_member_1 : decode b_M_member 1 = .ok (.iconst 0, 1) := by decide +kernel
theorem d_M_member_2 : decode b_M_member 2 = .ok (.putfield 25, 3) := by decide +kernel
theorem d_M_member_5 : decode b_M_member 5 = .ok (.iload_n 1, 1) := by decide +kernel
theorem d_M_member_6 : decode b_M_member 6 = .ok (.i2l, 1) := by decide +kernel
theorem d_M_member_7 : decode b_M_member 7 = .ok (.aload_n 0, 1) := by decide +kernel
theorem d_M_member_8 : decode b_M_member 8 = .ok (.getfield 9, 3) := by decide +kernel
theorem d_M_member_11 : decode b_M_member 11 = .ok (.aload_n 0, 1) := by decide +kernel
theorem d_M_member_12 : decode b_M_member 12 = .ok (.getfield 17, 3) := by decide +kernel
theorem d_M_member_15 : decode b_M_member 15 = .ok (.invokestatic 41, 3) := by decide +kernel
theorem d_M_member_18 : decode b_M_member 18 = .ok (.ireturn, 1) := by decide +kernel
theorem d_M_product_0 : decode b_M_product 0 = .ok (.aload_n 0, 1) := by decide +kernel
theorem d_M_product_1 : decode b_M_product 1 = .ok (.iconst 0, 1) := by decide +kernel
theorem d_M_product_2 : decode b_M_product 2 = .ok (.putfield 25, 3) := by decide +kernel
theorem d_M_product_5 : decode b_M_product 5 = .ok (.aload_n 0, 1) := by decide +kernel
theorem d_M_product_6 : decode b_M_product 6 = .ok (.iload_n 1, 1) := by decide +kernel
theorem d_M_product_7 : decode b_M_product 7 = .ok (.i2l, 1) := by decide +kernel
theorem d_M_product_8 : decode b_M_product 8 = .ok (.lconst 0, 1) := by decide +kernel
theorem d_M_product_9 : decode b_M_product 9 = .ok (.aload_n 0, 1) := by decide +kernel
theorem d_M_product_10 : decode b_M_product 10 = .ok (.getfield 9, 3) := by decide +kernel
theorem d_M_product_13 : decode b_M_product 13 = .ok (.lconst 1, 1) := by decide +kernel
theorem d_M_product_14 : decode b_M_product 14 = .ok (.lsub, 1) := by decide +kernel
theorem d_M_product_15 : decode b_M_product 15 = .ok (.invokestatic 29, 3) := by decide +kernel
theorem d_M_product_18 : decode b_M_product 18 = .ok (.ifCond .eq 18, 3) := by decide +kernel
theorem d_M_product_21 : decode b_M_product 21 = .ok (.iload_n 2, 1) := by decide +kernel
theorem d_M_product_22 : decode b_M_product 22 = .ok (.i2l, 1) := by decide +kernel
theorem d_M_product_23 : decode b_M_product 23 = .ok (.lconst 0, 1) := by decide +kernel
theorem d_M_product_24 : decode b_M_product 24 = .ok (.aload_n 0, 1) := by decide +kernel
theorem d_M_product_25 : decode b_M_product 25 = .ok (.getfield 9, 3) := by decide +kernel
theorem d_M_product_28 : decode b_M_product 28 = .ok (.lconst 1, 1) := by decide +kernel
theorem d_M_product_29 : decode b_M_product 29 = .ok (.lsub, 1) := by decide +kernel
theorem d_M_product_30 : decode b_M_product 30 = .ok (.invokestatic 29, 3) := by decide +kernel
theorem d_M_product_33 : decode b_M_product 33 = .ok (.ifCond .ne 7, 3) := by decide +kernel
theorem d_M_product_36 : decode b_M_product 36 = .ok (.iconst 1, 1) := by decide +kernel
theorem d_M_product_37 : decode b_M_product 37 = .ok (.goto 4, 3) := by decide +kernel
theorem d_M_product_40 : decode b_M_product 40 = .ok (.iconst 0, 1) := by decide +kernel
theorem d_M_product_41 : decode b_M_product 41 = .ok (.iconst 1, 1) := by decide +kernel
theorem d_M_product_42 : decode b_M_product 42 = .ok (.invokevirtual 44, 3) := by decide +kernel
theorem d_M_product_45 : decode b_M_product 45 = .ok (.ifCond .eq 7, 3) := by decide +kernel
theorem d_M_product_48 : decode b_M_product 48 = .ok (.iconst 0, 1) := by decide +kernel
theorem d_M_product_49 : decode b_M_product 49 = .ok (.goto 14, 3) := by decide +kernel
theorem d_M_product_52 : decode b_M_product 52 = .ok (.iload_n 1, 1) := by decide +kernel
theorem d_M_product_53 : decode b_M_product 53 = .ok (.i2l, 1) := by decide +kernel
theorem d_M_product_54 : decode b_M_product 54 = .ok (.iload_n 2, 1) := by decide +kernel
theorem d_M_product_55 : decode b_M_product 55 = .ok (.i2l, 1) := by decide +kernel
theorem d_M_product_56 : decode b_M_product 56 = .ok (.lmul, 1) := by decide +kernel
theorem d_M_product_57 : decode b_M_product 57 = .ok (.aload_n 0, 1) := by decide +kernel
theorem d_M_product_58 : decode b_M_product 58 = .ok (.getfield 9, 3) := by decide +kernel
theorem d_M_product_61 : decode b_M_product 61 = .ok (.lrem, 1) := by decide +kernel
theorem d_M_product_62 : decode b_M_product 62 = .ok (.l2i, 1) := by decide +kernel
theorem d_M_product_63 : decode b_M_product 63 = .ok (.ireturn, 1) := by decide +kernel
theorem d_M_power_IJ_0 : decode b_M_power_IJ 0 = .ok (.aload_n 0, 1) := by decide +kernel
theorem d_M_power_IJ_1 : decode b_M_power_IJ 1 = .ok (.iconst 0, 1) := by decide +kernel
theorem d_M_power_IJ_2 : decode b_M_power_IJ 2 = .ok (.putfield 25, 3) := by decide +kernel
theorem d_M_power_IJ_5 : decode b_M_power_IJ 5 = .ok (.aload_n 0, 1) := by decide +kernel
theorem d_M_power_IJ_6 : decode b_M_power_IJ 6 = .ok (.iload_n 1, 1) := by decide +kernel
theorem d_M_power_IJ_7 : decode b_M_power_IJ 7 = .ok (.i2l, 1) := by decide +kernel
theorem d_M_power_IJ_8 : decode b_M_power_IJ 8 = .ok (.lconst 0, 1) := by decide +kernel
theorem d_M_power_IJ_9 : decode b_M_power_IJ 9 = .ok (.aload_n 0, 1) := by decide +kernel
theorem d_M_power_IJ_10 : decode b_M_power_IJ 10 = .ok (.getfield 9, 3) := by decide +kernel
theorem d_M_power_IJ_13 : decode b_M_power_IJ 13 = .ok (.lconst 1, 1) := by decide +kernel
theorem d_M_power_IJ_14 : decode b_M_power_IJ 14 = .ok (.lsub, 1) := by decide +kernel
theorem d_M_power_IJ_15 : decode b_M_power_IJ 15 = .ok (.invokestatic 29, 3) := by decide +kernel
theorem d_M_power_IJ_18 : decode b_M_power_IJ 18 = .ok (.ifCond .eq 9, 3) := by decide +kernel
theorem d_M_power_IJ_21 : decode b_M_power_IJ 21 = .ok (.lload_n 2, 1) := by decide +kernel
theorem d_M_power_IJ_22 : decode b_M_power_IJ 22 = .ok (.lconst 0, 1) := by decide +kernel
theorem d_M_power_IJ_23 : decode b_M_power_IJ 23 = .ok (.lcmp, 1) := by decide +kernel
theorem d_M_power_IJ_24 : decode b_M_power_IJ 24 = .ok (.ifCond .ge 7, 3) := by decide +kernel
theorem d_M_power_IJ_27 : decode b_M_power_IJ 27 = .ok (.iconst 1, 1) := by decide +kernel
theorem d_M_power_IJ_28 : decode b_M_power_IJ 28 = .ok (.goto 4, 3) := by decide +kernel
theorem d_M_power_IJ_31 : decode b_M_power_IJ 31 = .ok (.iconst 0, 1) := by decide +kernel
theorem d_M_power_IJ_32 : decode b_M_power_IJ 32 = .ok (.iconst 1, 1) := by decide +kernel
theorem d_M_power_IJ_33 : decode b_M_power_IJ 33 = .ok (.invokevirtual 44, 3) := by decide +kernel
theorem d_M_power_IJ_36 : decode b_M_power_IJ 36 = .ok (.ifCond .eq 7, 3) := by decide +kernel
theorem d_M_power_IJ_39 : decode b_M_power_IJ 39 = .ok (.iconst 0, 1) := by decide +kernel
theorem d_M_power_IJ_40 : decode b_M_power_IJ 40 = .ok (.goto 14, 3) := by decide +kernel
theorem d_M_power_IJ_43 : decode b_M_power_IJ 43 = .ok (.iload_n 1, 1) := by decide +kernel
theorem d_M_power_IJ_44 : decode b_M_power_IJ 44 = .ok (.i2l, 1) := by decide +kernel
theorem d_M_power_IJ_45 : decode b_M_power_IJ 45 = .ok (.lload_n 2, 1) := by decide +kernel
theorem d_M_power_IJ_46 : decode b_M_power_IJ 46 = .ok (.aload_n 0, 1) := by decide +kernel
theorem d_M_power_IJ_47 : decode b_M_power_IJ 47 = .ok (.getfield 9, 3) := by decide +kernel
theorem d_M_power_IJ_50 : decode b_M_power_IJ 50 = .ok (.invokestatic 33, 3) := by decide +kernel
theorem d_M_power_IJ_53 : decode b_M_power_IJ 53 = .ok (.l2i, 1) := by decide +kernel
theorem d_M_power_IJ_54 : decode b_M_power_IJ 54 = .ok (.ireturn, 1) := by decide +kernel
theorem d_M_inverse_I_0 : decode b_M_inverse_I 0 = .ok (.aload_n 0, 1) := by decide +kernel
theorem d_M_inverse_I_1 : decode b_M_inverse_I 1 = .ok (.iconst 0, 1) := by decide +kernel
theorem d_M_inverse_I_2 : decode b_M_inverse_I 2 = .ok (.putfield 25, 3) := by decide +kernel
theorem d_M_inverse_I_5 : decode b_M_inverse_I 5 = .ok (.aload_n 0, 1) := by decide +kernel
theorem d_M_inverse_I_6 : decode b_M_inverse_I 6 = .ok (.iload_n 1, 1) := by decide +kernel
theorem d_M_inverse_I_7 : decode b_M_inverse_I 7 = .ok (.i2l, 1) := by decide +kernel
theorem d_M_inverse_I_8 : decode b_M_inverse_I 8 = .ok (.lconst 1, 1) := by decide +kernel
theorem d_M_inverse_I_9 : decode b_M_inverse_I 9 = .ok (.aload_n 0, 1) := by decide +kernel
theorem d_M_inverse_I_10 : decode b_M_inverse_I 10 = .ok (.getfield 9, 3) := by decide +kernel
theorem d_M_inverse_I_13 : decode b_M_inverse_I 13 = .ok (.lconst 1, 1) := by decide +kernel
theorem d_M_inverse_I_14 : decode b_M_inverse_I 14 = .ok (.lsub, 1) := by decide +kernel
theorem d_M_inverse_I_15 : decode b_M_inverse_I 15 = .ok (.invokestatic 29, 3) := by decide +kernel
theorem d_M_inverse_I_18 : decode b_M_inverse_I 18 = .ok (.ifCond .ne 7, 3) := by decide +kernel
theorem d_M_inverse_I_21 : decode b_M_inverse_I 21 = .ok (.iconst 1, 1) := by decide +kernel
theorem d_M_inverse_I_22 : decode b_M_inverse_I 22 = .ok (.goto 4, 3) := by decide +kernel
theorem d_M_inverse_I_25 : decode b_M_inverse_I 25 = .ok (.iconst 0, 1) := by decide +kernel
theorem d_M_inverse_I_26 : decode b_M_inverse_I 26 = .ok (.iconst 1, 1) := by decide +kernel
theorem d_M_inverse_I_27 : decode b_M_inverse_I 27 = .ok (.invokevirtual 44, 3) := by decide +kernel
theorem d_M_inverse_I_30 : decode b_M_inverse_I 30 = .ok (.ifCond .eq 7, 3) := by decide +kernel
theorem d_M_inverse_I_33 : decode b_M_inverse_I 33 = .ok (.iconst 0, 1) := by decide +kernel
theorem d_M_inverse_I_34 : decode b_M_inverse_I 34 = .ok (.goto 13, 3) := by decide +kernel
theorem d_M_inverse_I_37 : decode b_M_inverse_I 37 = .ok (.iload_n 1, 1) := by decide +kernel
theorem d_M_inverse_I_38 : decode b_M_inverse_I 38 = .ok (.i2l, 1) := by decide +kernel
theorem d_M_inverse_I_39 : decode b_M_inverse_I 39 = .ok (.aload_n 0, 1) := by decide +kernel
theorem d_M_inverse_I_40 : decode b_M_inverse_I 40 = .ok (.getfield 9, 3) := by decide +kernel
theorem d_M_inverse_I_43 : decode b_M_inverse_I 43 = .ok (.invokestatic 48, 3) := by decide +kernel
theorem d_M_inverse_I_46 : decode b_M_inverse_I 46 = .ok (.l2i, 1) := by decide +kernel
theorem d_M_inverse_I_47 : decode b_M_inverse_I 47 = .ok (.ireturn, 1) := by decide +kernel
theorem d_M_log_0 : decode b_M_log 0 = .ok (.aload_n 0, 1) := by decide +kernel
theorem d_M_log_1 : decode b_M_log 1 = .ok (.iconst 0, 1) := by decide +kernel
theorem d_M_log_2 : decode b_M_log 2 = .ok (.putfield 25, 3) := by decide +kernel
theorem d_M_log_5 : decode b_M_log 5 = .ok (.aload_n 0, 1) := by decide +kernel
theorem d_M_log_6 : decode b_M_log 6 = .ok (.iload_n 1, 1) := by decide +kernel
theorem d_M_log_7 : decode b_M_log 7 = .ok (.i2l, 1) := by decide +kernel
theorem d_M_log_8 : decode b_M_log 8 = .ok (.aload_n 0, 1) := by decide +kernel
theorem d_M_log_9 : decode b_M_log 9 = .ok (.getfield 9, 3) := by decide +kernel
theorem d_M_log_12 : decode b_M_log 12 = .ok (.aload_n 0, 1) := by decide +kernel
theorem d_M_log_13 : decode b_M_log 13 = .ok (.getfield 17, 3) := by decide +kernel
theorem d_M_log_16 : decode b_M_log 16 = .ok (.invokestatic 41, 3) := by decide +kernel
theorem d_M_log_19 : decode b_M_log 19 = .ok (.ifCond .ne 7, 3) := by decide +kernel
theorem d_M_log_22 : decode b_M_log 22 = .ok (.iconst 1, 1) := by decide +kernel
theorem d_M_log_23 : decode b_M_log 23 = .ok (.goto 4, 3) := by decide +kernel
theorem d_M_log_26 : decode b_M_log 26 = .ok (.iconst 0, 1) := by decide +kernel
theorem d_M_log_27 : decode b_M_log 27 = .ok (.iconst 1, 1) := by decide +kernel
theorem d_M_log_28 : decode b_M_log 28 = .ok (.invokevirtual 44, 3) := by decide +kernel
theorem d_M_log_31 : decode b_M_log 31 = .ok (.ifCond .ne 27, 3) := by decide +kernel
theorem d_M_log_34 : decode b_M_log 34 = .ok (.aload_n 0, 1) := by decide +kernel
theorem d_M_log_35 : decode b_M_log 35 = .ok (.aload_n 0, 1) := by decide +kernel
theorem d_M_log_36 : decode b_M_log 36 = .ok (.getfield 9, 3) := by decide +kernel
theorem d_M_log_39 : decode b_M_log 39 = .ok (.ldc2_w 52, 3) := by decide +kernel
theorem d_M_log_42 : decode b_M_log 42 = .ok (.lcmp, 1) := by decide +kernel
theorem d_M_log_43 : decode b_M_log 43 = .ok (.ifCond .le 7, 3) := by decide +kernel
theorem d_M_log_46 : decode b_M_log 46 = .ok (.iconst 1, 1) := by decide +kernel
theorem d_M_log_47 : decode b_M_log 47 = .ok (.goto 4, 3) := by decide +kernel
theorem d_M_log_50 : decode b_M_log 50 = .ok (.iconst 0, 1) := by decide +kernel
theorem d_M_log_51 : decode b_M_log 51 = .ok (.iconst 2, 1) := by decide +kernel
theorem d_M_log_52 : decode b_M_log 52 = .ok (.invokevirtual 44, 3) := by decide +kernel
theorem d_M_log_55 : decode b_M_log 55 = .ok (.ifCond .eq 5, 3) := by decide +kernel
theorem d_M_log_58 : decode b_M_log 58 = .ok (.iconst 0, 1) := by decide +kernel
theorem d_M_log_59 : decode b_M_log 59 = .ok (.ireturn, 1) := by decide +kernel
theorem d_M_log_60 : decode b_M_log 60 = .ok (.iconst 0, 1) := by decide +kernel
theorem d_M_log_61 : decode b_M_log 61 = .ok (.istore_n 2, 1) := by decide +kernel
theorem d_M_log_62 : decode b_M_log 62 = .ok (.lconst 1, 1) := by decide +kernel
theorem d_M_log_63 : decode b_M_log 63 = .ok (.lstore_n 3, 1) := by decide +kernel
theorem d_M_log_64 : decode b_M_log 64 = .ok (.lload_n 3, 1) := by decide +kernel
theorem d_M_log_65 : decode b_M_log 65 = .ok (.iload_n 1, 1) := by decide +kernel
theorem d_M_log_66 : decode b_M_log 66 = .ok (.i2l, 1) := by decide +kernel
theorem d_M_log_67 : decode b_M_log 67 = .ok (.lcmp, 1) := by decide +kernel
theorem d_M_log_68 : decode b_M_log 68 = .ok (.ifCond .eq 21, 3) := by decide +kernel
theorem d_M_log_71 : decode b_M_log 71 = .ok (.iinc 2 1, 3) := by decide +kernel
theorem d_M_log_74 : decode b_M_log 74 = .ok (.lload_n 3, 1) := by decide +kernel
theorem d_M_log_75 : decode b_M_log 75 = .ok (.aload_n 0, 1) := by decide +kernel
theorem d_M_log_76 : decode b_M_log 76 = .ok (.getfield 22, 3) := by decide +kernel
theorem d_M_log_79 : decode b_M_log 79 = .ok (.lmul, 1) := by decide +kernel
theorem d_M_log_80 : decode b_M_log 80 = .ok (.aload_n 0, 1) := by decide +kernel
theorem d_M_log_81 : decode b_M_log 81 = .ok (.getfield 9, 3) := by decide +kernel
theorem d_M_log_84 : decode b_M_log 84 = .ok (.lrem, 1) := by decide +kernel
theorem d_M_log_85 : decode b_M_log 85 = .ok (.lstore_n 3, 1) := by decide +kernel
theorem d_M_log_86 : decode b_M_log 86 = .ok (.goto (-22), 3) := by decide +kernel
theorem d_M_log_89 : decode b_M_log 89 = .ok (.iload_n 2, 1) := by decide +kernel
theorem d_M_log_90 : decode b_M_log 90 = .ok (.ireturn, 1) := by decide +kernel
theorem d_M_accepts_0 : decode b_M_accepts 0 = .ok (.aload_n 0, 1) := by decide +kernel
theorem d_M_accepts_1 : decode b_M_accepts 1 = .ok (.iconst 0, 1) := by decide +kernel
theorem d_M_accepts_2 : decode b_M_accepts 2 = .ok (.putfield 25, 3) := by decide +kernel
theorem d_M_accepts_5 : decode b_M_accepts 5 = .ok (.iload_n 1, 1) := by decide +kernel
theorem d_M_accepts_6 : decode b_M_accepts 6 = .ok (.i2l, 1) := by decide +kernel
theorem d_M_accepts_7 : decode b_M_accepts 7 = .ok (.aload_n 0, 1) := by decide +kernel
theorem d_M_accepts_8 : decode b_M_accepts 8 = .ok (.getfield 9, 3) := by decide +kernel
theorem d_M_accepts_11 : decode b_M_accepts 11 = .ok (.aload_n 0, 1) := by decide +kernel
theorem d_M_accepts_12 : decode b_M_accepts 12 = .ok (.getfield 17, 3) := by decide +kernel
theorem d_M_accepts_15 : decode b_M_accepts 15 = .ok (.invokestatic 41, 3) := by decide +kernel
theorem d_M_accepts_18 : decode b_M_accepts 18 = .ok (.ifCond .eq 79, 3) := by decide +kernel
