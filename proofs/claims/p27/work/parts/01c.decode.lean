theorem dX0_init_0 : decode cX0_init 0 = .ok (.aload_n 0, 1) := by decide +kernel
theorem dX0_init_1 : decode cX0_init 1 = .ok (.invokespecial 3, 3) := by decide +kernel
theorem dX0_init_4 : decode cX0_init 4 = .ok (.aload_n 0, 1) := by decide +kernel
theorem dX0_init_5 : decode cX0_init 5 = .ok (.iconst 0, 1) := by decide +kernel
theorem dX0_init_6 : decode cX0_init 6 = .ok (.putfield 9, 3) := by decide +kernel
theorem dX0_init_9 : decode cX0_init 9 = .ok (.aload_n 0, 1) := by decide +kernel
theorem dX0_init_10 : decode cX0_init 10 = .ok (.iconst 0, 1) := by decide +kernel
theorem dX0_init_11 : decode cX0_init 11 = .ok (.putfield 15, 3) := by decide +kernel
theorem dX0_init_14 : decode cX0_init 14 = .ok (.aload_n 0, 1) := by decide +kernel
theorem dX0_init_15 : decode cX0_init 15 = .ok (.iconst (-1), 1) := by decide +kernel
theorem dX0_init_16 : decode cX0_init 16 = .ok (.putfield 18, 3) := by decide +kernel
theorem dX0_init_19 : decode cX0_init 19 = .ok (.aload_n 0, 1) := by decide +kernel
theorem dX0_init_20 : decode cX0_init 20 = .ok (.iconst 0, 1) := by decide +kernel
theorem dX0_init_21 : decode cX0_init 21 = .ok (.putfield 21, 3) := by decide +kernel
theorem dX0_init_24 : decode cX0_init 24 = .ok (.return_, 1) := by decide +kernel
theorem dX0_forget_0 : decode cX0_forget 0 = .ok (.aload_n 0, 1) := by decide +kernel
theorem dX0_forget_1 : decode cX0_forget 1 = .ok (.iconst 0, 1) := by decide +kernel
theorem dX0_forget_2 : decode cX0_forget 2 = .ok (.putfield 9, 3) := by decide +kernel
theorem dX0_forget_5 : decode cX0_forget 5 = .ok (.aload_n 0, 1) := by decide +kernel
theorem dX0_forget_6 : decode cX0_forget 6 = .ok (.iconst 0, 1) := by decide +kernel
theorem dX0_forget_7 : decode cX0_forget 7 = .ok (.putfield 15, 3) := by decide +kernel
theorem dX0_forget_10 : decode cX0_forget 10 = .ok (.aload_n 0, 1) := by decide +kernel
theorem dX0_forget_11 : decode cX0_forget 11 = .ok (.iconst (-1), 1) := by decide +kernel
theorem dX0_forget_12 : decode cX0_forget 12 = .ok (.putfield 18, 3) := by decide +kernel
theorem dX0_forget_15 : decode cX0_forget 15 = .ok (.aload_n 0, 1) := by decide +kernel
theorem dX0_forget_16 : decode cX0_forget 16 = .ok (.iconst 0, 1) := by decide +kernel
theorem dX0_forget_17 : decode cX0_forget 17 = .ok (.putfield 21, 3) := by decide +kernel
theorem dX0_forget_20 : decode cX0_forget 20 = .ok (.return_, 1) := by decide +kernel
theorem dX0_beginAct_0 : decode cX0_beginAct 0 = .ok (.aload_n 0, 1) := by decide +kernel
theorem dX0_beginAct_1 : decode cX0_beginAct 1 = .ok (.iconst 0, 1) := by decide +kernel
theorem dX0_beginAct_2 : decode cX0_beginAct 2 = .ok (.putfield 21, 3) := by decide +kernel
theorem dX0_beginAct_5 : decode cX0_beginAct 5 = .ok (.return_, 1) := by decide +kernel
theorem dX0_tell_0 : decode cX0_tell 0 = .ok (.aload_n 0, 1) := by decide +kernel
theorem dX0_tell_1 : decode cX0_tell 1 = .ok (.getfield 9, 3) := by decide +kernel
theorem dX0_tell_4 : decode cX0_tell 4 = .ok (.ifCond .ne 13, 3) := by decide +kernel
theorem dX0_tell_7 : decode cX0_tell 7 = .ok (.aload_n 0, 1) := by decide +kernel
theorem dX0_tell_8 : decode cX0_tell 8 = .ok (.iload_n 1, 1) := by decide +kernel
theorem dX0_tell_9 : decode cX0_tell 9 = .ok (.putfield 15, 3) := by decide +kernel
theorem dX0_tell_12 : decode cX0_tell 12 = .ok (.aload_n 0, 1) := by decide +kernel
theorem dX0_tell_13 : decode cX0_tell 13 = .ok (.iload_n 2, 1) := by decide +kernel
theorem dX0_tell_14 : decode cX0_tell 14 = .ok (.putfield 18, 3) := by decide +kernel
theorem dX0_tell_17 : decode cX0_tell 17 = .ok (.aload_n 0, 1) := by decide +kernel
theorem dX0_tell_18 : decode cX0_tell 18 = .ok (.getfield 21, 3) := by decide +kernel
theorem dX0_tell_21 : decode cX0_tell 21 = .ok (.ifCond .ne 8, 3) := by decide +kernel
theorem dX0_tell_24 : decode cX0_tell 24 = .ok (.aload_n 0, 1) := by decide +kernel
theorem dX0_tell_25 : decode cX0_tell 25 = .ok (.iload_n 1, 1) := by decide +kernel
theorem dX0_tell_26 : decode cX0_tell 26 = .ok (.putfield 21, 3) := by decide +kernel
theorem dX0_tell_29 : decode cX0_tell 29 = .ok (.aload_n 0, 1) := by decide +kernel
theorem dX0_tell_30 : decode cX0_tell 30 = .ok (.dup, 1) := by decide +kernel
theorem dX0_tell_31 : decode cX0_tell 31 = .ok (.getfield 9, 3) := by decide +kernel
theorem dX0_tell_34 : decode cX0_tell 34 = .ok (.iconst 1, 1) := by decide +kernel
theorem dX0_tell_35 : decode cX0_tell 35 = .ok (.iadd, 1) := by decide +kernel
theorem dX0_tell_36 : decode cX0_tell 36 = .ok (.putfield 9, 3) := by decide +kernel
theorem dX0_tell_39 : decode cX0_tell 39 = .ok (.return_, 1) := by decide +kernel
theorem dX1_init_0 : decode cX1_init 0 = .ok (.aload_n 0, 1) := by decide +kernel
theorem dX1_init_1 : decode cX1_init 1 = .ok (.invokespecial 3, 3) := by decide +kernel
theorem dX1_init_4 : decode cX1_init 4 = .ok (.aload_n 0, 1) := by decide +kernel
theorem dX1_init_5 : decode cX1_init 5 = .ok (.new 9, 3) := by decide +kernel
theorem dX1_init_8 : decode cX1_init 8 = .ok (.dup, 1) := by decide +kernel
theorem dX1_init_9 : decode cX1_init 9 = .ok (.bipush 40, 2) := by decide +kernel
theorem dX1_init_11 : decode cX1_init 11 = .ok (.iconst 0, 1) := by decide +kernel
theorem dX1_init_12 : decode cX1_init 12 = .ok (.invokespecial 11, 3) := by decide +kernel
theorem dX1_init_15 : decode cX1_init 15 = .ok (.putfield 14, 3) := by decide +kernel
theorem dX1_init_18 : decode cX1_init 18 = .ok (.aload_n 0, 1) := by decide +kernel
theorem dX1_init_19 : decode cX1_init 19 = .ok (.new 9, 3) := by decide +kernel
theorem dX1_init_22 : decode cX1_init 22 = .ok (.dup, 1) := by decide +kernel
theorem dX1_init_23 : decode cX1_init 23 = .ok (.bipush 40, 2) := by decide +kernel
theorem dX1_init_25 : decode cX1_init 25 = .ok (.iconst 0, 1) := by decide +kernel
theorem dX1_init_26 : decode cX1_init 26 = .ok (.invokespecial 11, 3) := by decide +kernel
theorem dX1_init_29 : decode cX1_init 29 = .ok (.putfield 20, 3) := by decide +kernel
theorem dX1_init_32 : decode cX1_init 32 = .ok (.aload_n 0, 1) := by decide +kernel
theorem dX1_init_33 : decode cX1_init 33 = .ok (.new 9, 3) := by decide +kernel
theorem dX1_init_36 : decode cX1_init 36 = .ok (.dup, 1) := by decide +kernel
theorem dX1_init_37 : decode cX1_init 37 = .ok (.bipush 40, 2) := by decide +kernel
theorem dX1_init_39 : decode cX1_init 39 = .ok (.iconst (-1), 1) := by decide +kernel
theorem dX1_init_40 : decode cX1_init 40 = .ok (.invokespecial 11, 3) := by decide +kernel
theorem dX1_init_43 : decode cX1_init 43 = .ok (.putfield 23, 3) := by decide +kernel
theorem dX1_init_46 : decode cX1_init 46 = .ok (.aload_n 0, 1) := by decide +kernel
theorem dX1_init_47 : decode cX1_init 47 = .ok (.iconst 0, 1) := by decide +kernel
theorem dX1_init_48 : decode cX1_init 48 = .ok (.putfield 26, 3) := by decide +kernel
theorem dX1_init_51 : decode cX1_init 51 = .ok (.return_, 1) := by decide +kernel
theorem dX1_kept_0 : decode cX1_kept 0 = .ok (.aload_n 0, 1) := by decide +kernel
theorem dX1_kept_1 : decode cX1_kept 1 = .ok (.getfield 26, 3) := by decide +kernel
theorem dX1_kept_4 : decode cX1_kept 4 = .ok (.bipush 40, 2) := by decide +kernel
theorem dX1_kept_6 : decode cX1_kept 6 = .ok (.invokestatic 30, 3) := by decide +kernel
theorem dX1_kept_9 : decode cX1_kept 9 = .ok (.ireturn, 1) := by decide +kernel
theorem dX1_keep_0 : decode cX1_keep 0 = .ok (.aload_n 0, 1) := by decide +kernel
theorem dX1_keep_1 : decode cX1_keep 1 = .ok (.getfield 14, 3) := by decide +kernel
theorem dX1_keep_4 : decode cX1_keep 4 = .ok (.aload_n 0, 1) := by decide +kernel
theorem dX1_keep_5 : decode cX1_keep 5 = .ok (.getfield 26, 3) := by decide +kernel
theorem dX1_keep_8 : decode cX1_keep 8 = .ok (.iload_n 1, 1) := by decide +kernel
theorem dX1_keep_9 : decode cX1_keep 9 = .ok (.invokevirtual 36, 3) := by decide +kernel
theorem dX1_keep_12 : decode cX1_keep 12 = .ok (.aload_n 0, 1) := by decide +kernel
theorem dX1_keep_13 : decode cX1_keep 13 = .ok (.getfield 20, 3) := by decide +kernel
theorem dX1_keep_16 : decode cX1_keep 16 = .ok (.aload_n 0, 1) := by decide +kernel
theorem dX1_keep_17 : decode cX1_keep 17 = .ok (.getfield 26, 3) := by decide +kernel
theorem dX1_keep_20 : decode cX1_keep 20 = .ok (.iload_n 2, 1) := by decide +kernel
theorem dX1_keep_21 : decode cX1_keep 21 = .ok (.invokevirtual 36, 3) := by decide +kernel
theorem dX1_keep_24 : decode cX1_keep 24 = .ok (.aload_n 0, 1) := by decide +kernel
theorem dX1_keep_25 : decode cX1_keep 25 = .ok (.getfield 23, 3) := by decide +kernel
theorem dX1_keep_28 : decode cX1_keep 28 = .ok (.aload_n 0, 1) := by decide +kernel
theorem dX1_keep_29 : decode cX1_keep 29 = .ok (.getfield 26, 3) := by decide +kernel
theorem dX1_keep_32 : decode cX1_keep 32 = .ok (.iload_n 3, 1) := by decide +kernel
theorem dX1_keep_33 : decode cX1_keep 33 = .ok (.invokevirtual 36, 3) := by decide +kernel
theorem dX1_keep_36 : decode cX1_keep 36 = .ok (.aload_n 0, 1) := by decide +kernel
theorem dX1_keep_37 : decode cX1_keep 37 = .ok (.dup, 1) := by decide +kernel
theorem dX1_keep_38 : decode cX1_keep 38 = .ok (.getfield 26, 3) := by decide +kernel
theorem dX1_keep_41 : decode cX1_keep 41 = .ok (.iconst 1, 1) := by decide +kernel
theorem dX1_keep_42 : decode cX1_keep 42 = .ok (.iadd, 1) := by decide +kernel
theorem dX1_keep_43 : decode cX1_keep 43 = .ok (.putfield 26, 3) := by decide +kernel
theorem dX1_keep_46 : decode cX1_keep 46 = .ok (.return_, 1) := by decide +kernel
theorem dX2_init_0 : decode cX2_init 0 = .ok (.aload_n 0, 1) := by decide +kernel
theorem dX2_init_1 : decode cX2_init 1 = .ok (.invokespecial 3, 3) := by decide +kernel
theorem dX2_init_4 : decode cX2_init 4 = .ok (.aload_n 0, 1) := by decide +kernel
theorem dX2_init_5 : decode cX2_init 5 = .ok (.new 9, 3) := by decide +kernel
theorem dX2_init_8 : decode cX2_init 8 = .ok (.dup, 1) := by decide +kernel
theorem dX2_init_9 : decode cX2_init 9 = .ok (.bipush 6, 2) := by decide +kernel
theorem dX2_init_11 : decode cX2_init 11 = .ok (.iconst 0, 1) := by decide +kernel
theorem dX2_init_12 : decode cX2_init 12 = .ok (.invokespecial 11, 3) := by decide +kernel
theorem dX2_init_15 : decode cX2_init 15 = .ok (.putfield 14, 3) := by decide +kernel
theorem dX2_init_18 : decode cX2_init 18 = .ok (.aload_n 0, 1) := by decide +kernel
theorem dX2_init_19 : decode cX2_init 19 = .ok (.new 9, 3) := by decide +kernel
theorem dX2_init_22 : decode cX2_init 22 = .ok (.dup, 1) := by decide +kernel
theorem dX2_init_23 : decode cX2_init 23 = .ok (.bipush 6, 2) := by decide +kernel
theorem dX2_init_25 : decode cX2_init 25 = .ok (.iconst 0, 1) := by decide +kernel
theorem dX2_init_26 : decode cX2_init 26 = .ok (.invokespecial 11, 3) := by decide +kernel
theorem dX2_init_29 : decode cX2_init 29 = .ok (.putfield 20, 3) := by decide +kernel
theorem dX2_init_32 : decode cX2_init 32 = .ok (.aload_n 0, 1) := by decide +kernel
theorem dX2_init_33 : decode cX2_init 33 = .ok (.new 9, 3) := by decide +kernel
theorem dX2_init_36 : decode cX2_init 36 = .ok (.dup, 1) := by decide +kernel
theorem dX2_init_37 : decode cX2_init 37 = .ok (.bipush 6, 2) := by decide +kernel
theorem dX2_init_39 : decode cX2_init 39 = .ok (.iconst 0, 1) := by decide +kernel
theorem dX2_init_40 : decode cX2_init 40 = .ok (.invokespecial 11, 3) := by decide +kernel
theorem dX2_init_43 : decode cX2_init 43 = .ok (.putfield 23, 3) := by decide +kernel
theorem dX2_init_46 : decode cX2_init 46 = .ok (.aload_n 0, 1) := by decide +kernel
theorem dX2_init_47 : decode cX2_init 47 = .ok (.iconst 0, 1) := by decide +kernel
theorem dX2_init_48 : decode cX2_init 48 = .ok (.putfield 26, 3) := by decide +kernel
theorem dX2_init_51 : decode cX2_init 51 = .ok (.aload_n 0, 1) := by decide +kernel
theorem dX2_init_52 : decode cX2_init 52 = .ok (.iconst 0, 1) := by decide +kernel
theorem dX2_init_53 : decode cX2_init 53 = .ok (.putfield 30, 3) := by decide +kernel
theorem dX2_init_56 : decode cX2_init 56 = .ok (.aload_n 0, 1) := by decide +kernel
theorem dX2_init_57 : decode cX2_init 57 = .ok (.iconst 0, 1) := by decide +kernel
theorem dX2_init_58 : decode cX2_init 58 = .ok (.putfield 33, 3) := by decide +kernel
theorem dX2_init_61 : decode cX2_init 61 = .ok (.aload_n 0, 1) := by decide +kernel
theorem dX2_init_62 : decode cX2_init 62 = .ok (.iconst 0, 1) := by decide +kernel
theorem dX2_init_63 : decode cX2_init 63 = .ok (.putfield 36, 3) := by decide +kernel
theorem dX2_init_66 : decode cX2_init 66 = .ok (.return_, 1) := by decide +kernel
theorem dX2_join_0 : decode cX2_join 0 = .ok (.aload_n 0, 1) := by decide +kernel
theorem dX2_join_1 : decode cX2_join 1 = .ok (.getfield 26, 3) := by decide +kernel
theorem dX2_join_4 : decode cX2_join 4 = .ok (.istore 4, 2) := by decide +kernel
theorem dX2_join_6 : decode cX2_join 6 = .ok (.aload_n 0, 1) := by decide +kernel
theorem dX2_join_7 : decode cX2_join 7 = .ok (.getfield 14, 3) := by decide +kernel
theorem dX2_join_10 : decode cX2_join 10 = .ok (.iload 4, 2) := by decide +kernel
theorem dX2_join_12 : decode cX2_join 12 = .ok (.iload_n 1, 1) := by decide +kernel
theorem dX2_join_13 : decode cX2_join 13 = .ok (.invokevirtual 39, 3) := by decide +kernel
theorem dX2_join_16 : decode cX2_join 16 = .ok (.aload_n 0, 1) := by decide +kernel
theorem dX2_join_17 : decode cX2_join 17 = .ok (.getfield 20, 3) := by decide +kernel
theorem dX2_join_20 : decode cX2_join 20 = .ok (.iload 4, 2) := by decide +kernel
theorem dX2_join_22 : decode cX2_join 22 = .ok (.iload_n 2, 1) := by decide +kernel
theorem dX2_join_23 : decode cX2_join 23 = .ok (.invokevirtual 39, 3) := by decide +kernel
theorem dX2_join_26 : decode cX2_join 26 = .ok (.aload_n 0, 1) := by decide +kernel
theorem dX2_join_27 : decode cX2_join 27 = .ok (.getfield 23, 3) := by decide +kernel
theorem dX2_join_30 : decode cX2_join 30 = .ok (.iload 4, 2) := by decide +kernel
theorem dX2_join_32 : decode cX2_join 32 = .ok (.iload_n 3, 1) := by decide +kernel
theorem dX2_join_33 : decode cX2_join 33 = .ok (.invokevirtual 39, 3) := by decide +kernel
theorem dX2_join_36 : decode cX2_join 36 = .ok (.aload_n 0, 1) := by decide +kernel
theorem dX2_join_37 : decode cX2_join 37 = .ok (.dup, 1) := by decide +kernel
theorem dX2_join_38 : decode cX2_join 38 = .ok (.getfield 26, 3) := by decide +kernel
theorem dX2_join_41 : decode cX2_join 41 = .ok (.iconst 1, 1) := by decide +kernel
theorem dX2_join_42 : decode cX2_join 42 = .ok (.iadd, 1) := by decide +kernel
theorem dX2_join_43 : decode cX2_join 43 = .ok (.putfield 26, 3) := by decide +kernel
theorem dX2_join_46 : decode cX2_join 46 = .ok (.iload 4, 2) := by decide +kernel
theorem dX2_join_48 : decode cX2_join 48 = .ok (.ireturn, 1) := by decide +kernel
theorem dX2_carry_0 : decode cX2_carry 0 = .ok (.aload_n 0, 1) := by decide +kernel
theorem dX2_carry_1 : decode cX2_carry 1 = .ok (.iload_n 1, 1) := by decide +kernel
theorem dX2_carry_2 : decode cX2_carry 2 = .ok (.putfield 30, 3) := by decide +kernel
theorem dX2_carry_5 : decode cX2_carry 5 = .ok (.aload_n 0, 1) := by decide +kernel
theorem dX2_carry_6 : decode cX2_carry 6 = .ok (.iload_n 2, 1) := by decide +kernel
theorem dX2_carry_7 : decode cX2_carry 7 = .ok (.putfield 33, 3) := by decide +kernel
theorem dX2_carry_10 : decode cX2_carry 10 = .ok (.aload_n 0, 1) := by decide +kernel
theorem dX2_carry_11 : decode cX2_carry 11 = .ok (.iload_n 3, 1) := by decide +kernel
theorem dX2_carry_12 : decode cX2_carry 12 = .ok (.putfield 36, 3) := by decide +kernel
theorem dX2_carry_15 : decode cX2_carry 15 = .ok (.return_, 1) := by decide +kernel
theorem dX2_weight_0 : decode cX2_weight 0 = .ok (.bipush 10, 2) := by decide +kernel
theorem dX2_weight_2 : decode cX2_weight 2 = .ok (.aload_n 0, 1) := by decide +kernel
theorem dX2_weight_3 : decode cX2_weight 3 = .ok (.getfield 30, 3) := by decide +kernel
theorem dX2_weight_6 : decode cX2_weight 6 = .ok (.iadd, 1) := by decide +kernel
theorem dX2_weight_7 : decode cX2_weight 7 = .ok (.ireturn, 1) := by decide +kernel
theorem dX3_init_0 : decode cX3_init 0 = .ok (.aload_n 0, 1) := by decide +kernel
theorem dX3_init_1 : decode cX3_init 1 = .ok (.invokespecial 3, 3) := by decide +kernel
theorem dX3_init_4 : decode cX3_init 4 = .ok (.aload_n 0, 1) := by decide +kernel
theorem dX3_init_5 : decode cX3_init 5 = .ok (.new 9, 3) := by decide +kernel
theorem dX3_init_8 : decode cX3_init 8 = .ok (.dup, 1) := by decide +kernel
theorem dX3_init_9 : decode cX3_init 9 = .ok (.bipush 8, 2) := by decide +kernel
theorem dX3_init_11 : decode cX3_init 11 = .ok (.iconst 0, 1) := by decide +kernel
theorem dX3_init_12 : decode cX3_init 12 = .ok (.invokespecial 11, 3) := by decide +kernel
theorem dX3_init_15 : decode cX3_init 15 = .ok (.putfield 14, 3) := by decide +kernel
theorem dX3_init_18 : decode cX3_init 18 = .ok (.aload_n 0, 1) := by decide +kernel
theorem dX3_init_19 : decode cX3_init 19 = .ok (.new 9, 3) := by decide +kernel
theorem dX3_init_22 : decode cX3_init 22 = .ok (.dup, 1) := by decide +kernel
theorem dX3_init_23 : decode cX3_init 23 = .ok (.bipush 8, 2) := by decide +kernel
theorem dX3_init_25 : decode cX3_init 25 = .ok (.iconst 0, 1) := by decide +kernel
theorem dX3_init_26 : decode cX3_init 26 = .ok (.invokespecial 11, 3) := by decide +kernel
theorem dX3_init_29 : decode cX3_init 29 = .ok (.putfield 20, 3) := by decide +kernel
theorem dX3_init_32 : decode cX3_init 32 = .ok (.aload_n 0, 1) := by decide +kernel
theorem dX3_init_33 : decode cX3_init 33 = .ok (.new 9, 3) := by decide +kernel
theorem dX3_init_36 : decode cX3_init 36 = .ok (.dup, 1) := by decide +kernel
theorem dX3_init_37 : decode cX3_init 37 = .ok (.bipush 8, 2) := by decide +kernel
theorem dX3_init_39 : decode cX3_init 39 = .ok (.iconst 0, 1) := by decide +kernel
theorem dX3_init_40 : decode cX3_init 40 = .ok (.invokespecial 11, 3) := by decide +kernel
theorem dX3_init_43 : decode cX3_init 43 = .ok (.putfield 23, 3) := by decide +kernel
theorem dX3_init_46 : decode cX3_init 46 = .ok (.aload_n 0, 1) := by decide +kernel
theorem dX3_init_47 : decode cX3_init 47 = .ok (.new 9, 3) := by decide +kernel
theorem dX3_init_50 : decode cX3_init 50 = .ok (.dup, 1) := by decide +kernel
theorem dX3_init_51 : decode cX3_init 51 = .ok (.bipush 8, 2) := by decide +kernel
theorem dX3_init_53 : decode cX3_init 53 = .ok (.iconst 0, 1) := by decide +kernel
theorem dX3_init_54 : decode cX3_init 54 = .ok (.invokespecial 11, 3) := by decide +kernel
theorem dX3_init_57 : decode cX3_init 57 = .ok (.putfield 26, 3) := by decide +kernel
theorem dX3_init_60 : decode cX3_init 60 = .ok (.aload_n 0, 1) := by decide +kernel
theorem dX3_init_61 : decode cX3_init 61 = .ok (.new 9, 3) := by decide +kernel
theorem dX3_init_64 : decode cX3_init 64 = .ok (.dup, 1) := by decide +kernel
theorem dX3_init_65 : decode cX3_init 65 = .ok (.bipush 8, 2) := by decide +kernel
theorem dX3_init_67 : decode cX3_init 67 = .ok (.iconst 0, 1) := by decide +kernel
theorem dX3_init_68 : decode cX3_init 68 = .ok (.invokespecial 11, 3) := by decide +kernel
theorem dX3_init_71 : decode cX3_init 71 = .ok (.putfield 29, 3) := by decide +kernel
theorem dX3_init_74 : decode cX3_init 74 = .ok (.aload_n 0, 1) := by decide +kernel
theorem dX3_init_75 : decode cX3_init 75 = .ok (.iconst 0, 1) := by decide +kernel
theorem dX3_init_76 : decode cX3_init 76 = .ok (.putfield 32, 3) := by decide +kernel
theorem dX3_init_79 : decode cX3_init 79 = .ok (.aload_n 0, 1) := by decide +kernel
theorem dX3_init_80 : decode cX3_init 80 = .ok (.iconst 0, 1) := by decide +kernel
theorem dX3_init_81 : decode cX3_init 81 = .ok (.putfield 36, 3) := by decide +kernel
theorem dX3_init_84 : decode cX3_init 84 = .ok (.return_, 1) := by decide +kernel
theorem dX3_add_0 : decode cX3_add 0 = .ok (.aload_n 0, 1) := by decide +kernel
theorem dX3_add_1 : decode cX3_add 1 = .ok (.getfield 14, 3) := by decide +kernel
theorem dX3_add_4 : decode cX3_add 4 = .ok (.aload_n 0, 1) := by decide +kernel
theorem dX3_add_5 : decode cX3_add 5 = .ok (.getfield 32, 3) := by decide +kernel
theorem dX3_add_8 : decode cX3_add 8 = .ok (.iload_n 1, 1) := by decide +kernel
theorem dX3_add_9 : decode cX3_add 9 = .ok (.invokevirtual 39, 3) := by decide +kernel
theorem dX3_add_12 : decode cX3_add 12 = .ok (.aload_n 0, 1) := by decide +kernel
theorem dX3_add_13 : decode cX3_add 13 = .ok (.getfield 20, 3) := by decide +kernel
theorem dX3_add_16 : decode cX3_add 16 = .ok (.aload_n 0, 1) := by decide +kernel
theorem dX3_add_17 : decode cX3_add 17 = .ok (.getfield 32, 3) := by decide +kernel
theorem dX3_add_20 : decode cX3_add 20 = .ok (.iload_n 2, 1) := by decide +kernel
theorem dX3_add_21 : decode cX3_add 21 = .ok (.invokevirtual 39, 3) := by decide +kernel
theorem dX3_add_24 : decode cX3_add 24 = .ok (.aload_n 0, 1) := by decide +kernel
theorem dX3_add_25 : decode cX3_add 25 = .ok (.getfield 23, 3) := by decide +kernel
theorem dX3_add_28 : decode cX3_add 28 = .ok (.aload_n 0, 1) := by decide +kernel
theorem dX3_add_29 : decode cX3_add 29 = .ok (.getfield 32, 3) := by decide +kernel
theorem dX3_add_32 : decode cX3_add 32 = .ok (.iload_n 3, 1) := by decide +kernel
theorem dX3_add_33 : decode cX3_add 33 = .ok (.invokevirtual 39, 3) := by decide +kernel
theorem dX3_add_36 : decode cX3_add 36 = .ok (.aload_n 0, 1) := by decide +kernel
theorem dX3_add_37 : decode cX3_add 37 = .ok (.getfield 26, 3) := by decide +kernel
theorem dX3_add_40 : decode cX3_add 40 = .ok (.aload_n 0, 1) := by decide +kernel
theorem dX3_add_41 : decode cX3_add 41 = .ok (.getfield 32, 3) := by decide +kernel
theorem dX3_add_44 : decode cX3_add 44 = .ok (.iload 4, 2) := by decide +kernel
theorem dX3_add_46 : decode cX3_add 46 = .ok (.invokevirtual 39, 3) := by decide +kernel
theorem dX3_add_49 : decode cX3_add 49 = .ok (.aload_n 0, 1) := by decide +kernel
theorem dX3_add_50 : decode cX3_add 50 = .ok (.getfield 29, 3) := by decide +kernel
theorem dX3_add_53 : decode cX3_add 53 = .ok (.aload_n 0, 1) := by decide +kernel
theorem dX3_add_54 : decode cX3_add 54 = .ok (.getfield 32, 3) := by decide +kernel
theorem dX3_add_57 : decode cX3_add 57 = .ok (.iload 5, 2) := by decide +kernel
theorem dX3_add_59 : decode cX3_add 59 = .ok (.invokevirtual 39, 3) := by decide +kernel
theorem dX3_add_62 : decode cX3_add 62 = .ok (.aload_n 0, 1) := by decide +kernel
theorem dX3_add_63 : decode cX3_add 63 = .ok (.dup, 1) := by decide +kernel
theorem dX3_add_64 : decode cX3_add 64 = .ok (.getfield 32, 3) := by decide +kernel
theorem dX3_add_67 : decode cX3_add 67 = .ok (.iconst 1, 1) := by decide +kernel
theorem dX3_add_68 : decode cX3_add 68 = .ok (.iadd, 1) := by decide +kernel
theorem dX3_add_69 : decode cX3_add 69 = .ok (.putfield 32, 3) := by decide +kernel
theorem dX3_add_72 : decode cX3_add 72 = .ok (.aload_n 0, 1) := by decide +kernel
theorem dX3_add_73 : decode cX3_add 73 = .ok (.getfield 32, 3) := by decide +kernel
theorem dX3_add_76 : decode cX3_add 76 = .ok (.ireturn, 1) := by decide +kernel
theorem dX3_clear_0 : decode cX3_clear 0 = .ok (.aload_n 0, 1) := by decide +kernel
theorem dX3_clear_1 : decode cX3_clear 1 = .ok (.iconst 0, 1) := by decide +kernel
theorem dX3_clear_2 : decode cX3_clear 2 = .ok (.putfield 32, 3) := by decide +kernel
theorem dX3_clear_5 : decode cX3_clear 5 = .ok (.aload_n 0, 1) := by decide +kernel
theorem dX3_clear_6 : decode cX3_clear 6 = .ok (.iconst 0, 1) := by decide +kernel
theorem dX3_clear_7 : decode cX3_clear 7 = .ok (.putfield 36, 3) := by decide +kernel
theorem dX3_clear_10 : decode cX3_clear 10 = .ok (.return_, 1) := by decide +kernel
theorem dX3_goOn_0 : decode cX3_goOn 0 = .ok (.aload_n 0, 1) := by decide +kernel
theorem dX3_goOn_1 : decode cX3_goOn 1 = .ok (.aload_n 0, 1) := by decide +kernel
theorem dX3_goOn_2 : decode cX3_goOn 2 = .ok (.getfield 36, 3) := by decide +kernel
theorem dX3_goOn_5 : decode cX3_goOn 5 = .ok (.iconst 1, 1) := by decide +kernel
theorem dX3_goOn_6 : decode cX3_goOn 6 = .ok (.iadd, 1) := by decide +kernel
theorem dX3_goOn_7 : decode cX3_goOn 7 = .ok (.aload_n 0, 1) := by decide +kernel
theorem dX3_goOn_8 : decode cX3_goOn 8 = .ok (.getfield 32, 3) := by decide +kernel
theorem dX3_goOn_11 : decode cX3_goOn 11 = .ok (.if_icmp .ge 12, 3) := by decide +kernel
theorem dX3_goOn_14 : decode cX3_goOn 14 = .ok (.aload_n 0, 1) := by decide +kernel
theorem dX3_goOn_15 : decode cX3_goOn 15 = .ok (.getfield 36, 3) := by decide +kernel
theorem dX3_goOn_18 : decode cX3_goOn 18 = .ok (.iconst 1, 1) := by decide +kernel
theorem dX3_goOn_19 : decode cX3_goOn 19 = .ok (.iadd, 1) := by decide +kernel
theorem dX3_goOn_20 : decode cX3_goOn 20 = .ok (.goto 4, 3) := by decide +kernel
theorem dX3_goOn_23 : decode cX3_goOn 23 = .ok (.iconst 0, 1) := by decide +kernel
theorem dX3_goOn_24 : decode cX3_goOn 24 = .ok (.putfield 36, 3) := by decide +kernel
theorem dX3_goOn_27 : decode cX3_goOn 27 = .ok (.return_, 1) := by decide +kernel
theorem dX4_init_0 : decode cX4_init 0 = .ok (.aload_n 0, 1) := by decide +kernel
theorem dX4_init_1 : decode cX4_init 1 = .ok (.invokespecial 3, 3) := by decide +kernel
theorem dX4_init_4 : decode cX4_init 4 = .ok (.aload_n 0, 1) := by decide +kernel
theorem dX4_init_5 : decode cX4_init 5 = .ok (.new 9, 3) := by decide +kernel
theorem dX4_init_8 : decode cX4_init 8 = .ok (.dup, 1) := by decide +kernel
theorem dX4_init_9 : decode cX4_init 9 = .ok (.bipush 7, 2) := by decide +kernel
theorem dX4_init_11 : decode cX4_init 11 = .ok (.iconst (-1), 1) := by decide +kernel
theorem dX4_init_12 : decode cX4_init 12 = .ok (.invokespecial 11, 3) := by decide +kernel
theorem dX4_init_15 : decode cX4_init 15 = .ok (.putfield 14, 3) := by decide +kernel
theorem dX4_init_18 : decode cX4_init 18 = .ok (.aload_n 0, 1) := by decide +kernel
theorem dX4_init_19 : decode cX4_init 19 = .ok (.new 9, 3) := by decide +kernel
theorem dX4_init_22 : decode cX4_init 22 = .ok (.dup, 1) := by decide +kernel
theorem dX4_init_23 : decode cX4_init 23 = .ok (.bipush 6, 2) := by decide +kernel
theorem dX4_init_25 : decode cX4_init 25 = .ok (.iconst (-1), 1) := by decide +kernel
theorem dX4_init_26 : decode cX4_init 26 = .ok (.invokespecial 11, 3) := by decide +kernel
theorem dX4_init_29 : decode cX4_init 29 = .ok (.putfield 20, 3) := by decide +kernel
theorem dX4_init_32 : decode cX4_init 32 = .ok (.aload_n 0, 1) := by decide +kernel
theorem dX4_init_33 : decode cX4_init 33 = .ok (.iconst 0, 1) := by decide +kernel
theorem dX4_init_34 : decode cX4_init 34 = .ok (.putfield 23, 3) := by decide +kernel
theorem dX4_init_37 : decode cX4_init 37 = .ok (.return_, 1) := by decide +kernel
theorem dX4_wrap_0 : decode cX4_wrap 0 = .ok (.iconst 0, 1) := by decide +kernel
theorem dX4_wrap_1 : decode cX4_wrap 1 = .ok (.istore_n 3, 1) := by decide +kernel
theorem dX4_wrap_2 : decode cX4_wrap 2 = .ok (.sipush 400, 3) := by decide +kernel
theorem dX4_wrap_5 : decode cX4_wrap 5 = .ok (.istore 4, 2) := by decide +kernel
theorem dX4_wrap_7 : decode cX4_wrap 7 = .ok (.iconst 0, 1) := by decide +kernel
theorem dX4_wrap_8 : decode cX4_wrap 8 = .ok (.istore 5, 2) := by decide +kernel
theorem dX4_wrap_10 : decode cX4_wrap 10 = .ok (.iload 5, 2) := by decide +kernel
theorem dX4_wrap_12 : decode cX4_wrap 12 = .ok (.bipush 6, 2) := by decide +kernel
theorem dX4_wrap_14 : decode cX4_wrap 14 = .ok (.if_icmp .ge 51, 3) := by decide +kernel
theorem dX4_wrap_17 : decode cX4_wrap 17 = .ok (.aload_n 1, 1) := by decide +kernel
theorem dX4_wrap_18 : decode cX4_wrap 18 = .ok (.iload 5, 2) := by decide +kernel
theorem dX4_wrap_20 : decode cX4_wrap 20 = .ok (.invokevirtual 27, 3) := by decide +kernel
theorem dX4_wrap_23 : decode cX4_wrap 23 = .ok (.istore 6, 2) := by decide +kernel
theorem dX4_wrap_25 : decode cX4_wrap 25 = .ok (.iload 5, 2) := by decide +kernel
theorem dX4_wrap_27 : decode cX4_wrap 27 = .ok (.iload_n 2, 1) := by decide +kernel
theorem dX4_wrap_28 : decode cX4_wrap 28 = .ok (.if_icmp .eq 31, 3) := by decide +kernel
theorem dX4_wrap_31 : decode cX4_wrap 31 = .ok (.iload 6, 2) := by decide +kernel
theorem dX4_wrap_33 : decode cX4_wrap 33 = .ok (.iconst (-1), 1) := by decide +kernel
theorem dX4_wrap_34 : decode cX4_wrap 34 = .ok (.if_icmp .eq 25, 3) := by decide +kernel
theorem dX4_wrap_37 : decode cX4_wrap 37 = .ok (.aload_n 0, 1) := by decide +kernel
theorem dX4_wrap_38 : decode cX4_wrap 38 = .ok (.getfield 20, 3) := by decide +kernel
theorem dX4_wrap_41 : decode cX4_wrap 41 = .ok (.iload_n 3, 1) := by decide +kernel
theorem dX4_wrap_42 : decode cX4_wrap 42 = .ok (.iload 6, 2) := by decide +kernel
theorem dX4_wrap_44 : decode cX4_wrap 44 = .ok (.invokevirtual 31, 3) := by decide +kernel
theorem dX4_wrap_47 : decode cX4_wrap 47 = .ok (.iinc 3 1, 3) := by decide +kernel
theorem dX4_wrap_50 : decode cX4_wrap 50 = .ok (.iload 4, 2) := by decide +kernel
theorem dX4_wrap_52 : decode cX4_wrap 52 = .ok (.iload 6, 2) := by decide +kernel
theorem dX4_wrap_54 : decode cX4_wrap 54 = .ok (.invokestatic 34, 3) := by decide +kernel
theorem dX4_wrap_57 : decode cX4_wrap 57 = .ok (.istore 4, 2) := by decide +kernel
theorem dX4_wrap_59 : decode cX4_wrap 59 = .ok (.iinc 5 1, 3) := by decide +kernel
theorem dX4_wrap_62 : decode cX4_wrap 62 = .ok (.goto (-52), 3) := by decide +kernel
theorem dX4_wrap_65 : decode cX4_wrap 65 = .ok (.iload 4, 2) := by decide +kernel
theorem dX4_wrap_67 : decode cX4_wrap 67 = .ok (.istore 5, 2) := by decide +kernel
theorem dX4_wrap_69 : decode cX4_wrap 69 = .ok (.aload_n 0, 1) := by decide +kernel
theorem dX4_wrap_70 : decode cX4_wrap 70 = .ok (.iconst 0, 1) := by decide +kernel
theorem dX4_wrap_71 : decode cX4_wrap 71 = .ok (.putfield 23, 3) := by decide +kernel
theorem dX4_wrap_74 : decode cX4_wrap 74 = .ok (.aload_n 0, 1) := by decide +kernel
theorem dX4_wrap_75 : decode cX4_wrap 75 = .ok (.getfield 23, 3) := by decide +kernel
theorem dX4_wrap_78 : decode cX4_wrap 78 = .ok (.iload_n 3, 1) := by decide +kernel
theorem dX4_wrap_79 : decode cX4_wrap 79 = .ok (.if_icmp .ge 96, 3) := by decide +kernel
theorem dX4_wrap_82 : decode cX4_wrap 82 = .ok (.aload_n 0, 1) := by decide +kernel
theorem dX4_wrap_83 : decode cX4_wrap 83 = .ok (.getfield 23, 3) := by decide +kernel
theorem dX4_wrap_86 : decode cX4_wrap 86 = .ok (.ifCond .eq 10, 3) := by decide +kernel
theorem dX4_wrap_89 : decode cX4_wrap 89 = .ok (.iload 5, 2) := by decide +kernel
theorem dX4_wrap_91 : decode cX4_wrap 91 = .ok (.iload 4, 2) := by decide +kernel
theorem dX4_wrap_93 : decode cX4_wrap 93 = .ok (.if_icmp .eq 82, 3) := by decide +kernel
theorem dX4_wrap_96 : decode cX4_wrap 96 = .ok (.aload_n 0, 1) := by decide +kernel
theorem dX4_wrap_97 : decode cX4_wrap 97 = .ok (.getfield 14, 3) := by decide +kernel
theorem dX4_wrap_100 : decode cX4_wrap 100 = .ok (.aload_n 0, 1) := by decide +kernel
theorem dX4_wrap_101 : decode cX4_wrap 101 = .ok (.getfield 23, 3) := by decide +kernel
theorem dX4_wrap_104 : decode cX4_wrap 104 = .ok (.iload 5, 2) := by decide +kernel
theorem dX4_wrap_106 : decode cX4_wrap 106 = .ok (.invokevirtual 31, 3) := by decide +kernel
theorem dX4_wrap_109 : decode cX4_wrap 109 = .ok (.iload 5, 2) := by decide +kernel
theorem dX4_wrap_111 : decode cX4_wrap 111 = .ok (.istore 6, 2) := by decide +kernel
theorem dX4_wrap_113 : decode cX4_wrap 113 = .ok (.iconst 0, 1) := by decide +kernel
theorem dX4_wrap_114 : decode cX4_wrap 114 = .ok (.istore 7, 2) := by decide +kernel
theorem dX4_wrap_116 : decode cX4_wrap 116 = .ok (.iload 7, 2) := by decide +kernel
theorem dX4_wrap_118 : decode cX4_wrap 118 = .ok (.iload_n 3, 1) := by decide +kernel
theorem dX4_wrap_119 : decode cX4_wrap 119 = .ok (.if_icmp .ge 39, 3) := by decide +kernel
theorem dX4_wrap_122 : decode cX4_wrap 122 = .ok (.iload 5, 2) := by decide +kernel
theorem dX4_wrap_124 : decode cX4_wrap 124 = .ok (.iload 6, 2) := by decide +kernel
theorem dX4_wrap_126 : decode cX4_wrap 126 = .ok (.aload_n 0, 1) := by decide +kernel
theorem dX4_wrap_127 : decode cX4_wrap 127 = .ok (.getfield 20, 3) := by decide +kernel
theorem dX4_wrap_130 : decode cX4_wrap 130 = .ok (.iload 7, 2) := by decide +kernel
theorem dX4_wrap_132 : decode cX4_wrap 132 = .ok (.invokevirtual 27, 3) := by decide +kernel
theorem dX4_wrap_135 : decode cX4_wrap 135 = .ok (.invokestatic 40, 3) := by decide +kernel
theorem dX4_wrap_138 : decode cX4_wrap 138 = .ok (.ifCond .eq 14, 3) := by decide +kernel
theorem dX4_wrap_141 : decode cX4_wrap 141 = .ok (.aload_n 0, 1) := by decide +kernel
theorem dX4_wrap_142 : decode cX4_wrap 142 = .ok (.getfield 20, 3) := by decide +kernel
theorem dX4_wrap_145 : decode cX4_wrap 145 = .ok (.iload 7, 2) := by decide +kernel
theorem dX4_wrap_147 : decode cX4_wrap 147 = .ok (.invokevirtual 27, 3) := by decide +kernel
theorem dX4_wrap_150 : decode cX4_wrap 150 = .ok (.istore 6, 2) := by decide +kernel
theorem dX4_wrap_152 : decode cX4_wrap 152 = .ok (.iinc 7 1, 3) := by decide +kernel
theorem dX4_wrap_155 : decode cX4_wrap 155 = .ok (.goto (-39), 3) := by decide +kernel
theorem dX4_wrap_158 : decode cX4_wrap 158 = .ok (.iload 6, 2) := by decide +kernel
theorem dX4_wrap_160 : decode cX4_wrap 160 = .ok (.istore 5, 2) := by decide +kernel
theorem dX4_wrap_162 : decode cX4_wrap 162 = .ok (.aload_n 0, 1) := by decide +kernel
theorem dX4_wrap_163 : decode cX4_wrap 163 = .ok (.dup, 1) := by decide +kernel
theorem dX4_wrap_164 : decode cX4_wrap 164 = .ok (.getfield 23, 3) := by decide +kernel
theorem dX4_wrap_167 : decode cX4_wrap 167 = .ok (.iconst 1, 1) := by decide +kernel
theorem dX4_wrap_168 : decode cX4_wrap 168 = .ok (.iadd, 1) := by decide +kernel
theorem dX4_wrap_169 : decode cX4_wrap 169 = .ok (.putfield 23, 3) := by decide +kernel
theorem dX4_wrap_172 : decode cX4_wrap 172 = .ok (.goto (-98), 3) := by decide +kernel
theorem dX4_wrap_175 : decode cX4_wrap 175 = .ok (.aload_n 0, 1) := by decide +kernel
theorem dX4_wrap_176 : decode cX4_wrap 176 = .ok (.getfield 14, 3) := by decide +kernel
theorem dX4_wrap_179 : decode cX4_wrap 179 = .ok (.aload_n 0, 1) := by decide +kernel
theorem dX4_wrap_180 : decode cX4_wrap 180 = .ok (.getfield 23, 3) := by decide +kernel
theorem dX4_wrap_183 : decode cX4_wrap 183 = .ok (.iload 4, 2) := by decide +kernel
theorem dX4_wrap_185 : decode cX4_wrap 185 = .ok (.invokevirtual 31, 3) := by decide +kernel
theorem dX4_wrap_188 : decode cX4_wrap 188 = .ok (.return_, 1) := by decide +kernel
theorem dX4_isFurtherOut_0 : decode cX4_isFurtherOut 0 = .ok (.iload_n 1, 1) := by decide +kernel
theorem dX4_isFurtherOut_1 : decode cX4_isFurtherOut 1 = .ok (.bipush 20, 2) := by decide +kernel
theorem dX4_isFurtherOut_3 : decode cX4_isFurtherOut 3 = .ok (.irem, 1) := by decide +kernel
theorem dX4_isFurtherOut_4 : decode cX4_isFurtherOut 4 = .ok (.iload_n 0, 1) := by decide +kernel
theorem dX4_isFurtherOut_5 : decode cX4_isFurtherOut 5 = .ok (.bipush 20, 2) := by decide +kernel
theorem dX4_isFurtherOut_7 : decode cX4_isFurtherOut 7 = .ok (.irem, 1) := by decide +kernel
theorem dX4_isFurtherOut_8 : decode cX4_isFurtherOut 8 = .ok (.isub, 1) := by decide +kernel
theorem dX4_isFurtherOut_9 : decode cX4_isFurtherOut 9 = .ok (.istore_n 3, 1) := by decide +kernel
theorem dX4_isFurtherOut_10 : decode cX4_isFurtherOut 10 = .ok (.iload_n 1, 1) := by decide +kernel
theorem dX4_isFurtherOut_11 : decode cX4_isFurtherOut 11 = .ok (.bipush 20, 2) := by decide +kernel
theorem dX4_isFurtherOut_13 : decode cX4_isFurtherOut 13 = .ok (.idiv, 1) := by decide +kernel
theorem dX4_isFurtherOut_14 : decode cX4_isFurtherOut 14 = .ok (.iload_n 0, 1) := by decide +kernel
theorem dX4_isFurtherOut_15 : decode cX4_isFurtherOut 15 = .ok (.bipush 20, 2) := by decide +kernel
theorem dX4_isFurtherOut_17 : decode cX4_isFurtherOut 17 = .ok (.idiv, 1) := by decide +kernel
theorem dX4_isFurtherOut_18 : decode cX4_isFurtherOut 18 = .ok (.isub, 1) := by decide +kernel
theorem dX4_isFurtherOut_19 : decode cX4_isFurtherOut 19 = .ok (.istore 4, 2) := by decide +kernel
theorem dX4_isFurtherOut_21 : decode cX4_isFurtherOut 21 = .ok (.iload_n 2, 1) := by decide +kernel
theorem dX4_isFurtherOut_22 : decode cX4_isFurtherOut 22 = .ok (.bipush 20, 2) := by decide +kernel
theorem dX4_isFurtherOut_24 : decode cX4_isFurtherOut 24 = .ok (.irem, 1) := by decide +kernel
theorem dX4_isFurtherOut_25 : decode cX4_isFurtherOut 25 = .ok (.iload_n 0, 1) := by decide +kernel
theorem dX4_isFurtherOut_26 : decode cX4_isFurtherOut 26 = .ok (.bipush 20, 2) := by decide +kernel
theorem dX4_isFurtherOut_28 : decode cX4_isFurtherOut 28 = .ok (.irem, 1) := by decide +kernel
theorem dX4_isFurtherOut_29 : decode cX4_isFurtherOut 29 = .ok (.isub, 1) := by decide +kernel
theorem dX4_isFurtherOut_30 : decode cX4_isFurtherOut 30 = .ok (.istore 5, 2) := by decide +kernel
theorem dX4_isFurtherOut_32 : decode cX4_isFurtherOut 32 = .ok (.iload_n 2, 1) := by decide +kernel
theorem dX4_isFurtherOut_33 : decode cX4_isFurtherOut 33 = .ok (.bipush 20, 2) := by decide +kernel
theorem dX4_isFurtherOut_35 : decode cX4_isFurtherOut 35 = .ok (.idiv, 1) := by decide +kernel
theorem dX4_isFurtherOut_36 : decode cX4_isFurtherOut 36 = .ok (.iload_n 0, 1) := by decide +kernel
theorem dX4_isFurtherOut_37 : decode cX4_isFurtherOut 37 = .ok (.bipush 20, 2) := by decide +kernel
theorem dX4_isFurtherOut_39 : decode cX4_isFurtherOut 39 = .ok (.idiv, 1) := by decide +kernel
theorem dX4_isFurtherOut_40 : decode cX4_isFurtherOut 40 = .ok (.isub, 1) := by decide +kernel
theorem dX4_isFurtherOut_41 : decode cX4_isFurtherOut 41 = .ok (.istore 6, 2) := by decide +kernel
theorem dX4_isFurtherOut_43 : decode cX4_isFurtherOut 43 = .ok (.iload_n 3, 1) := by decide +kernel
theorem dX4_isFurtherOut_44 : decode cX4_isFurtherOut 44 = .ok (.iload 6, 2) := by decide +kernel
theorem dX4_isFurtherOut_46 : decode cX4_isFurtherOut 46 = .ok (.imul, 1) := by decide +kernel
theorem dX4_isFurtherOut_47 : decode cX4_isFurtherOut 47 = .ok (.iload 4, 2) := by decide +kernel
theorem dX4_isFurtherOut_49 : decode cX4_isFurtherOut 49 = .ok (.iload 5, 2) := by decide +kernel
theorem dX4_isFurtherOut_51 : decode cX4_isFurtherOut 51 = .ok (.imul, 1) := by decide +kernel
theorem dX4_isFurtherOut_52 : decode cX4_isFurtherOut 52 = .ok (.isub, 1) := by decide +kernel
theorem dX4_isFurtherOut_53 : decode cX4_isFurtherOut 53 = .ok (.istore 7, 2) := by decide +kernel
theorem dX4_isFurtherOut_55 : decode cX4_isFurtherOut 55 = .ok (.iload 7, 2) := by decide +kernel
theorem dX4_isFurtherOut_57 : decode cX4_isFurtherOut 57 = .ok (.ifCond .lt 31, 3) := by decide +kernel
theorem dX4_isFurtherOut_60 : decode cX4_isFurtherOut 60 = .ok (.iload 7, 2) := by decide +kernel
theorem dX4_isFurtherOut_62 : decode cX4_isFurtherOut 62 = .ok (.ifCond .ne 30, 3) := by decide +kernel
theorem dX4_isFurtherOut_65 : decode cX4_isFurtherOut 65 = .ok (.iload 5, 2) := by decide +kernel
theorem dX4_isFurtherOut_67 : decode cX4_isFurtherOut 67 = .ok (.iload 5, 2) := by decide +kernel
theorem dX4_isFurtherOut_69 : decode cX4_isFurtherOut 69 = .ok (.imul, 1) := by decide +kernel
theorem dX4_isFurtherOut_70 : decode cX4_isFurtherOut 70 = .ok (.iload 6, 2) := by decide +kernel
theorem dX4_isFurtherOut_72 : decode cX4_isFurtherOut 72 = .ok (.iload 6, 2) := by decide +kernel
theorem dX4_isFurtherOut_74 : decode cX4_isFurtherOut 74 = .ok (.imul, 1) := by decide +kernel
theorem dX4_isFurtherOut_75 : decode cX4_isFurtherOut 75 = .ok (.iadd, 1) := by decide +kernel
theorem dX4_isFurtherOut_76 : decode cX4_isFurtherOut 76 = .ok (.iload_n 3, 1) := by decide +kernel
theorem dX4_isFurtherOut_77 : decode cX4_isFurtherOut 77 = .ok (.iload_n 3, 1) := by decide +kernel
theorem dX4_isFurtherOut_78 : decode cX4_isFurtherOut 78 = .ok (.imul, 1) := by decide +kernel
theorem dX4_isFurtherOut_79 : decode cX4_isFurtherOut 79 = .ok (.iload 4, 2) := by decide +kernel
theorem dX4_isFurtherOut_81 : decode cX4_isFurtherOut 81 = .ok (.iload 4, 2) := by decide +kernel
theorem dX4_isFurtherOut_83 : decode cX4_isFurtherOut 83 = .ok (.imul, 1) := by decide +kernel
theorem dX4_isFurtherOut_84 : decode cX4_isFurtherOut 84 = .ok (.iadd, 1) := by decide +kernel
theorem dX4_isFurtherOut_85 : decode cX4_isFurtherOut 85 = .ok (.if_icmp .le 7, 3) := by decide +kernel
theorem dX4_isFurtherOut_88 : decode cX4_isFurtherOut 88 = .ok (.iconst 1, 1) := by decide +kernel
theorem dX4_isFurtherOut_89 : decode cX4_isFurtherOut 89 = .ok (.goto 4, 3) := by decide +kernel
theorem dX4_isFurtherOut_92 : decode cX4_isFurtherOut 92 = .ok (.iconst 0, 1) := by decide +kernel
theorem dX4_isFurtherOut_93 : decode cX4_isFurtherOut 93 = .ok (.ireturn, 1) := by decide +kernel
theorem dX4_edgeByWay_0 : decode cX4_edgeByWay 0 = .ok (.iload_n 1, 1) := by decide +kernel
theorem dX4_edgeByWay_1 : decode cX4_edgeByWay 1 = .ok (.bipush 20, 2) := by decide +kernel
theorem dX4_edgeByWay_3 : decode cX4_edgeByWay 3 = .ok (.irem, 1) := by decide +kernel
theorem dX4_edgeByWay_4 : decode cX4_edgeByWay 4 = .ok (.iload_n 0, 1) := by decide +kernel
theorem dX4_edgeByWay_5 : decode cX4_edgeByWay 5 = .ok (.bipush 20, 2) := by decide +kernel
theorem dX4_edgeByWay_7 : decode cX4_edgeByWay 7 = .ok (.irem, 1) := by decide +kernel
theorem dX4_edgeByWay_8 : decode cX4_edgeByWay 8 = .ok (.isub, 1) := by decide +kernel
theorem dX4_edgeByWay_9 : decode cX4_edgeByWay 9 = .ok (.iload_n 3, 1) := by decide +kernel
theorem dX4_edgeByWay_10 : decode cX4_edgeByWay 10 = .ok (.iload 4, 2) := by decide +kernel
theorem dX4_edgeByWay_12 : decode cX4_edgeByWay 12 = .ok (.iload_n 0, 1) := by decide +kernel
theorem dX4_edgeByWay_13 : decode cX4_edgeByWay 13 = .ok (.bipush 20, 2) := by decide +kernel
theorem dX4_edgeByWay_15 : decode cX4_edgeByWay 15 = .ok (.idiv, 1) := by decide +kernel
theorem dX4_edgeByWay_16 : decode cX4_edgeByWay 16 = .ok (.imul, 1) := by decide +kernel
theorem dX4_edgeByWay_17 : decode cX4_edgeByWay 17 = .ok (.isub, 1) := by decide +kernel
theorem dX4_edgeByWay_18 : decode cX4_edgeByWay 18 = .ok (.imul, 1) := by decide +kernel
theorem dX4_edgeByWay_19 : decode cX4_edgeByWay 19 = .ok (.iload_n 1, 1) := by decide +kernel
theorem dX4_edgeByWay_20 : decode cX4_edgeByWay 20 = .ok (.bipush 20, 2) := by decide +kernel
theorem dX4_edgeByWay_22 : decode cX4_edgeByWay 22 = .ok (.idiv, 1) := by decide +kernel
theorem dX4_edgeByWay_23 : decode cX4_edgeByWay 23 = .ok (.iload_n 0, 1) := by decide +kernel
theorem dX4_edgeByWay_24 : decode cX4_edgeByWay 24 = .ok (.bipush 20, 2) := by decide +kernel
theorem dX4_edgeByWay_26 : decode cX4_edgeByWay 26 = .ok (.idiv, 1) := by decide +kernel
theorem dX4_edgeByWay_27 : decode cX4_edgeByWay 27 = .ok (.isub, 1) := by decide +kernel
theorem dX4_edgeByWay_28 : decode cX4_edgeByWay 28 = .ok (.iload_n 2, 1) := by decide +kernel
theorem dX4_edgeByWay_29 : decode cX4_edgeByWay 29 = .ok (.iload 4, 2) := by decide +kernel
theorem dX4_edgeByWay_31 : decode cX4_edgeByWay 31 = .ok (.iload_n 0, 1) := by decide +kernel
theorem dX4_edgeByWay_32 : decode cX4_edgeByWay 32 = .ok (.bipush 20, 2) := by decide +kernel
theorem dX4_edgeByWay_34 : decode cX4_edgeByWay 34 = .ok (.irem, 1) := by decide +kernel
theorem dX4_edgeByWay_35 : decode cX4_edgeByWay 35 = .ok (.imul, 1) := by decide +kernel
theorem dX4_edgeByWay_36 : decode cX4_edgeByWay 36 = .ok (.isub, 1) := by decide +kernel
theorem dX4_edgeByWay_37 : decode cX4_edgeByWay 37 = .ok (.imul, 1) := by decide +kernel
theorem dX4_edgeByWay_38 : decode cX4_edgeByWay 38 = .ok (.isub, 1) := by decide +kernel
theorem dX4_edgeByWay_39 : decode cX4_edgeByWay 39 = .ok (.ireturn, 1) := by decide +kernel
theorem dX4_squareOfEdge_0 : decode cX4_squareOfEdge 0 = .ok (.iload_n 1, 1) := by decide +kernel
theorem dX4_squareOfEdge_1 : decode cX4_squareOfEdge 1 = .ok (.bipush 20, 2) := by decide +kernel
theorem dX4_squareOfEdge_3 : decode cX4_squareOfEdge 3 = .ok (.irem, 1) := by decide +kernel
theorem dX4_squareOfEdge_4 : decode cX4_squareOfEdge 4 = .ok (.iload_n 0, 1) := by decide +kernel
theorem dX4_squareOfEdge_5 : decode cX4_squareOfEdge 5 = .ok (.bipush 20, 2) := by decide +kernel
theorem dX4_squareOfEdge_7 : decode cX4_squareOfEdge 7 = .ok (.irem, 1) := by decide +kernel
theorem dX4_squareOfEdge_8 : decode cX4_squareOfEdge 8 = .ok (.isub, 1) := by decide +kernel
theorem dX4_squareOfEdge_9 : decode cX4_squareOfEdge 9 = .ok (.istore_n 2, 1) := by decide +kernel
theorem dX4_squareOfEdge_10 : decode cX4_squareOfEdge 10 = .ok (.iload_n 1, 1) := by decide +kernel
theorem dX4_squareOfEdge_11 : decode cX4_squareOfEdge 11 = .ok (.bipush 20, 2) := by decide +kernel
theorem dX4_squareOfEdge_13 : decode cX4_squareOfEdge 13 = .ok (.idiv, 1) := by decide +kernel
theorem dX4_squareOfEdge_14 : decode cX4_squareOfEdge 14 = .ok (.iload_n 0, 1) := by decide +kernel
theorem dX4_squareOfEdge_15 : decode cX4_squareOfEdge 15 = .ok (.bipush 20, 2) := by decide +kernel
theorem dX4_squareOfEdge_17 : decode cX4_squareOfEdge 17 = .ok (.idiv, 1) := by decide +kernel
theorem dX4_squareOfEdge_18 : decode cX4_squareOfEdge 18 = .ok (.isub, 1) := by decide +kernel
theorem dX4_squareOfEdge_19 : decode cX4_squareOfEdge 19 = .ok (.istore_n 3, 1) := by decide +kernel
theorem dX4_squareOfEdge_20 : decode cX4_squareOfEdge 20 = .ok (.iload_n 2, 1) := by decide +kernel
theorem dX4_squareOfEdge_21 : decode cX4_squareOfEdge 21 = .ok (.iload_n 2, 1) := by decide +kernel
theorem dX4_squareOfEdge_22 : decode cX4_squareOfEdge 22 = .ok (.imul, 1) := by decide +kernel
theorem dX4_squareOfEdge_23 : decode cX4_squareOfEdge 23 = .ok (.iload_n 3, 1) := by decide +kernel
theorem dX4_squareOfEdge_24 : decode cX4_squareOfEdge 24 = .ok (.iload_n 3, 1) := by decide +kernel
theorem dX4_squareOfEdge_25 : decode cX4_squareOfEdge 25 = .ok (.imul, 1) := by decide +kernel
theorem dX4_squareOfEdge_26 : decode cX4_squareOfEdge 26 = .ok (.iadd, 1) := by decide +kernel
theorem dX4_squareOfEdge_27 : decode cX4_squareOfEdge 27 = .ok (.ireturn, 1) := by decide +kernel
theorem dX4_holds_0 : decode cX4_holds 0 = .ok (.ldc 46, 2) := by decide +kernel
theorem dX4_holds_2 : decode cX4_holds 2 = .ok (.istore 4, 2) := by decide +kernel
theorem dX4_holds_4 : decode cX4_holds 4 = .ok (.ldc 47, 2) := by decide +kernel
theorem dX4_holds_6 : decode cX4_holds 6 = .ok (.istore 5, 2) := by decide +kernel
theorem dX4_holds_8 : decode cX4_holds 8 = .ok (.ldc 46, 2) := by decide +kernel
theorem dX4_holds_10 : decode cX4_holds 10 = .ok (.istore 6, 2) := by decide +kernel
theorem dX4_holds_12 : decode cX4_holds 12 = .ok (.ldc 47, 2) := by decide +kernel
theorem dX4_holds_14 : decode cX4_holds 14 = .ok (.istore 7, 2) := by decide +kernel
theorem dX4_holds_16 : decode cX4_holds 16 = .ok (.iconst 0, 1) := by decide +kernel
theorem dX4_holds_17 : decode cX4_holds 17 = .ok (.istore 8, 2) := by decide +kernel
theorem dX4_holds_19 : decode cX4_holds 19 = .ok (.iload 8, 2) := by decide +kernel
theorem dX4_holds_21 : decode cX4_holds 21 = .ok (.aload_n 0, 1) := by decide +kernel
theorem dX4_holds_22 : decode cX4_holds 22 = .ok (.getfield 23, 3) := by decide +kernel
theorem dX4_holds_25 : decode cX4_holds 25 = .ok (.if_icmp .ge 100, 3) := by decide +kernel
theorem dX4_holds_28 : decode cX4_holds 28 = .ok (.aload_n 0, 1) := by decide +kernel
theorem dX4_holds_29 : decode cX4_holds 29 = .ok (.getfield 14, 3) := by decide +kernel
theorem dX4_holds_32 : decode cX4_holds 32 = .ok (.iload 8, 2) := by decide +kernel
theorem dX4_holds_34 : decode cX4_holds 34 = .ok (.invokevirtual 27, 3) := by decide +kernel
theorem dX4_holds_37 : decode cX4_holds 37 = .ok (.istore 9, 2) := by decide +kernel
theorem dX4_holds_39 : decode cX4_holds 39 = .ok (.iload 9, 2) := by decide +kernel
theorem dX4_holds_41 : decode cX4_holds 41 = .ok (.aload_n 0, 1) := by decide +kernel
theorem dX4_holds_42 : decode cX4_holds 42 = .ok (.getfield 14, 3) := by decide +kernel
theorem dX4_holds_45 : decode cX4_holds 45 = .ok (.iload 8, 2) := by decide +kernel
theorem dX4_holds_47 : decode cX4_holds 47 = .ok (.iconst 1, 1) := by decide +kernel
theorem dX4_holds_48 : decode cX4_holds 48 = .ok (.iadd, 1) := by decide +kernel
theorem dX4_holds_49 : decode cX4_holds 49 = .ok (.invokevirtual 27, 3) := by decide +kernel
theorem dX4_holds_52 : decode cX4_holds 52 = .ok (.iload_n 1, 1) := by decide +kernel
theorem dX4_holds_53 : decode cX4_holds 53 = .ok (.iload_n 2, 1) := by decide +kernel
theorem dX4_holds_54 : decode cX4_holds 54 = .ok (.iload_n 3, 1) := by decide +kernel
theorem dX4_holds_55 : decode cX4_holds 55 = .ok (.invokestatic 48, 3) := by decide +kernel
theorem dX4_holds_58 : decode cX4_holds 58 = .ok (.ifCond .ge 5, 3) := by decide +kernel
theorem dX4_holds_61 : decode cX4_holds 61 = .ok (.iconst 0, 1) := by decide +kernel
theorem dX4_holds_62 : decode cX4_holds 62 = .ok (.ireturn, 1) := by decide +kernel
theorem dX4_holds_63 : decode cX4_holds 63 = .ok (.iload 4, 2) := by decide +kernel
theorem dX4_holds_65 : decode cX4_holds 65 = .ok (.iload_n 3, 1) := by decide +kernel
theorem dX4_holds_66 : decode cX4_holds 66 = .ok (.iload 9, 2) := by decide +kernel
theorem dX4_holds_68 : decode cX4_holds 68 = .ok (.bipush 20, 2) := by decide +kernel
theorem dX4_holds_70 : decode cX4_holds 70 = .ok (.irem, 1) := by decide +kernel
theorem dX4_holds_71 : decode cX4_holds 71 = .ok (.imul, 1) := by decide +kernel
theorem dX4_holds_72 : decode cX4_holds 72 = .ok (.invokestatic 34, 3) := by decide +kernel
theorem dX4_holds_75 : decode cX4_holds 75 = .ok (.istore 4, 2) := by decide +kernel
theorem dX4_holds_77 : decode cX4_holds 77 = .ok (.iload 5, 2) := by decide +kernel
theorem dX4_holds_79 : decode cX4_holds 79 = .ok (.iload_n 3, 1) := by decide +kernel
theorem dX4_holds_80 : decode cX4_holds 80 = .ok (.iload 9, 2) := by decide +kernel
theorem dX4_holds_82 : decode cX4_holds 82 = .ok (.bipush 20, 2) := by decide +kernel
theorem dX4_holds_84 : decode cX4_holds 84 = .ok (.irem, 1) := by decide +kernel
theorem dX4_holds_85 : decode cX4_holds 85 = .ok (.imul, 1) := by decide +kernel
theorem dX4_holds_86 : decode cX4_holds 86 = .ok (.invokestatic 52, 3) := by decide +kernel
theorem dX4_holds_89 : decode cX4_holds 89 = .ok (.istore 5, 2) := by decide +kernel
theorem dX4_holds_91 : decode cX4_holds 91 = .ok (.iload 6, 2) := by decide +kernel
theorem dX4_holds_93 : decode cX4_holds 93 = .ok (.iload_n 3, 1) := by decide +kernel
theorem dX4_holds_94 : decode cX4_holds 94 = .ok (.iload 9, 2) := by decide +kernel
theorem dX4_holds_96 : decode cX4_holds 96 = .ok (.bipush 20, 2) := by decide +kernel
theorem dX4_holds_98 : decode cX4_holds 98 = .ok (.idiv, 1) := by decide +kernel
theorem dX4_holds_99 : decode cX4_holds 99 = .ok (.imul, 1) := by decide +kernel
theorem dX4_holds_100 : decode cX4_holds 100 = .ok (.invokestatic 34, 3) := by decide +kernel
theorem dX4_holds_103 : decode cX4_holds 103 = .ok (.istore 6, 2) := by decide +kernel
theorem dX4_holds_105 : decode cX4_holds 105 = .ok (.iload 7, 2) := by decide +kernel
theorem dX4_holds_107 : decode cX4_holds 107 = .ok (.iload_n 3, 1) := by decide +kernel
theorem dX4_holds_108 : decode cX4_holds 108 = .ok (.iload 9, 2) := by decide +kernel
theorem dX4_holds_110 : decode cX4_holds 110 = .ok (.bipush 20, 2) := by decide +kernel
theorem dX4_holds_112 : decode cX4_holds 112 = .ok (.idiv, 1) := by decide +kernel
theorem dX4_holds_113 : decode cX4_holds 113 = .ok (.imul, 1) := by decide +kernel
theorem dX4_holds_114 : decode cX4_holds 114 = .ok (.invokestatic 52, 3) := by decide +kernel
theorem dX4_holds_117 : decode cX4_holds 117 = .ok (.istore 7, 2) := by decide +kernel
theorem dX4_holds_119 : decode cX4_holds 119 = .ok (.iinc 8 1, 3) := by decide +kernel
theorem dX4_holds_122 : decode cX4_holds 122 = .ok (.goto (-103), 3) := by decide +kernel
theorem dX4_holds_125 : decode cX4_holds 125 = .ok (.iload_n 1, 1) := by decide +kernel
theorem dX4_holds_126 : decode cX4_holds 126 = .ok (.iload 4, 2) := by decide +kernel
theorem dX4_holds_128 : decode cX4_holds 128 = .ok (.iload 5, 2) := by decide +kernel
theorem dX4_holds_130 : decode cX4_holds 130 = .ok (.invokestatic 55, 3) := by decide +kernel
theorem dX4_holds_133 : decode cX4_holds 133 = .ok (.ifCond .eq 18, 3) := by decide +kernel
theorem dX4_holds_136 : decode cX4_holds 136 = .ok (.iload_n 2, 1) := by decide +kernel
theorem dX4_holds_137 : decode cX4_holds 137 = .ok (.iload 6, 2) := by decide +kernel
theorem dX4_holds_139 : decode cX4_holds 139 = .ok (.iload 7, 2) := by decide +kernel
theorem dX4_holds_141 : decode cX4_holds 141 = .ok (.invokestatic 55, 3) := by decide +kernel
theorem dX4_holds_144 : decode cX4_holds 144 = .ok (.ifCond .eq 7, 3) := by decide +kernel
theorem dX4_holds_147 : decode cX4_holds 147 = .ok (.iconst 1, 1) := by decide +kernel
theorem dX4_holds_148 : decode cX4_holds 148 = .ok (.goto 4, 3) := by decide +kernel
theorem dX4_holds_151 : decode cX4_holds 151 = .ok (.iconst 0, 1) := by decide +kernel
theorem dX4_holds_152 : decode cX4_holds 152 = .ok (.ireturn, 1) := by decide +kernel
theorem dX4_leastSquare_0 : decode cX4_leastSquare 0 = .ok (.fconst 0, 1) := by decide +kernel
theorem dX4_leastSquare_1 : decode cX4_leastSquare 1 = .ok (.fstore 4, 2) := by decide +kernel
theorem dX4_leastSquare_3 : decode cX4_leastSquare 3 = .ok (.iconst 0, 1) := by decide +kernel
theorem dX4_leastSquare_4 : decode cX4_leastSquare 4 = .ok (.istore 5, 2) := by decide +kernel
theorem dX4_leastSquare_6 : decode cX4_leastSquare 6 = .ok (.iload 5, 2) := by decide +kernel
theorem dX4_leastSquare_8 : decode cX4_leastSquare 8 = .ok (.aload_n 0, 1) := by decide +kernel
theorem dX4_leastSquare_9 : decode cX4_leastSquare 9 = .ok (.getfield 23, 3) := by decide +kernel
theorem dX4_leastSquare_12 : decode cX4_leastSquare 12 = .ok (.if_icmp .ge 102, 3) := by decide +kernel
theorem dX4_leastSquare_15 : decode cX4_leastSquare 15 = .ok (.aload_n 0, 1) := by decide +kernel
theorem dX4_leastSquare_16 : decode cX4_leastSquare 16 = .ok (.getfield 14, 3) := by decide +kernel
theorem dX4_leastSquare_19 : decode cX4_leastSquare 19 = .ok (.iload 5, 2) := by decide +kernel
theorem dX4_leastSquare_21 : decode cX4_leastSquare 21 = .ok (.invokevirtual 27, 3) := by decide +kernel
theorem dX4_leastSquare_24 : decode cX4_leastSquare 24 = .ok (.istore 6, 2) := by decide +kernel
theorem dX4_leastSquare_26 : decode cX4_leastSquare 26 = .ok (.aload_n 0, 1) := by decide +kernel
theorem dX4_leastSquare_27 : decode cX4_leastSquare 27 = .ok (.getfield 14, 3) := by decide +kernel
theorem dX4_leastSquare_30 : decode cX4_leastSquare 30 = .ok (.iload 5, 2) := by decide +kernel
theorem dX4_leastSquare_32 : decode cX4_leastSquare 32 = .ok (.iconst 1, 1) := by decide +kernel
theorem dX4_leastSquare_33 : decode cX4_leastSquare 33 = .ok (.iadd, 1) := by decide +kernel
theorem dX4_leastSquare_34 : decode cX4_leastSquare 34 = .ok (.invokevirtual 27, 3) := by decide +kernel
theorem dX4_leastSquare_37 : decode cX4_leastSquare 37 = .ok (.istore 7, 2) := by decide +kernel
theorem dX4_leastSquare_39 : decode cX4_leastSquare 39 = .ok (.iload 6, 2) := by decide +kernel
theorem dX4_leastSquare_41 : decode cX4_leastSquare 41 = .ok (.iload 7, 2) := by decide +kernel
theorem dX4_leastSquare_43 : decode cX4_leastSquare 43 = .ok (.iload_n 1, 1) := by decide +kernel
theorem dX4_leastSquare_44 : decode cX4_leastSquare 44 = .ok (.iload_n 2, 1) := by decide +kernel
theorem dX4_leastSquare_45 : decode cX4_leastSquare 45 = .ok (.iload_n 3, 1) := by decide +kernel
theorem dX4_leastSquare_46 : decode cX4_leastSquare 46 = .ok (.invokestatic 48, 3) := by decide +kernel
theorem dX4_leastSquare_49 : decode cX4_leastSquare 49 = .ok (.i2l, 1) := by decide +kernel
theorem dX4_leastSquare_50 : decode cX4_leastSquare 50 = .ok (.lstore 8, 2) := by decide +kernel
theorem dX4_leastSquare_52 : decode cX4_leastSquare 52 = .ok (.iload 6, 2) := by decide +kernel
theorem dX4_leastSquare_54 : decode cX4_leastSquare 54 = .ok (.iload 7, 2) := by decide +kernel
theorem dX4_leastSquare_56 : decode cX4_leastSquare 56 = .ok (.invokestatic 58, 3) := by decide +kernel
theorem dX4_leastSquare_59 : decode cX4_leastSquare 59 = .ok (.i2l, 1) := by decide +kernel
theorem dX4_leastSquare_60 : decode cX4_leastSquare 60 = .ok (.iload_n 3, 1) := by decide +kernel
theorem dX4_leastSquare_61 : decode cX4_leastSquare 61 = .ok (.i2l, 1) := by decide +kernel
theorem dX4_leastSquare_62 : decode cX4_leastSquare 62 = .ok (.lmul, 1) := by decide +kernel
theorem dX4_leastSquare_63 : decode cX4_leastSquare 63 = .ok (.iload_n 3, 1) := by decide +kernel
theorem dX4_leastSquare_64 : decode cX4_leastSquare 64 = .ok (.i2l, 1) := by decide +kernel
theorem dX4_leastSquare_65 : decode cX4_leastSquare 65 = .ok (.lmul, 1) := by decide +kernel
theorem dX4_leastSquare_66 : decode cX4_leastSquare 66 = .ok (.lstore 10, 2) := by decide +kernel
theorem dX4_leastSquare_68 : decode cX4_leastSquare 68 = .ok (.lload 10, 2) := by decide +kernel
theorem dX4_leastSquare_70 : decode cX4_leastSquare 70 = .ok (.lconst 0, 1) := by decide +kernel
theorem dX4_leastSquare_71 : decode cX4_leastSquare 71 = .ok (.lcmp, 1) := by decide +kernel
theorem dX4_leastSquare_72 : decode cX4_leastSquare 72 = .ok (.ifCond .gt 7, 3) := by decide +kernel
theorem dX4_leastSquare_75 : decode cX4_leastSquare 75 = .ok (.fconst 0, 1) := by decide +kernel
theorem dX4_leastSquare_76 : decode cX4_leastSquare 76 = .ok (.goto 13, 3) := by decide +kernel
theorem dX4_leastSquare_79 : decode cX4_leastSquare 79 = .ok (.lload 8, 2) := by decide +kernel
theorem dX4_leastSquare_81 : decode cX4_leastSquare 81 = .ok (.lload 8, 2) := by decide +kernel
theorem dX4_leastSquare_83 : decode cX4_leastSquare 83 = .ok (.lmul, 1) := by decide +kernel
theorem dX4_leastSquare_84 : decode cX4_leastSquare 84 = .ok (.l2f, 1) := by decide +kernel
theorem dX4_leastSquare_85 : decode cX4_leastSquare 85 = .ok (.lload 10, 2) := by decide +kernel
theorem dX4_leastSquare_87 : decode cX4_leastSquare 87 = .ok (.l2f, 1) := by decide +kernel
theorem dX4_leastSquare_88 : decode cX4_leastSquare 88 = .ok (.fdiv, 1) := by decide +kernel
theorem dX4_leastSquare_89 : decode cX4_leastSquare 89 = .ok (.fstore 12, 2) := by decide +kernel
theorem dX4_leastSquare_91 : decode cX4_leastSquare 91 = .ok (.iload 5, 2) := by decide +kernel
theorem dX4_leastSquare_93 : decode cX4_leastSquare 93 = .ok (.ifCond .eq 11, 3) := by decide +kernel
theorem dX4_leastSquare_96 : decode cX4_leastSquare 96 = .ok (.fload 12, 2) := by decide +kernel
theorem dX4_leastSquare_98 : decode cX4_leastSquare 98 = .ok (.fload 4, 2) := by decide +kernel
theorem dX4_leastSquare_100 : decode cX4_leastSquare 100 = .ok (.fcmp .g, 1) := by decide +kernel
theorem dX4_leastSquare_101 : decode cX4_leastSquare 101 = .ok (.ifCond .ge 7, 3) := by decide +kernel
theorem dX4_leastSquare_104 : decode cX4_leastSquare 104 = .ok (.fload 12, 2) := by decide +kernel
theorem dX4_leastSquare_106 : decode cX4_leastSquare 106 = .ok (.fstore 4, 2) := by decide +kernel
theorem dX4_leastSquare_108 : decode cX4_leastSquare 108 = .ok (.iinc 5 1, 3) := by decide +kernel
theorem dX4_leastSquare_111 : decode cX4_leastSquare 111 = .ok (.goto (-105), 3) := by decide +kernel
theorem dX4_leastSquare_114 : decode cX4_leastSquare 114 = .ok (.fload 4, 2) := by decide +kernel
theorem dX4_leastSquare_116 : decode cX4_leastSquare 116 = .ok (.freturn, 1) := by decide +kernel
theorem dX5_init_0 : decode cX5_init 0 = .ok (.aload_n 0, 1) := by decide +kernel
theorem dX5_init_1 : decode cX5_init 1 = .ok (.invokespecial 3, 3) := by decide +kernel
theorem dX5_init_4 : decode cX5_init 4 = .ok (.aload_n 0, 1) := by decide +kernel
theorem dX5_init_5 : decode cX5_init 5 = .ok (.new 9, 3) := by decide +kernel
theorem dX5_init_8 : decode cX5_init 8 = .ok (.dup, 1) := by decide +kernel
theorem dX5_init_9 : decode cX5_init 9 = .ok (.sipush 400, 3) := by decide +kernel
theorem dX5_init_12 : decode cX5_init 12 = .ok (.iconst 0, 1) := by decide +kernel
theorem dX5_init_13 : decode cX5_init 13 = .ok (.invokespecial 11, 3) := by decide +kernel
theorem dX5_init_16 : decode cX5_init 16 = .ok (.putfield 14, 3) := by decide +kernel
theorem dX5_init_19 : decode cX5_init 19 = .ok (.aload_n 0, 1) := by decide +kernel
theorem dX5_init_20 : decode cX5_init 20 = .ok (.new 9, 3) := by decide +kernel
theorem dX5_init_23 : decode cX5_init 23 = .ok (.dup, 1) := by decide +kernel
theorem dX5_init_24 : decode cX5_init 24 = .ok (.sipush 400, 3) := by decide +kernel
theorem dX5_init_27 : decode cX5_init 27 = .ok (.bipush 99, 2) := by decide +kernel
theorem dX5_init_29 : decode cX5_init 29 = .ok (.invokespecial 11, 3) := by decide +kernel
theorem dX5_init_32 : decode cX5_init 32 = .ok (.putfield 20, 3) := by decide +kernel
theorem dX5_init_35 : decode cX5_init 35 = .ok (.aload_n 0, 1) := by decide +kernel
theorem dX5_init_36 : decode cX5_init 36 = .ok (.new 9, 3) := by decide +kernel
theorem dX5_init_39 : decode cX5_init 39 = .ok (.dup, 1) := by decide +kernel
theorem dX5_init_40 : decode cX5_init 40 = .ok (.sipush 400, 3) := by decide +kernel
theorem dX5_init_43 : decode cX5_init 43 = .ok (.bipush 9, 2) := by decide +kernel
theorem dX5_init_45 : decode cX5_init 45 = .ok (.invokespecial 11, 3) := by decide +kernel
theorem dX5_init_48 : decode cX5_init 48 = .ok (.putfield 23, 3) := by decide +kernel
theorem dX5_init_51 : decode cX5_init 51 = .ok (.aload_n 0, 1) := by decide +kernel
theorem dX5_init_52 : decode cX5_init 52 = .ok (.new 9, 3) := by decide +kernel
theorem dX5_init_55 : decode cX5_init 55 = .ok (.dup, 1) := by decide +kernel
theorem dX5_init_56 : decode cX5_init 56 = .ok (.sipush 400, 3) := by decide +kernel
theorem dX5_init_59 : decode cX5_init 59 = .ok (.iconst 0, 1) := by decide +kernel
theorem dX5_init_60 : decode cX5_init 60 = .ok (.invokespecial 11, 3) := by decide +kernel
theorem dX5_init_63 : decode cX5_init 63 = .ok (.putfield 26, 3) := by decide +kernel
theorem dX5_init_66 : decode cX5_init 66 = .ok (.return_, 1) := by decide +kernel
theorem dX5_learn_0 : decode cX5_learn 0 = .ok (.aload_n 0, 1) := by decide +kernel
theorem dX5_learn_1 : decode cX5_learn 1 = .ok (.getfield 26, 3) := by decide +kernel
theorem dX5_learn_4 : decode cX5_learn 4 = .ok (.iload_n 1, 1) := by decide +kernel
theorem dX5_learn_5 : decode cX5_learn 5 = .ok (.aload_n 0, 1) := by decide +kernel
theorem dX5_learn_6 : decode cX5_learn 6 = .ok (.getfield 14, 3) := by decide +kernel
theorem dX5_learn_9 : decode cX5_learn 9 = .ok (.iload_n 1, 1) := by decide +kernel
theorem dX5_learn_10 : decode cX5_learn 10 = .ok (.invokevirtual 29, 3) := by decide +kernel
theorem dX5_learn_13 : decode cX5_learn 13 = .ok (.invokevirtual 33, 3) := by decide +kernel
theorem dX5_learn_16 : decode cX5_learn 16 = .ok (.return_, 1) := by decide +kernel
theorem dX5_sag_0 : decode cX5_sag 0 = .ok (.aload_n 0, 1) := by decide +kernel
theorem dX5_sag_1 : decode cX5_sag 1 = .ok (.getfield 14, 3) := by decide +kernel
theorem dX5_sag_4 : decode cX5_sag 4 = .ok (.iload_n 1, 1) := by decide +kernel
theorem dX5_sag_5 : decode cX5_sag 5 = .ok (.iconst 0, 1) := by decide +kernel
theorem dX5_sag_6 : decode cX5_sag 6 = .ok (.aload_n 0, 1) := by decide +kernel
theorem dX5_sag_7 : decode cX5_sag 7 = .ok (.getfield 14, 3) := by decide +kernel
theorem dX5_sag_10 : decode cX5_sag 10 = .ok (.iload_n 1, 1) := by decide +kernel
theorem dX5_sag_11 : decode cX5_sag 11 = .ok (.invokevirtual 29, 3) := by decide +kernel
theorem dX5_sag_14 : decode cX5_sag 14 = .ok (.iconst 1, 1) := by decide +kernel
theorem dX5_sag_15 : decode cX5_sag 15 = .ok (.isub, 1) := by decide +kernel
theorem dX5_sag_16 : decode cX5_sag 16 = .ok (.invokestatic 36, 3) := by decide +kernel
theorem dX5_sag_19 : decode cX5_sag 19 = .ok (.invokevirtual 33, 3) := by decide +kernel
theorem dX5_sag_22 : decode cX5_sag 22 = .ok (.aload_n 0, 1) := by decide +kernel
theorem dX5_sag_23 : decode cX5_sag 23 = .ok (.iload_n 1, 1) := by decide +kernel
theorem dX5_sag_24 : decode cX5_sag 24 = .ok (.invokevirtual 42, 3) := by decide +kernel
theorem dX5_sag_27 : decode cX5_sag 27 = .ok (.return_, 1) := by decide +kernel
theorem dX5_slipFrom_0 : decode cX5_slipFrom 0 = .ok (.aload_n 0, 1) := by decide +kernel
theorem dX5_slipFrom_1 : decode cX5_slipFrom 1 = .ok (.getfield 14, 3) := by decide +kernel
theorem dX5_slipFrom_4 : decode cX5_slipFrom 4 = .ok (.iload_n 1, 1) := by decide +kernel
theorem dX5_slipFrom_5 : decode cX5_slipFrom 5 = .ok (.invokevirtual 29, 3) := by decide +kernel
theorem dX5_slipFrom_8 : decode cX5_slipFrom 8 = .ok (.aload_n 0, 1) := by decide +kernel
theorem dX5_slipFrom_9 : decode cX5_slipFrom 9 = .ok (.getfield 23, 3) := by decide +kernel
theorem dX5_slipFrom_12 : decode cX5_slipFrom 12 = .ok (.iload_n 1, 1) := by decide +kernel
theorem dX5_slipFrom_13 : decode cX5_slipFrom 13 = .ok (.invokevirtual 29, 3) := by decide +kernel
theorem dX5_slipFrom_16 : decode cX5_slipFrom 16 = .ok (.isub, 1) := by decide +kernel
theorem dX5_slipFrom_17 : decode cX5_slipFrom 17 = .ok (.istore_n 2, 1) := by decide +kernel
theorem dX5_slipFrom_18 : decode cX5_slipFrom 18 = .ok (.iconst (-1), 1) := by decide +kernel
theorem dX5_slipFrom_19 : decode cX5_slipFrom 19 = .ok (.istore_n 3, 1) := by decide +kernel
theorem dX5_slipFrom_20 : decode cX5_slipFrom 20 = .ok (.iconst 0, 1) := by decide +kernel
theorem dX5_slipFrom_21 : decode cX5_slipFrom 21 = .ok (.istore 4, 2) := by decide +kernel
theorem dX5_slipFrom_23 : decode cX5_slipFrom 23 = .ok (.iload 4, 2) := by decide +kernel
theorem dX5_slipFrom_25 : decode cX5_slipFrom 25 = .ok (.iconst 4, 1) := by decide +kernel
theorem dX5_slipFrom_26 : decode cX5_slipFrom 26 = .ok (.if_icmp .ge 49, 3) := by decide +kernel
theorem dX5_slipFrom_29 : decode cX5_slipFrom 29 = .ok (.iload_n 1, 1) := by decide +kernel
theorem dX5_slipFrom_30 : decode cX5_slipFrom 30 = .ok (.iload 4, 2) := by decide +kernel
theorem dX5_slipFrom_32 : decode cX5_slipFrom 32 = .ok (.invokestatic 46, 3) := by decide +kernel
theorem dX5_slipFrom_35 : decode cX5_slipFrom 35 = .ok (.istore 5, 2) := by decide +kernel
theorem dX5_slipFrom_37 : decode cX5_slipFrom 37 = .ok (.iload 5, 2) := by decide +kernel
theorem dX5_slipFrom_39 : decode cX5_slipFrom 39 = .ok (.iconst (-1), 1) := by decide +kernel
theorem dX5_slipFrom_40 : decode cX5_slipFrom 40 = .ok (.if_icmp .eq 29, 3) := by decide +kernel
theorem dX5_slipFrom_43 : decode cX5_slipFrom 43 = .ok (.aload_n 0, 1) := by decide +kernel
theorem dX5_slipFrom_44 : decode cX5_slipFrom 44 = .ok (.getfield 14, 3) := by decide +kernel
theorem dX5_slipFrom_47 : decode cX5_slipFrom 47 = .ok (.iload 5, 2) := by decide +kernel
theorem dX5_slipFrom_49 : decode cX5_slipFrom 49 = .ok (.invokevirtual 29, 3) := by decide +kernel
theorem dX5_slipFrom_52 : decode cX5_slipFrom 52 = .ok (.iload_n 2, 1) := by decide +kernel
theorem dX5_slipFrom_53 : decode cX5_slipFrom 53 = .ok (.if_icmp .ge 16, 3) := by decide +kernel
theorem dX5_slipFrom_56 : decode cX5_slipFrom 56 = .ok (.aload_n 0, 1) := by decide +kernel
theorem dX5_slipFrom_57 : decode cX5_slipFrom 57 = .ok (.getfield 14, 3) := by decide +kernel
theorem dX5_slipFrom_60 : decode cX5_slipFrom 60 = .ok (.iload 5, 2) := by decide +kernel
theorem dX5_slipFrom_62 : decode cX5_slipFrom 62 = .ok (.invokevirtual 29, 3) := by decide +kernel
theorem dX5_slipFrom_65 : decode cX5_slipFrom 65 = .ok (.istore_n 2, 1) := by decide +kernel
theorem dX5_slipFrom_66 : decode cX5_slipFrom 66 = .ok (.iload 5, 2) := by decide +kernel
theorem dX5_slipFrom_68 : decode cX5_slipFrom 68 = .ok (.istore_n 3, 1) := by decide +kernel
theorem dX5_slipFrom_69 : decode cX5_slipFrom 69 = .ok (.iinc 4 1, 3) := by decide +kernel
theorem dX5_slipFrom_72 : decode cX5_slipFrom 72 = .ok (.goto (-49), 3) := by decide +kernel
theorem dX5_slipFrom_75 : decode cX5_slipFrom 75 = .ok (.iload_n 3, 1) := by decide +kernel
theorem dX5_slipFrom_76 : decode cX5_slipFrom 76 = .ok (.ireturn, 1) := by decide +kernel
theorem dX5_neighbour_0 : decode cX5_neighbour 0 = .ok (.iload_n 0, 1) := by decide +kernel
theorem dX5_neighbour_1 : decode cX5_neighbour 1 = .ok (.invokestatic 49, 3) := by decide +kernel
theorem dX5_neighbour_4 : decode cX5_neighbour 4 = .ok (.istore_n 2, 1) := by decide +kernel
theorem dX5_neighbour_5 : decode cX5_neighbour 5 = .ok (.iload_n 0, 1) := by decide +kernel
theorem dX5_neighbour_6 : decode cX5_neighbour 6 = .ok (.invokestatic 52, 3) := by decide +kernel
theorem dX5_neighbour_9 : decode cX5_neighbour 9 = .ok (.istore_n 3, 1) := by decide +kernel
theorem dX5_neighbour_10 : decode cX5_neighbour 10 = .ok (.iload_n 1, 1) := by decide +kernel
theorem dX5_neighbour_11 : decode cX5_neighbour 11 = .ok (.tableswitch 49 0 2 #[25, 33, 41], 25) := by decide +kernel
theorem dX5_neighbour_36 : decode cX5_neighbour 36 = .ok (.iload_n 2, 1) := by decide +kernel
theorem dX5_neighbour_37 : decode cX5_neighbour 37 = .ok (.iload_n 3, 1) := by decide +kernel
theorem dX5_neighbour_38 : decode cX5_neighbour 38 = .ok (.iconst 1, 1) := by decide +kernel
theorem dX5_neighbour_39 : decode cX5_neighbour 39 = .ok (.isub, 1) := by decide +kernel
theorem dX5_neighbour_40 : decode cX5_neighbour 40 = .ok (.invokestatic 55, 3) := by decide +kernel
theorem dX5_neighbour_43 : decode cX5_neighbour 43 = .ok (.ireturn, 1) := by decide +kernel
theorem dX5_neighbour_44 : decode cX5_neighbour 44 = .ok (.iload_n 2, 1) := by decide +kernel
theorem dX5_neighbour_45 : decode cX5_neighbour 45 = .ok (.iconst 1, 1) := by decide +kernel
theorem dX5_neighbour_46 : decode cX5_neighbour 46 = .ok (.isub, 1) := by decide +kernel
theorem dX5_neighbour_47 : decode cX5_neighbour 47 = .ok (.iload_n 3, 1) := by decide +kernel
theorem dX5_neighbour_48 : decode cX5_neighbour 48 = .ok (.invokestatic 55, 3) := by decide +kernel
theorem dX5_neighbour_51 : decode cX5_neighbour 51 = .ok (.ireturn, 1) := by decide +kernel
theorem dX5_neighbour_52 : decode cX5_neighbour 52 = .ok (.iload_n 2, 1) := by decide +kernel
theorem dX5_neighbour_53 : decode cX5_neighbour 53 = .ok (.iconst 1, 1) := by decide +kernel
theorem dX5_neighbour_54 : decode cX5_neighbour 54 = .ok (.iadd, 1) := by decide +kernel
theorem dX5_neighbour_55 : decode cX5_neighbour 55 = .ok (.iload_n 3, 1) := by decide +kernel
theorem dX5_neighbour_56 : decode cX5_neighbour 56 = .ok (.invokestatic 55, 3) := by decide +kernel
theorem dX5_neighbour_59 : decode cX5_neighbour 59 = .ok (.ireturn, 1) := by decide +kernel
theorem dX5_neighbour_60 : decode cX5_neighbour 60 = .ok (.iload_n 2, 1) := by decide +kernel
theorem dX5_neighbour_61 : decode cX5_neighbour 61 = .ok (.iload_n 3, 1) := by decide +kernel
theorem dX5_neighbour_62 : decode cX5_neighbour 62 = .ok (.iconst 1, 1) := by decide +kernel
theorem dX5_neighbour_63 : decode cX5_neighbour 63 = .ok (.iadd, 1) := by decide +kernel
theorem dX5_neighbour_64 : decode cX5_neighbour 64 = .ok (.invokestatic 55, 3) := by decide +kernel
theorem dX5_neighbour_67 : decode cX5_neighbour 67 = .ok (.ireturn, 1) := by decide +kernel
theorem dX6_init_0 : decode cX6_init 0 = .ok (.aload_n 0, 1) := by decide +kernel
theorem dX6_init_1 : decode cX6_init 1 = .ok (.invokespecial 3, 3) := by decide +kernel
theorem dX6_init_4 : decode cX6_init 4 = .ok (.aload_n 0, 1) := by decide +kernel
theorem dX6_init_5 : decode cX6_init 5 = .ok (.new 9, 3) := by decide +kernel
theorem dX6_init_8 : decode cX6_init 8 = .ok (.dup, 1) := by decide +kernel
theorem dX6_init_9 : decode cX6_init 9 = .ok (.bipush 6, 2) := by decide +kernel
theorem dX6_init_11 : decode cX6_init 11 = .ok (.iconst 0, 1) := by decide +kernel
theorem dX6_init_12 : decode cX6_init 12 = .ok (.invokespecial 11, 3) := by decide +kernel
theorem dX6_init_15 : decode cX6_init 15 = .ok (.putfield 14, 3) := by decide +kernel
theorem dX6_init_18 : decode cX6_init 18 = .ok (.aload_n 0, 1) := by decide +kernel
theorem dX6_init_19 : decode cX6_init 19 = .ok (.new 9, 3) := by decide +kernel
theorem dX6_init_22 : decode cX6_init 22 = .ok (.dup, 1) := by decide +kernel
theorem dX6_init_23 : decode cX6_init 23 = .ok (.bipush 6, 2) := by decide +kernel
theorem dX6_init_25 : decode cX6_init 25 = .ok (.iconst 0, 1) := by decide +kernel
theorem dX6_init_26 : decode cX6_init 26 = .ok (.invokespecial 11, 3) := by decide +kernel
theorem dX6_init_29 : decode cX6_init 29 = .ok (.putfield 20, 3) := by decide +kernel
theorem dX6_init_32 : decode cX6_init 32 = .ok (.aload_n 0, 1) := by decide +kernel
theorem dX6_init_33 : decode cX6_init 33 = .ok (.iconst 0, 1) := by decide +kernel
theorem dX6_init_34 : decode cX6_init 34 = .ok (.putfield 23, 3) := by decide +kernel
theorem dX6_init_37 : decode cX6_init 37 = .ok (.return_, 1) := by decide +kernel
theorem dX6_gather_0 : decode cX6_gather 0 = .ok (.aload_n 0, 1) := by decide +kernel
theorem dX6_gather_1 : decode cX6_gather 1 = .ok (.iconst 0, 1) := by decide +kernel
theorem dX6_gather_2 : decode cX6_gather 2 = .ok (.putfield 23, 3) := by decide +kernel
theorem dX6_gather_5 : decode cX6_gather 5 = .ok (.iconst 0, 1) := by decide +kernel
theorem dX6_gather_6 : decode cX6_gather 6 = .ok (.istore 5, 2) := by decide +kernel
theorem dX6_gather_8 : decode cX6_gather 8 = .ok (.iload 5, 2) := by decide +kernel
theorem dX6_gather_10 : decode cX6_gather 10 = .ok (.bipush 6, 2) := by decide +kernel
theorem dX6_gather_12 : decode cX6_gather 12 = .ok (.if_icmp .ge 75, 3) := by decide +kernel
theorem dX6_gather_15 : decode cX6_gather 15 = .ok (.aload_n 1, 1) := by decide +kernel
theorem dX6_gather_16 : decode cX6_gather 16 = .ok (.iload 5, 2) := by decide +kernel
theorem dX6_gather_18 : decode cX6_gather 18 = .ok (.invokevirtual 27, 3) := by decide +kernel
theorem dX6_gather_21 : decode cX6_gather 21 = .ok (.istore 6, 2) := by decide +kernel
theorem dX6_gather_23 : decode cX6_gather 23 = .ok (.iload 6, 2) := by decide +kernel
theorem dX6_gather_25 : decode cX6_gather 25 = .ok (.iconst (-1), 1) := by decide +kernel
theorem dX6_gather_26 : decode cX6_gather 26 = .ok (.if_icmp .eq 55, 3) := by decide +kernel
theorem dX6_gather_29 : decode cX6_gather 29 = .ok (.aload_n 0, 1) := by decide +kernel
theorem dX6_gather_30 : decode cX6_gather 30 = .ok (.getfield 14, 3) := by decide +kernel
theorem dX6_gather_33 : decode cX6_gather 33 = .ok (.aload_n 0, 1) := by decide +kernel
theorem dX6_gather_34 : decode cX6_gather 34 = .ok (.getfield 23, 3) := by decide +kernel
theorem dX6_gather_37 : decode cX6_gather 37 = .ok (.iload 4, 2) := by decide +kernel
theorem dX6_gather_39 : decode cX6_gather 39 = .ok (.iload 6, 2) := by decide +kernel
theorem dX6_gather_41 : decode cX6_gather 41 = .ok (.invokestatic 31, 3) := by decide +kernel
theorem dX6_gather_44 : decode cX6_gather 44 = .ok (.imul, 1) := by decide +kernel
theorem dX6_gather_45 : decode cX6_gather 45 = .ok (.iload_n 2, 1) := by decide +kernel
theorem dX6_gather_46 : decode cX6_gather 46 = .ok (.isub, 1) := by decide +kernel
theorem dX6_gather_47 : decode cX6_gather 47 = .ok (.invokevirtual 34, 3) := by decide +kernel
theorem dX6_gather_50 : decode cX6_gather 50 = .ok (.aload_n 0, 1) := by decide +kernel
theorem dX6_gather_51 : decode cX6_gather 51 = .ok (.getfield 20, 3) := by decide +kernel
theorem dX6_gather_54 : decode cX6_gather 54 = .ok (.aload_n 0, 1) := by decide +kernel
theorem dX6_gather_55 : decode cX6_gather 55 = .ok (.getfield 23, 3) := by decide +kernel
theorem dX6_gather_58 : decode cX6_gather 58 = .ok (.iload 4, 2) := by decide +kernel
theorem dX6_gather_60 : decode cX6_gather 60 = .ok (.iload 6, 2) := by decide +kernel
theorem dX6_gather_62 : decode cX6_gather 62 = .ok (.invokestatic 37, 3) := by decide +kernel
theorem dX6_gather_65 : decode cX6_gather 65 = .ok (.imul, 1) := by decide +kernel
theorem dX6_gather_66 : decode cX6_gather 66 = .ok (.iload_n 3, 1) := by decide +kernel
theorem dX6_gather_67 : decode cX6_gather 67 = .ok (.isub, 1) := by decide +kernel
theorem dX6_gather_68 : decode cX6_gather 68 = .ok (.invokevirtual 34, 3) := by decide +kernel
theorem dX6_gather_71 : decode cX6_gather 71 = .ok (.aload_n 0, 1) := by decide +kernel
theorem dX6_gather_72 : decode cX6_gather 72 = .ok (.dup, 1) := by decide +kernel
theorem dX6_gather_73 : decode cX6_gather 73 = .ok (.getfield 23, 3) := by decide +kernel
theorem dX6_gather_76 : decode cX6_gather 76 = .ok (.iconst 1, 1) := by decide +kernel
theorem dX6_gather_77 : decode cX6_gather 77 = .ok (.iadd, 1) := by decide +kernel
theorem dX6_gather_78 : decode cX6_gather 78 = .ok (.putfield 23, 3) := by decide +kernel
theorem dX6_gather_81 : decode cX6_gather 81 = .ok (.iinc 5 1, 3) := by decide +kernel
theorem dX6_gather_84 : decode cX6_gather 84 = .ok (.goto (-76), 3) := by decide +kernel
theorem dX6_gather_87 : decode cX6_gather 87 = .ok (.return_, 1) := by decide +kernel
theorem dX6_holdMoment_0 : decode cX6_holdMoment 0 = .ok (.iconst 0, 1) := by decide +kernel
theorem dX6_holdMoment_1 : decode cX6_holdMoment 1 = .ok (.istore_n 1, 1) := by decide +kernel
theorem dX6_holdMoment_2 : decode cX6_holdMoment 2 = .ok (.iload_n 1, 1) := by decide +kernel
theorem dX6_holdMoment_3 : decode cX6_holdMoment 3 = .ok (.aload_n 0, 1) := by decide +kernel
theorem dX6_holdMoment_4 : decode cX6_holdMoment 4 = .ok (.getfield 23, 3) := by decide +kernel
theorem dX6_holdMoment_7 : decode cX6_holdMoment 7 = .ok (.if_icmp .ge 92, 3) := by decide +kernel
theorem dX6_holdMoment_10 : decode cX6_holdMoment 10 = .ok (.aload_n 0, 1) := by decide +kernel
theorem dX6_holdMoment_11 : decode cX6_holdMoment 11 = .ok (.getfield 14, 3) := by decide +kernel
theorem dX6_holdMoment_14 : decode cX6_holdMoment 14 = .ok (.iload_n 1, 1) := by decide +kernel
theorem dX6_holdMoment_15 : decode cX6_holdMoment 15 = .ok (.invokevirtual 27, 3) := by decide +kernel
theorem dX6_holdMoment_18 : decode cX6_holdMoment 18 = .ok (.ifCond .ne 16, 3) := by decide +kernel
theorem dX6_holdMoment_21 : decode cX6_holdMoment 21 = .ok (.aload_n 0, 1) := by decide +kernel
theorem dX6_holdMoment_22 : decode cX6_holdMoment 22 = .ok (.getfield 20, 3) := by decide +kernel
theorem dX6_holdMoment_25 : decode cX6_holdMoment 25 = .ok (.iload_n 1, 1) := by decide +kernel
theorem dX6_holdMoment_26 : decode cX6_holdMoment 26 = .ok (.invokevirtual 27, 3) := by decide +kernel
theorem dX6_holdMoment_29 : decode cX6_holdMoment 29 = .ok (.ifCond .ne 5, 3) := by decide +kernel
theorem dX6_holdMoment_32 : decode cX6_holdMoment 32 = .ok (.iconst 1, 1) := by decide +kernel
theorem dX6_holdMoment_33 : decode cX6_holdMoment 33 = .ok (.ireturn, 1) := by decide +kernel
theorem dX6_holdMoment_34 : decode cX6_holdMoment 34 = .ok (.iload_n 1, 1) := by decide +kernel
theorem dX6_holdMoment_35 : decode cX6_holdMoment 35 = .ok (.iconst 1, 1) := by decide +kernel
theorem dX6_holdMoment_36 : decode cX6_holdMoment 36 = .ok (.iadd, 1) := by decide +kernel
theorem dX6_holdMoment_37 : decode cX6_holdMoment 37 = .ok (.istore_n 2, 1) := by decide +kernel
theorem dX6_holdMoment_38 : decode cX6_holdMoment 38 = .ok (.iload_n 2, 1) := by decide +kernel
theorem dX6_holdMoment_39 : decode cX6_holdMoment 39 = .ok (.aload_n 0, 1) := by decide +kernel
theorem dX6_holdMoment_40 : decode cX6_holdMoment 40 = .ok (.getfield 23, 3) := by decide +kernel
theorem dX6_holdMoment_43 : decode cX6_holdMoment 43 = .ok (.if_icmp .ge 50, 3) := by decide +kernel
theorem dX6_holdMoment_46 : decode cX6_holdMoment 46 = .ok (.aload_n 0, 1) := by decide +kernel
theorem dX6_holdMoment_47 : decode cX6_holdMoment 47 = .ok (.iload_n 1, 1) := by decide +kernel
theorem dX6_holdMoment_48 : decode cX6_holdMoment 48 = .ok (.iload_n 2, 1) := by decide +kernel
theorem dX6_holdMoment_49 : decode cX6_holdMoment 49 = .ok (.invokevirtual 40, 3) := by decide +kernel
theorem dX6_holdMoment_52 : decode cX6_holdMoment 52 = .ok (.ifCond .eq 5, 3) := by decide +kernel
theorem dX6_holdMoment_55 : decode cX6_holdMoment 55 = .ok (.iconst 1, 1) := by decide +kernel
theorem dX6_holdMoment_56 : decode cX6_holdMoment 56 = .ok (.ireturn, 1) := by decide +kernel
theorem dX6_holdMoment_57 : decode cX6_holdMoment 57 = .ok (.iload_n 2, 1) := by decide +kernel
theorem dX6_holdMoment_58 : decode cX6_holdMoment 58 = .ok (.iconst 1, 1) := by decide +kernel
theorem dX6_holdMoment_59 : decode cX6_holdMoment 59 = .ok (.iadd, 1) := by decide +kernel
theorem dX6_holdMoment_60 : decode cX6_holdMoment 60 = .ok (.istore_n 3, 1) := by decide +kernel
theorem dX6_holdMoment_61 : decode cX6_holdMoment 61 = .ok (.iload_n 3, 1) := by decide +kernel
theorem dX6_holdMoment_62 : decode cX6_holdMoment 62 = .ok (.aload_n 0, 1) := by decide +kernel
theorem dX6_holdMoment_63 : decode cX6_holdMoment 63 = .ok (.getfield 23, 3) := by decide +kernel
theorem dX6_holdMoment_66 : decode cX6_holdMoment 66 = .ok (.if_icmp .ge 21, 3) := by decide +kernel
theorem dX6_holdMoment_69 : decode cX6_holdMoment 69 = .ok (.aload_n 0, 1) := by decide +kernel
theorem dX6_holdMoment_70 : decode cX6_holdMoment 70 = .ok (.iload_n 1, 1) := by decide +kernel
theorem dX6_holdMoment_71 : decode cX6_holdMoment 71 = .ok (.iload_n 2, 1) := by decide +kernel
theorem dX6_holdMoment_72 : decode cX6_holdMoment 72 = .ok (.iload_n 3, 1) := by decide +kernel
theorem dX6_holdMoment_73 : decode cX6_holdMoment 73 = .ok (.invokevirtual 44, 3) := by decide +kernel
theorem dX6_holdMoment_76 : decode cX6_holdMoment 76 = .ok (.ifCond .eq 5, 3) := by decide +kernel
theorem dX6_holdMoment_79 : decode cX6_holdMoment 79 = .ok (.iconst 1, 1) := by decide +kernel
theorem dX6_holdMoment_80 : decode cX6_holdMoment 80 = .ok (.ireturn, 1) := by decide +kernel
theorem dX6_holdMoment_81 : decode cX6_holdMoment 81 = .ok (.iinc 3 1, 3) := by decide +kernel
theorem dX6_holdMoment_84 : decode cX6_holdMoment 84 = .ok (.goto (-23), 3) := by decide +kernel
theorem dX6_holdMoment_87 : decode cX6_holdMoment 87 = .ok (.iinc 2 1, 3) := by decide +kernel
theorem dX6_holdMoment_90 : decode cX6_holdMoment 90 = .ok (.goto (-52), 3) := by decide +kernel
theorem dX6_holdMoment_93 : decode cX6_holdMoment 93 = .ok (.iinc 1 1, 3) := by decide +kernel
theorem dX6_holdMoment_96 : decode cX6_holdMoment 96 = .ok (.goto (-94), 3) := by decide +kernel
theorem dX6_holdMoment_99 : decode cX6_holdMoment 99 = .ok (.iconst 0, 1) := by decide +kernel
theorem dX6_holdMoment_100 : decode cX6_holdMoment 100 = .ok (.ireturn, 1) := by decide +kernel
theorem dX6_isOnLine_0 : decode cX6_isOnLine 0 = .ok (.aload_n 0, 1) := by decide +kernel
theorem dX6_isOnLine_1 : decode cX6_isOnLine 1 = .ok (.iload_n 1, 1) := by decide +kernel
theorem dX6_isOnLine_2 : decode cX6_isOnLine 2 = .ok (.iload_n 2, 1) := by decide +kernel
theorem dX6_isOnLine_3 : decode cX6_isOnLine 3 = .ok (.invokevirtual 48, 3) := by decide +kernel
theorem dX6_isOnLine_6 : decode cX6_isOnLine 6 = .ok (.ifCond .ne 45, 3) := by decide +kernel
theorem dX6_isOnLine_9 : decode cX6_isOnLine 9 = .ok (.aload_n 0, 1) := by decide +kernel
theorem dX6_isOnLine_10 : decode cX6_isOnLine 10 = .ok (.getfield 14, 3) := by decide +kernel
theorem dX6_isOnLine_13 : decode cX6_isOnLine 13 = .ok (.iload_n 1, 1) := by decide +kernel
theorem dX6_isOnLine_14 : decode cX6_isOnLine 14 = .ok (.invokevirtual 27, 3) := by decide +kernel
theorem dX6_isOnLine_17 : decode cX6_isOnLine 17 = .ok (.aload_n 0, 1) := by decide +kernel
theorem dX6_isOnLine_18 : decode cX6_isOnLine 18 = .ok (.getfield 14, 3) := by decide +kernel
theorem dX6_isOnLine_21 : decode cX6_isOnLine 21 = .ok (.iload_n 2, 1) := by decide +kernel
theorem dX6_isOnLine_22 : decode cX6_isOnLine 22 = .ok (.invokevirtual 27, 3) := by decide +kernel
theorem dX6_isOnLine_25 : decode cX6_isOnLine 25 = .ok (.imul, 1) := by decide +kernel
theorem dX6_isOnLine_26 : decode cX6_isOnLine 26 = .ok (.aload_n 0, 1) := by decide +kernel
theorem dX6_isOnLine_27 : decode cX6_isOnLine 27 = .ok (.getfield 20, 3) := by decide +kernel
theorem dX6_isOnLine_30 : decode cX6_isOnLine 30 = .ok (.iload_n 1, 1) := by decide +kernel
theorem dX6_isOnLine_31 : decode cX6_isOnLine 31 = .ok (.invokevirtual 27, 3) := by decide +kernel
theorem dX6_isOnLine_34 : decode cX6_isOnLine 34 = .ok (.aload_n 0, 1) := by decide +kernel
theorem dX6_isOnLine_35 : decode cX6_isOnLine 35 = .ok (.getfield 20, 3) := by decide +kernel
theorem dX6_isOnLine_38 : decode cX6_isOnLine 38 = .ok (.iload_n 2, 1) := by decide +kernel
theorem dX6_isOnLine_39 : decode cX6_isOnLine 39 = .ok (.invokevirtual 27, 3) := by decide +kernel
theorem dX6_isOnLine_42 : decode cX6_isOnLine 42 = .ok (.imul, 1) := by decide +kernel
theorem dX6_isOnLine_43 : decode cX6_isOnLine 43 = .ok (.iadd, 1) := by decide +kernel
theorem dX6_isOnLine_44 : decode cX6_isOnLine 44 = .ok (.ifCond .gt 7, 3) := by decide +kernel
theorem dX6_isOnLine_47 : decode cX6_isOnLine 47 = .ok (.iconst 1, 1) := by decide +kernel
theorem dX6_isOnLine_48 : decode cX6_isOnLine 48 = .ok (.goto 4, 3) := by decide +kernel
theorem dX6_isOnLine_51 : decode cX6_isOnLine 51 = .ok (.iconst 0, 1) := by decide +kernel
theorem dX6_isOnLine_52 : decode cX6_isOnLine 52 = .ok (.ireturn, 1) := by decide +kernel
theorem dX6_isInTriangle_0 : decode cX6_isInTriangle 0 = .ok (.aload_n 0, 1) := by decide +kernel
theorem dX6_isInTriangle_1 : decode cX6_isInTriangle 1 = .ok (.iload_n 1, 1) := by decide +kernel
theorem dX6_isInTriangle_2 : decode cX6_isInTriangle 2 = .ok (.iload_n 2, 1) := by decide +kernel
theorem dX6_isInTriangle_3 : decode cX6_isInTriangle 3 = .ok (.invokevirtual 48, 3) := by decide +kernel
theorem dX6_isInTriangle_6 : decode cX6_isInTriangle 6 = .ok (.istore 4, 2) := by decide +kernel
theorem dX6_isInTriangle_8 : decode cX6_isInTriangle 8 = .ok (.aload_n 0, 1) := by decide +kernel
theorem dX6_isInTriangle_9 : decode cX6_isInTriangle 9 = .ok (.iload_n 2, 1) := by decide +kernel
theorem dX6_isInTriangle_10 : decode cX6_isInTriangle 10 = .ok (.iload_n 3, 1) := by decide +kernel
theorem dX6_isInTriangle_11 : decode cX6_isInTriangle 11 = .ok (.invokevirtual 48, 3) := by decide +kernel
theorem dX6_isInTriangle_14 : decode cX6_isInTriangle 14 = .ok (.istore 5, 2) := by decide +kernel
theorem dX6_isInTriangle_16 : decode cX6_isInTriangle 16 = .ok (.aload_n 0, 1) := by decide +kernel
theorem dX6_isInTriangle_17 : decode cX6_isInTriangle 17 = .ok (.iload_n 3, 1) := by decide +kernel
theorem dX6_isInTriangle_18 : decode cX6_isInTriangle 18 = .ok (.iload_n 1, 1) := by decide +kernel
theorem dX6_isInTriangle_19 : decode cX6_isInTriangle 19 = .ok (.invokevirtual 48, 3) := by decide +kernel
theorem dX6_isInTriangle_22 : decode cX6_isInTriangle 22 = .ok (.istore 6, 2) := by decide +kernel
theorem dX6_isInTriangle_24 : decode cX6_isInTriangle 24 = .ok (.iload 4, 2) := by decide +kernel
theorem dX6_isInTriangle_26 : decode cX6_isInTriangle 26 = .ok (.iload 5, 2) := by decide +kernel
theorem dX6_isInTriangle_28 : decode cX6_isInTriangle 28 = .ok (.iadd, 1) := by decide +kernel
theorem dX6_isInTriangle_29 : decode cX6_isInTriangle 29 = .ok (.iload 6, 2) := by decide +kernel
theorem dX6_isInTriangle_31 : decode cX6_isInTriangle 31 = .ok (.iadd, 1) := by decide +kernel
theorem dX6_isInTriangle_32 : decode cX6_isInTriangle 32 = .ok (.ifCond .ne 5, 3) := by decide +kernel
theorem dX6_isInTriangle_35 : decode cX6_isInTriangle 35 = .ok (.iconst 0, 1) := by decide +kernel
theorem dX6_isInTriangle_36 : decode cX6_isInTriangle 36 = .ok (.ireturn, 1) := by decide +kernel
theorem dX6_isInTriangle_37 : decode cX6_isInTriangle 37 = .ok (.iload 4, 2) := by decide +kernel
theorem dX6_isInTriangle_39 : decode cX6_isInTriangle 39 = .ok (.ifCond .lt 13, 3) := by decide +kernel
theorem dX6_isInTriangle_42 : decode cX6_isInTriangle 42 = .ok (.iload 5, 2) := by decide +kernel
theorem dX6_isInTriangle_44 : decode cX6_isInTriangle 44 = .ok (.ifCond .lt 8, 3) := by decide +kernel
theorem dX6_isInTriangle_47 : decode cX6_isInTriangle 47 = .ok (.iload 6, 2) := by decide +kernel
theorem dX6_isInTriangle_49 : decode cX6_isInTriangle 49 = .ok (.ifCond .ge 18, 3) := by decide +kernel
theorem dX6_isInTriangle_52 : decode cX6_isInTriangle 52 = .ok (.iload 4, 2) := by decide +kernel
theorem dX6_isInTriangle_54 : decode cX6_isInTriangle 54 = .ok (.ifCond .gt 17, 3) := by decide +kernel
theorem dX6_isInTriangle_57 : decode cX6_isInTriangle 57 = .ok (.iload 5, 2) := by decide +kernel
theorem dX6_isInTriangle_59 : decode cX6_isInTriangle 59 = .ok (.ifCond .gt 12, 3) := by decide +kernel
theorem dX6_isInTriangle_62 : decode cX6_isInTriangle 62 = .ok (.iload 6, 2) := by decide +kernel
theorem dX6_isInTriangle_64 : decode cX6_isInTriangle 64 = .ok (.ifCond .gt 7, 3) := by decide +kernel
theorem dX6_isInTriangle_67 : decode cX6_isInTriangle 67 = .ok (.iconst 1, 1) := by decide +kernel
theorem dX6_isInTriangle_68 : decode cX6_isInTriangle 68 = .ok (.goto 4, 3) := by decide +kernel
theorem dX6_isInTriangle_71 : decode cX6_isInTriangle 71 = .ok (.iconst 0, 1) := by decide +kernel
theorem dX6_isInTriangle_72 : decode cX6_isInTriangle 72 = .ok (.ireturn, 1) := by decide +kernel
theorem dX6_turn_0 : decode cX6_turn 0 = .ok (.aload_n 0, 1) := by decide +kernel
theorem dX6_turn_1 : decode cX6_turn 1 = .ok (.getfield 14, 3) := by decide +kernel
theorem dX6_turn_4 : decode cX6_turn 4 = .ok (.iload_n 1, 1) := by decide +kernel
theorem dX6_turn_5 : decode cX6_turn 5 = .ok (.invokevirtual 27, 3) := by decide +kernel
theorem dX6_turn_8 : decode cX6_turn 8 = .ok (.aload_n 0, 1) := by decide +kernel
theorem dX6_turn_9 : decode cX6_turn 9 = .ok (.getfield 20, 3) := by decide +kernel
theorem dX6_turn_12 : decode cX6_turn 12 = .ok (.iload_n 2, 1) := by decide +kernel
theorem dX6_turn_13 : decode cX6_turn 13 = .ok (.invokevirtual 27, 3) := by decide +kernel
theorem dX6_turn_16 : decode cX6_turn 16 = .ok (.imul, 1) := by decide +kernel
theorem dX6_turn_17 : decode cX6_turn 17 = .ok (.aload_n 0, 1) := by decide +kernel
theorem dX6_turn_18 : decode cX6_turn 18 = .ok (.getfield 20, 3) := by decide +kernel
theorem dX6_turn_21 : decode cX6_turn 21 = .ok (.iload_n 1, 1) := by decide +kernel
theorem dX6_turn_22 : decode cX6_turn 22 = .ok (.invokevirtual 27, 3) := by decide +kernel
theorem dX6_turn_25 : decode cX6_turn 25 = .ok (.aload_n 0, 1) := by decide +kernel
theorem dX6_turn_26 : decode cX6_turn 26 = .ok (.getfield 14, 3) := by decide +kernel
theorem dX6_turn_29 : decode cX6_turn 29 = .ok (.iload_n 2, 1) := by decide +kernel
theorem dX6_turn_30 : decode cX6_turn 30 = .ok (.invokevirtual 27, 3) := by decide +kernel
theorem dX6_turn_33 : decode cX6_turn 33 = .ok (.imul, 1) := by decide +kernel
theorem dX6_turn_34 : decode cX6_turn 34 = .ok (.isub, 1) := by decide +kernel
theorem dX6_turn_35 : decode cX6_turn 35 = .ok (.ireturn, 1) := by decide +kernel
theorem dX7_init_0 : decode cX7_init 0 = .ok (.aload_n 0, 1) := by decide +kernel
theorem dX7_init_1 : decode cX7_init 1 = .ok (.invokespecial 3, 3) := by decide +kernel
theorem dX7_init_4 : decode cX7_init 4 = .ok (.aload_n 0, 1) := by decide +kernel
theorem dX7_init_5 : decode cX7_init 5 = .ok (.iconst 4, 1) := by decide +kernel
theorem dX7_init_6 : decode cX7_init 6 = .ok (.anewarray 9, 3) := by decide +kernel
theorem dX7_init_9 : decode cX7_init 9 = .ok (.putfield 11, 3) := by decide +kernel
theorem dX7_init_12 : decode cX7_init 12 = .ok (.aload_n 0, 1) := by decide +kernel
theorem dX7_init_13 : decode cX7_init 13 = .ok (.iconst (-1), 1) := by decide +kernel
theorem dX7_init_14 : decode cX7_init 14 = .ok (.putfield 17, 3) := by decide +kernel
theorem dX7_init_17 : decode cX7_init 17 = .ok (.aload_n 0, 1) := by decide +kernel
theorem dX7_init_18 : decode cX7_init 18 = .ok (.aload_n 2, 1) := by decide +kernel
theorem dX7_init_19 : decode cX7_init 19 = .ok (.putfield 21, 3) := by decide +kernel
theorem dX7_init_22 : decode cX7_init 22 = .ok (.iconst 0, 1) := by decide +kernel
theorem dX7_init_23 : decode cX7_init 23 = .ok (.istore 4, 2) := by decide +kernel
theorem dX7_init_25 : decode cX7_init 25 = .ok (.iload 4, 2) := by decide +kernel
theorem dX7_init_27 : decode cX7_init 27 = .ok (.aload_n 0, 1) := by decide +kernel
theorem dX7_init_28 : decode cX7_init 28 = .ok (.getfield 11, 3) := by decide +kernel
theorem dX7_init_31 : decode cX7_init 31 = .ok (.arraylength, 1) := by decide +kernel
theorem dX7_init_32 : decode cX7_init 32 = .ok (.if_icmp .ge 26, 3) := by decide +kernel
theorem dX7_init_35 : decode cX7_init 35 = .ok (.aload_n 0, 1) := by decide +kernel
theorem dX7_init_36 : decode cX7_init 36 = .ok (.getfield 11, 3) := by decide +kernel
theorem dX7_init_39 : decode cX7_init 39 = .ok (.iload 4, 2) := by decide +kernel
theorem dX7_init_41 : decode cX7_init 41 = .ok (.new 9, 3) := by decide +kernel
theorem dX7_init_44 : decode cX7_init 44 = .ok (.dup, 1) := by decide +kernel
theorem dX7_init_45 : decode cX7_init 45 = .ok (.aload_n 1, 1) := by decide +kernel
theorem dX7_init_46 : decode cX7_init 46 = .ok (.aload_n 2, 1) := by decide +kernel
theorem dX7_init_47 : decode cX7_init 47 = .ok (.aload_n 3, 1) := by decide +kernel
theorem dX7_init_48 : decode cX7_init 48 = .ok (.invokespecial 25, 3) := by decide +kernel
theorem dX7_init_51 : decode cX7_init 51 = .ok (.aastore, 1) := by decide +kernel
theorem dX7_init_52 : decode cX7_init 52 = .ok (.iinc 4 1, 3) := by decide +kernel
theorem dX7_init_55 : decode cX7_init 55 = .ok (.goto (-30), 3) := by decide +kernel
theorem dX7_init_58 : decode cX7_init 58 = .ok (.return_, 1) := by decide +kernel
theorem dX7_start_0 : decode cX7_start 0 = .ok (.aload_n 0, 1) := by decide +kernel
theorem dX7_start_1 : decode cX7_start 1 = .ok (.iload_n 2, 1) := by decide +kernel
theorem dX7_start_2 : decode cX7_start 2 = .ok (.putfield 17, 3) := by decide +kernel
theorem dX7_start_5 : decode cX7_start 5 = .ok (.aload_n 0, 1) := by decide +kernel
theorem dX7_start_6 : decode cX7_start 6 = .ok (.getfield 11, 3) := by decide +kernel
theorem dX7_start_9 : decode cX7_start 9 = .ok (.arraylength, 1) := by decide +kernel
theorem dX7_start_10 : decode cX7_start 10 = .ok (.ifCond .le 13, 3) := by decide +kernel
theorem dX7_start_13 : decode cX7_start 13 = .ok (.aload_n 0, 1) := by decide +kernel
theorem dX7_start_14 : decode cX7_start 14 = .ok (.getfield 11, 3) := by decide +kernel
theorem dX7_start_17 : decode cX7_start 17 = .ok (.iconst 0, 1) := by decide +kernel
theorem dX7_start_18 : decode cX7_start 18 = .ok (.aaload, 1) := by decide +kernel
theorem dX7_start_19 : decode cX7_start 19 = .ok (.aload_n 1, 1) := by decide +kernel
theorem dX7_start_20 : decode cX7_start 20 = .ok (.invokevirtual 28, 3) := by decide +kernel
theorem dX7_start_23 : decode cX7_start 23 = .ok (.return_, 1) := by decide +kernel
theorem dX7_away_0 : decode cX7_away 0 = .ok (.iload_n 1, 1) := by decide +kernel
theorem dX7_away_1 : decode cX7_away 1 = .ok (.ifCond .lt 12, 3) := by decide +kernel
theorem dX7_away_4 : decode cX7_away 4 = .ok (.iload_n 1, 1) := by decide +kernel
theorem dX7_away_5 : decode cX7_away 5 = .ok (.aload_n 0, 1) := by decide +kernel
theorem dX7_away_6 : decode cX7_away 6 = .ok (.getfield 11, 3) := by decide +kernel
theorem dX7_away_9 : decode cX7_away 9 = .ok (.arraylength, 1) := by decide +kernel
theorem dX7_away_10 : decode cX7_away 10 = .ok (.if_icmp .lt 7, 3) := by decide +kernel
theorem dX7_away_13 : decode cX7_away 13 = .ok (.sipush 400, 3) := by decide +kernel
theorem dX7_away_16 : decode cX7_away 16 = .ok (.ireturn, 1) := by decide +kernel
theorem dX7_away_17 : decode cX7_away 17 = .ok (.aload_n 0, 1) := by decide +kernel
theorem dX7_away_18 : decode cX7_away 18 = .ok (.getfield 11, 3) := by decide +kernel
theorem dX7_away_21 : decode cX7_away 21 = .ok (.iload_n 1, 1) := by decide +kernel
theorem dX7_away_22 : decode cX7_away 22 = .ok (.aaload, 1) := by decide +kernel
theorem dX7_away_23 : decode cX7_away 23 = .ok (.getfield 32, 3) := by decide +kernel
theorem dX7_away_26 : decode cX7_away 26 = .ok (.aload_n 0, 1) := by decide +kernel
theorem dX7_away_27 : decode cX7_away 27 = .ok (.getfield 17, 3) := by decide +kernel
theorem dX7_away_30 : decode cX7_away 30 = .ok (.invokestatic 35, 3) := by decide +kernel
theorem dX7_away_33 : decode cX7_away 33 = .ok (.isub, 1) := by decide +kernel
theorem dX7_away_34 : decode cX7_away 34 = .ok (.invokestatic 39, 3) := by decide +kernel
theorem dX7_away_37 : decode cX7_away 37 = .ok (.aload_n 0, 1) := by decide +kernel
theorem dX7_away_38 : decode cX7_away 38 = .ok (.getfield 11, 3) := by decide +kernel
theorem dX7_away_41 : decode cX7_away 41 = .ok (.iload_n 1, 1) := by decide +kernel
theorem dX7_away_42 : decode cX7_away 42 = .ok (.aaload, 1) := by decide +kernel
theorem dX7_away_43 : decode cX7_away 43 = .ok (.getfield 44, 3) := by decide +kernel
theorem dX7_away_46 : decode cX7_away 46 = .ok (.aload_n 0, 1) := by decide +kernel
theorem dX7_away_47 : decode cX7_away 47 = .ok (.getfield 17, 3) := by decide +kernel
theorem dX7_away_50 : decode cX7_away 50 = .ok (.invokestatic 47, 3) := by decide +kernel
theorem dX7_away_53 : decode cX7_away 53 = .ok (.isub, 1) := by decide +kernel
theorem dX7_away_54 : decode cX7_away 54 = .ok (.invokestatic 39, 3) := by decide +kernel
theorem dX7_away_57 : decode cX7_away 57 = .ok (.iadd, 1) := by decide +kernel
theorem dX7_away_58 : decode cX7_away 58 = .ok (.ireturn, 1) := by decide +kernel
theorem dX7_isMade_0 : decode cX7_isMade 0 = .ok (.iload_n 1, 1) := by decide +kernel
theorem dX7_isMade_1 : decode cX7_isMade 1 = .ok (.ifCond .lt 14, 3) := by decide +kernel
theorem dX7_isMade_4 : decode cX7_isMade 4 = .ok (.iload_n 1, 1) := by decide +kernel
theorem dX7_isMade_5 : decode cX7_isMade 5 = .ok (.iconst 1, 1) := by decide +kernel
theorem dX7_isMade_6 : decode cX7_isMade 6 = .ok (.iadd, 1) := by decide +kernel
theorem dX7_isMade_7 : decode cX7_isMade 7 = .ok (.aload_n 0, 1) := by decide +kernel
theorem dX7_isMade_8 : decode cX7_isMade 8 = .ok (.getfield 11, 3) := by decide +kernel
theorem dX7_isMade_11 : decode cX7_isMade 11 = .ok (.arraylength, 1) := by decide +kernel
theorem dX7_isMade_12 : decode cX7_isMade 12 = .ok (.if_icmp .lt 5, 3) := by decide +kernel
theorem dX7_isMade_15 : decode cX7_isMade 15 = .ok (.iconst 0, 1) := by decide +kernel
theorem dX7_isMade_16 : decode cX7_isMade 16 = .ok (.ireturn, 1) := by decide +kernel
theorem dX7_isMade_17 : decode cX7_isMade 17 = .ok (.aload_n 0, 1) := by decide +kernel
theorem dX7_isMade_18 : decode cX7_isMade 18 = .ok (.getfield 11, 3) := by decide +kernel
theorem dX7_isMade_21 : decode cX7_isMade 21 = .ok (.iload_n 1, 1) := by decide +kernel
theorem dX7_isMade_22 : decode cX7_isMade 22 = .ok (.iconst 1, 1) := by decide +kernel
theorem dX7_isMade_23 : decode cX7_isMade 23 = .ok (.iadd, 1) := by decide +kernel
theorem dX7_isMade_24 : decode cX7_isMade 24 = .ok (.aaload, 1) := by decide +kernel
theorem dX7_isMade_25 : decode cX7_isMade 25 = .ok (.astore_n 3, 1) := by decide +kernel
theorem dX7_isMade_26 : decode cX7_isMade 26 = .ok (.aload_n 3, 1) := by decide +kernel
theorem dX7_isMade_27 : decode cX7_isMade 27 = .ok (.aload_n 0, 1) := by decide +kernel
theorem dX7_isMade_28 : decode cX7_isMade 28 = .ok (.getfield 11, 3) := by decide +kernel
theorem dX7_isMade_31 : decode cX7_isMade 31 = .ok (.iload_n 1, 1) := by decide +kernel
theorem dX7_isMade_32 : decode cX7_isMade 32 = .ok (.aaload, 1) := by decide +kernel
theorem dX7_isMade_33 : decode cX7_isMade 33 = .ok (.invokevirtual 28, 3) := by decide +kernel
theorem dX7_isMade_36 : decode cX7_isMade 36 = .ok (.iload_n 2, 1) := by decide +kernel
theorem dX7_isMade_37 : decode cX7_isMade 37 = .ok (.bipush 6, 2) := by decide +kernel
theorem dX7_isMade_39 : decode cX7_isMade 39 = .ok (.isub, 1) := by decide +kernel
theorem dX7_isMade_40 : decode cX7_isMade 40 = .ok (.tableswitch 60 0 3 #[32, 39, 46, 53], 32) := by decide +kernel
theorem dX7_isMade_72 : decode cX7_isMade 72 = .ok (.aload_n 3, 1) := by decide +kernel
theorem dX7_isMade_73 : decode cX7_isMade 73 = .ok (.iconst (-1), 1) := by decide +kernel
theorem dX7_isMade_74 : decode cX7_isMade 74 = .ok (.iconst 0, 1) := by decide +kernel
theorem dX7_isMade_75 : decode cX7_isMade 75 = .ok (.invokevirtual 50, 3) := by decide +kernel
theorem dX7_isMade_78 : decode cX7_isMade 78 = .ok (.ireturn, 1) := by decide +kernel
theorem dX7_isMade_79 : decode cX7_isMade 79 = .ok (.aload_n 3, 1) := by decide +kernel
theorem dX7_isMade_80 : decode cX7_isMade 80 = .ok (.iconst 1, 1) := by decide +kernel
theorem dX7_isMade_81 : decode cX7_isMade 81 = .ok (.iconst 0, 1) := by decide +kernel
theorem dX7_isMade_82 : decode cX7_isMade 82 = .ok (.invokevirtual 50, 3) := by decide +kernel
theorem dX7_isMade_85 : decode cX7_isMade 85 = .ok (.ireturn, 1) := by decide +kernel
theorem dX7_isMade_86 : decode cX7_isMade 86 = .ok (.aload_n 3, 1) := by decide +kernel
theorem dX7_isMade_87 : decode cX7_isMade 87 = .ok (.iconst 0, 1) := by decide +kernel
theorem dX7_isMade_88 : decode cX7_isMade 88 = .ok (.iconst (-1), 1) := by decide +kernel
theorem dX7_isMade_89 : decode cX7_isMade 89 = .ok (.invokevirtual 50, 3) := by decide +kernel
theorem dX7_isMade_92 : decode cX7_isMade 92 = .ok (.ireturn, 1) := by decide +kernel
theorem dX7_isMade_93 : decode cX7_isMade 93 = .ok (.aload_n 3, 1) := by decide +kernel
theorem dX7_isMade_94 : decode cX7_isMade 94 = .ok (.iconst 0, 1) := by decide +kernel
theorem dX7_isMade_95 : decode cX7_isMade 95 = .ok (.iconst 1, 1) := by decide +kernel
theorem dX7_isMade_96 : decode cX7_isMade 96 = .ok (.invokevirtual 50, 3) := by decide +kernel
theorem dX7_isMade_99 : decode cX7_isMade 99 = .ok (.ireturn, 1) := by decide +kernel
theorem dX7_isMade_100 : decode cX7_isMade 100 = .ok (.iload_n 2, 1) := by decide +kernel
theorem dX7_isMade_101 : decode cX7_isMade 101 = .ok (.aload_n 0, 1) := by decide +kernel
theorem dX7_isMade_102 : decode cX7_isMade 102 = .ok (.getfield 21, 3) := by decide +kernel
theorem dX7_isMade_105 : decode cX7_isMade 105 = .ok (.getfield 54, 3) := by decide +kernel
theorem dX7_isMade_108 : decode cX7_isMade 108 = .ok (.if_icmp .ge 15, 3) := by decide +kernel
theorem dX7_isMade_111 : decode cX7_isMade 111 = .ok (.aload_n 3, 1) := by decide +kernel
theorem dX7_isMade_112 : decode cX7_isMade 112 = .ok (.iload_n 2, 1) := by decide +kernel
theorem dX7_isMade_113 : decode cX7_isMade 113 = .ok (.invokevirtual 59, 3) := by decide +kernel
theorem dX7_isMade_116 : decode cX7_isMade 116 = .ok (.ifCond .eq 7, 3) := by decide +kernel
theorem dX7_isMade_119 : decode cX7_isMade 119 = .ok (.iconst 1, 1) := by decide +kernel
theorem dX7_isMade_120 : decode cX7_isMade 120 = .ok (.goto 4, 3) := by decide +kernel
theorem dX7_isMade_123 : decode cX7_isMade 123 = .ok (.iconst 0, 1) := by decide +kernel
theorem dX7_isMade_124 : decode cX7_isMade 124 = .ok (.ireturn, 1) := by decide +kernel
theorem dX8_init_0 : decode cX8_init 0 = .ok (.aload_n 0, 1) := by decide +kernel
theorem dX8_init_1 : decode cX8_init 1 = .ok (.invokespecial 1, 3) := by decide +kernel
theorem dX8_init_4 : decode cX8_init 4 = .ok (.aload_n 0, 1) := by decide +kernel
theorem dX8_init_5 : decode cX8_init 5 = .ok (.iload_n 1, 1) := by decide +kernel
theorem dX8_init_6 : decode cX8_init 6 = .ok (.ifCond .ge 7, 3) := by decide +kernel
theorem dX8_init_9 : decode cX8_init 9 = .ok (.iconst 0, 1) := by decide +kernel
theorem dX8_init_10 : decode cX8_init 10 = .ok (.goto 4, 3) := by decide +kernel
theorem dX8_init_13 : decode cX8_init 13 = .ok (.iload_n 1, 1) := by decide +kernel
theorem dX8_init_14 : decode cX8_init 14 = .ok (.newarray .int, 2) := by decide +kernel
theorem dX8_init_16 : decode cX8_init 16 = .ok (.putfield 7, 3) := by decide +kernel
theorem dX8_init_19 : decode cX8_init 19 = .ok (.aload_n 0, 1) := by decide +kernel
theorem dX8_init_20 : decode cX8_init 20 = .ok (.getfield 7, 3) := by decide +kernel
theorem dX8_init_23 : decode cX8_init 23 = .ok (.iload_n 2, 1) := by decide +kernel
theorem dX8_init_24 : decode cX8_init 24 = .ok (.invokestatic 13, 3) := by decide +kernel
theorem dX8_init_27 : decode cX8_init 27 = .ok (.return_, 1) := by decide +kernel
theorem dX8_at_0 : decode cX8_at 0 = .ok (.iload_n 1, 1) := by decide +kernel
theorem dX8_at_1 : decode cX8_at 1 = .ok (.ifCond .lt 21, 3) := by decide +kernel
theorem dX8_at_4 : decode cX8_at 4 = .ok (.iload_n 1, 1) := by decide +kernel
theorem dX8_at_5 : decode cX8_at 5 = .ok (.aload_n 0, 1) := by decide +kernel
theorem dX8_at_6 : decode cX8_at 6 = .ok (.getfield 7, 3) := by decide +kernel
theorem dX8_at_9 : decode cX8_at 9 = .ok (.arraylength, 1) := by decide +kernel
theorem dX8_at_10 : decode cX8_at 10 = .ok (.if_icmp .ge 12, 3) := by decide +kernel
theorem dX8_at_13 : decode cX8_at 13 = .ok (.aload_n 0, 1) := by decide +kernel
theorem dX8_at_14 : decode cX8_at 14 = .ok (.getfield 7, 3) := by decide +kernel
theorem dX8_at_17 : decode cX8_at 17 = .ok (.iload_n 1, 1) := by decide +kernel
theorem dX8_at_18 : decode cX8_at 18 = .ok (.iaload, 1) := by decide +kernel
theorem dX8_at_19 : decode cX8_at 19 = .ok (.goto 4, 3) := by decide +kernel
theorem dX8_at_22 : decode cX8_at 22 = .ok (.iconst 0, 1) := by decide +kernel
theorem dX8_at_23 : decode cX8_at 23 = .ok (.ireturn, 1) := by decide +kernel
theorem dX8_put_0 : decode cX8_put 0 = .ok (.iload_n 1, 1) := by decide +kernel
theorem dX8_put_1 : decode cX8_put 1 = .ok (.ifCond .lt 19, 3) := by decide +kernel
theorem dX8_put_4 : decode cX8_put 4 = .ok (.iload_n 1, 1) := by decide +kernel
theorem dX8_put_5 : decode cX8_put 5 = .ok (.aload_n 0, 1) := by decide +kernel
theorem dX8_put_6 : decode cX8_put 6 = .ok (.getfield 7, 3) := by decide +kernel
theorem dX8_put_9 : decode cX8_put 9 = .ok (.arraylength, 1) := by decide +kernel
theorem dX8_put_10 : decode cX8_put 10 = .ok (.if_icmp .ge 10, 3) := by decide +kernel
theorem dX8_put_13 : decode cX8_put 13 = .ok (.aload_n 0, 1) := by decide +kernel
theorem dX8_put_14 : decode cX8_put 14 = .ok (.getfield 7, 3) := by decide +kernel
theorem dX8_put_17 : decode cX8_put 17 = .ok (.iload_n 1, 1) := by decide +kernel
theorem dX8_put_18 : decode cX8_put 18 = .ok (.iload_n 2, 1) := by decide +kernel
theorem dX8_put_19 : decode cX8_put 19 = .ok (.iastore, 1) := by decide +kernel
theorem dX8_put_20 : decode cX8_put 20 = .ok (.return_, 1) := by decide +kernel
theorem dX8_fill_0 : decode cX8_fill 0 = .ok (.aload_n 0, 1) := by decide +kernel
theorem dX8_fill_1 : decode cX8_fill 1 = .ok (.getfield 7, 3) := by decide +kernel
theorem dX8_fill_4 : decode cX8_fill 4 = .ok (.iload_n 1, 1) := by decide +kernel
theorem dX8_fill_5 : decode cX8_fill 5 = .ok (.invokestatic 13, 3) := by decide +kernel
theorem dX8_fill_8 : decode cX8_fill 8 = .ok (.return_, 1) := by decide +kernel
theorem dX8_copy_0 : decode cX8_copy 0 = .ok (.iconst 0, 1) := by decide +kernel
theorem dX8_copy_1 : decode cX8_copy 1 = .ok (.istore_n 2, 1) := by decide +kernel
theorem dX8_copy_2 : decode cX8_copy 2 = .ok (.iload_n 2, 1) := by decide +kernel
theorem dX8_copy_3 : decode cX8_copy 3 = .ok (.aload_n 0, 1) := by decide +kernel
theorem dX8_copy_4 : decode cX8_copy 4 = .ok (.getfield 7, 3) := by decide +kernel
theorem dX8_copy_7 : decode cX8_copy 7 = .ok (.arraylength, 1) := by decide +kernel
theorem dX8_copy_8 : decode cX8_copy 8 = .ok (.if_icmp .ge 20, 3) := by decide +kernel
theorem dX8_copy_11 : decode cX8_copy 11 = .ok (.aload_n 0, 1) := by decide +kernel
theorem dX8_copy_12 : decode cX8_copy 12 = .ok (.getfield 7, 3) := by decide +kernel
theorem dX8_copy_15 : decode cX8_copy 15 = .ok (.iload_n 2, 1) := by decide +kernel
theorem dX8_copy_16 : decode cX8_copy 16 = .ok (.aload_n 1, 1) := by decide +kernel
theorem dX8_copy_17 : decode cX8_copy 17 = .ok (.iload_n 2, 1) := by decide +kernel
theorem dX8_copy_18 : decode cX8_copy 18 = .ok (.invokevirtual 19, 3) := by decide +kernel
theorem dX8_copy_21 : decode cX8_copy 21 = .ok (.iastore, 1) := by decide +kernel
theorem dX8_copy_22 : decode cX8_copy 22 = .ok (.iinc 2 1, 3) := by decide +kernel
theorem dX8_copy_25 : decode cX8_copy 25 = .ok (.goto (-23), 3) := by decide +kernel
theorem dX8_copy_28 : decode cX8_copy 28 = .ok (.return_, 1) := by decide +kernel
theorem dX9_init_0 : decode cX9_init 0 = .ok (.aload_n 0, 1) := by decide +kernel
theorem dX9_init_1 : decode cX9_init 1 = .ok (.invokespecial 3, 3) := by decide +kernel
theorem dX9_init_4 : decode cX9_init 4 = .ok (.aload_n 0, 1) := by decide +kernel
theorem dX9_init_5 : decode cX9_init 5 = .ok (.new 9, 3) := by decide +kernel
theorem dX9_init_8 : decode cX9_init 8 = .ok (.dup, 1) := by decide +kernel
theorem dX9_init_9 : decode cX9_init 9 = .ok (.bipush 6, 2) := by decide +kernel
theorem dX9_init_11 : decode cX9_init 11 = .ok (.iconst (-1), 1) := by decide +kernel
theorem dX9_init_12 : decode cX9_init 12 = .ok (.invokespecial 11, 3) := by decide +kernel
theorem dX9_init_15 : decode cX9_init 15 = .ok (.putfield 14, 3) := by decide +kernel
theorem dX9_init_18 : decode cX9_init 18 = .ok (.aload_n 0, 1) := by decide +kernel
theorem dX9_init_19 : decode cX9_init 19 = .ok (.bipush 10, 2) := by decide +kernel
theorem dX9_init_21 : decode cX9_init 21 = .ok (.putfield 20, 3) := by decide +kernel
theorem dX9_init_24 : decode cX9_init 24 = .ok (.aload_n 0, 1) := by decide +kernel
theorem dX9_init_25 : decode cX9_init 25 = .ok (.bipush 10, 2) := by decide +kernel
theorem dX9_init_27 : decode cX9_init 27 = .ok (.putfield 24, 3) := by decide +kernel
theorem dX9_init_30 : decode cX9_init 30 = .ok (.aload_n 0, 1) := by decide +kernel
theorem dX9_init_31 : decode cX9_init 31 = .ok (.aload_n 1, 1) := by decide +kernel
theorem dX9_init_32 : decode cX9_init 32 = .ok (.putfield 27, 3) := by decide +kernel
theorem dX9_init_35 : decode cX9_init 35 = .ok (.aload_n 0, 1) := by decide +kernel
theorem dX9_init_36 : decode cX9_init 36 = .ok (.aload_n 2, 1) := by decide +kernel
theorem dX9_init_37 : decode cX9_init 37 = .ok (.putfield 31, 3) := by decide +kernel
theorem dX9_init_40 : decode cX9_init 40 = .ok (.aload_n 0, 1) := by decide +kernel
theorem dX9_init_41 : decode cX9_init 41 = .ok (.aload_n 3, 1) := by decide +kernel
theorem dX9_init_42 : decode cX9_init 42 = .ok (.putfield 35, 3) := by decide +kernel
theorem dX9_init_45 : decode cX9_init 45 = .ok (.return_, 1) := by decide +kernel
theorem dX9_copy_0 : decode cX9_copy 0 = .ok (.aload_n 0, 1) := by decide +kernel
theorem dX9_copy_1 : decode cX9_copy 1 = .ok (.aload_n 1, 1) := by decide +kernel
theorem dX9_copy_2 : decode cX9_copy 2 = .ok (.getfield 20, 3) := by decide +kernel
theorem dX9_copy_5 : decode cX9_copy 5 = .ok (.putfield 20, 3) := by decide +kernel
theorem dX9_copy_8 : decode cX9_copy 8 = .ok (.aload_n 0, 1) := by decide +kernel
theorem dX9_copy_9 : decode cX9_copy 9 = .ok (.aload_n 1, 1) := by decide +kernel
theorem dX9_copy_10 : decode cX9_copy 10 = .ok (.getfield 24, 3) := by decide +kernel
theorem dX9_copy_13 : decode cX9_copy 13 = .ok (.putfield 24, 3) := by decide +kernel
theorem dX9_copy_16 : decode cX9_copy 16 = .ok (.aload_n 0, 1) := by decide +kernel
theorem dX9_copy_17 : decode cX9_copy 17 = .ok (.getfield 14, 3) := by decide +kernel
theorem dX9_copy_20 : decode cX9_copy 20 = .ok (.aload_n 1, 1) := by decide +kernel
theorem dX9_copy_21 : decode cX9_copy 21 = .ok (.getfield 14, 3) := by decide +kernel
theorem dX9_copy_24 : decode cX9_copy 24 = .ok (.invokevirtual 39, 3) := by decide +kernel
theorem dX9_copy_27 : decode cX9_copy 27 = .ok (.return_, 1) := by decide +kernel
theorem dX9_hipX_0 : decode cX9_hipX 0 = .ok (.aload_n 0, 1) := by decide +kernel
theorem dX9_hipX_1 : decode cX9_hipX 1 = .ok (.getfield 20, 3) := by decide +kernel
theorem dX9_hipX_4 : decode cX9_hipX 4 = .ok (.aload_n 0, 1) := by decide +kernel
theorem dX9_hipX_5 : decode cX9_hipX 5 = .ok (.getfield 31, 3) := by decide +kernel
theorem dX9_hipX_8 : decode cX9_hipX 8 = .ok (.getfield 43, 3) := by decide +kernel
theorem dX9_hipX_11 : decode cX9_hipX 11 = .ok (.iload_n 1, 1) := by decide +kernel
theorem dX9_hipX_12 : decode cX9_hipX 12 = .ok (.invokevirtual 48, 3) := by decide +kernel
theorem dX9_hipX_15 : decode cX9_hipX 15 = .ok (.iadd, 1) := by decide +kernel
theorem dX9_hipX_16 : decode cX9_hipX 16 = .ok (.ireturn, 1) := by decide +kernel
theorem dX9_hipY_0 : decode cX9_hipY 0 = .ok (.aload_n 0, 1) := by decide +kernel
theorem dX9_hipY_1 : decode cX9_hipY 1 = .ok (.getfield 24, 3) := by decide +kernel
theorem dX9_hipY_4 : decode cX9_hipY 4 = .ok (.aload_n 0, 1) := by decide +kernel
theorem dX9_hipY_5 : decode cX9_hipY 5 = .ok (.getfield 31, 3) := by decide +kernel
theorem dX9_hipY_8 : decode cX9_hipY 8 = .ok (.getfield 52, 3) := by decide +kernel
theorem dX9_hipY_11 : decode cX9_hipY 11 = .ok (.iload_n 1, 1) := by decide +kernel
theorem dX9_hipY_12 : decode cX9_hipY 12 = .ok (.invokevirtual 48, 3) := by decide +kernel
theorem dX9_hipY_15 : decode cX9_hipY 15 = .ok (.iadd, 1) := by decide +kernel
theorem dX9_hipY_16 : decode cX9_hipY 16 = .ok (.ireturn, 1) := by decide +kernel
theorem dX9_isInReach_0 : decode cX9_isInReach 0 = .ok (.iload_n 2, 1) := by decide +kernel
theorem dX9_isInReach_1 : decode cX9_isInReach 1 = .ok (.invokestatic 55, 3) := by decide +kernel
theorem dX9_isInReach_4 : decode cX9_isInReach 4 = .ok (.aload_n 0, 1) := by decide +kernel
theorem dX9_isInReach_5 : decode cX9_isInReach 5 = .ok (.iload_n 1, 1) := by decide +kernel
theorem dX9_isInReach_6 : decode cX9_isInReach 6 = .ok (.invokevirtual 58, 3) := by decide +kernel
theorem dX9_isInReach_9 : decode cX9_isInReach 9 = .ok (.isub, 1) := by decide +kernel
theorem dX9_isInReach_10 : decode cX9_isInReach 10 = .ok (.istore_n 3, 1) := by decide +kernel
theorem dX9_isInReach_11 : decode cX9_isInReach 11 = .ok (.iload_n 2, 1) := by decide +kernel
theorem dX9_isInReach_12 : decode cX9_isInReach 12 = .ok (.invokestatic 60, 3) := by decide +kernel
theorem dX9_isInReach_15 : decode cX9_isInReach 15 = .ok (.aload_n 0, 1) := by decide +kernel
theorem dX9_isInReach_16 : decode cX9_isInReach 16 = .ok (.iload_n 1, 1) := by decide +kernel
theorem dX9_isInReach_17 : decode cX9_isInReach 17 = .ok (.invokevirtual 63, 3) := by decide +kernel
theorem dX9_isInReach_20 : decode cX9_isInReach 20 = .ok (.isub, 1) := by decide +kernel
theorem dX9_isInReach_21 : decode cX9_isInReach 21 = .ok (.istore 4, 2) := by decide +kernel
theorem dX9_isInReach_23 : decode cX9_isInReach 23 = .ok (.aload_n 0, 1) := by decide +kernel
theorem dX9_isInReach_24 : decode cX9_isInReach 24 = .ok (.getfield 31, 3) := by decide +kernel
theorem dX9_isInReach_27 : decode cX9_isInReach 27 = .ok (.getfield 65, 3) := by decide +kernel
theorem dX9_isInReach_30 : decode cX9_isInReach 30 = .ok (.iload_n 1, 1) := by decide +kernel
theorem dX9_isInReach_31 : decode cX9_isInReach 31 = .ok (.invokevirtual 48, 3) := by decide +kernel
theorem dX9_isInReach_34 : decode cX9_isInReach 34 = .ok (.istore 5, 2) := by decide +kernel
theorem dX9_isInReach_36 : decode cX9_isInReach 36 = .ok (.iload_n 3, 1) := by decide +kernel
theorem dX9_isInReach_37 : decode cX9_isInReach 37 = .ok (.iload_n 3, 1) := by decide +kernel
theorem dX9_isInReach_38 : decode cX9_isInReach 38 = .ok (.imul, 1) := by decide +kernel
theorem dX9_isInReach_39 : decode cX9_isInReach 39 = .ok (.iload 4, 2) := by decide +kernel
theorem dX9_isInReach_41 : decode cX9_isInReach 41 = .ok (.iload 4, 2) := by decide +kernel
theorem dX9_isInReach_43 : decode cX9_isInReach 43 = .ok (.imul, 1) := by decide +kernel
theorem dX9_isInReach_44 : decode cX9_isInReach 44 = .ok (.iadd, 1) := by decide +kernel
theorem dX9_isInReach_45 : decode cX9_isInReach 45 = .ok (.iload 5, 2) := by decide +kernel
theorem dX9_isInReach_47 : decode cX9_isInReach 47 = .ok (.iload 5, 2) := by decide +kernel
theorem dX9_isInReach_49 : decode cX9_isInReach 49 = .ok (.imul, 1) := by decide +kernel
theorem dX9_isInReach_50 : decode cX9_isInReach 50 = .ok (.if_icmp .gt 7, 3) := by decide +kernel
theorem dX9_isInReach_53 : decode cX9_isInReach 53 = .ok (.iconst 1, 1) := by decide +kernel
theorem dX9_isInReach_54 : decode cX9_isInReach 54 = .ok (.goto 4, 3) := by decide +kernel
theorem dX9_isInReach_57 : decode cX9_isInReach 57 = .ok (.iconst 0, 1) := by decide +kernel
theorem dX9_isInReach_58 : decode cX9_isInReach 58 = .ok (.ireturn, 1) := by decide +kernel
theorem dX9_far_0 : decode cX9_far 0 = .ok (.iload_n 2, 1) := by decide +kernel
theorem dX9_far_1 : decode cX9_far 1 = .ok (.invokestatic 55, 3) := by decide +kernel
theorem dX9_far_4 : decode cX9_far 4 = .ok (.aload_n 0, 1) := by decide +kernel
theorem dX9_far_5 : decode cX9_far 5 = .ok (.iload_n 1, 1) := by decide +kernel
theorem dX9_far_6 : decode cX9_far 6 = .ok (.invokevirtual 58, 3) := by decide +kernel
theorem dX9_far_9 : decode cX9_far 9 = .ok (.isub, 1) := by decide +kernel
theorem dX9_far_10 : decode cX9_far 10 = .ok (.invokestatic 68, 3) := by decide +kernel
theorem dX9_far_13 : decode cX9_far 13 = .ok (.iload_n 2, 1) := by decide +kernel
theorem dX9_far_14 : decode cX9_far 14 = .ok (.invokestatic 60, 3) := by decide +kernel
theorem dX9_far_17 : decode cX9_far 17 = .ok (.aload_n 0, 1) := by decide +kernel
theorem dX9_far_18 : decode cX9_far 18 = .ok (.iload_n 1, 1) := by decide +kernel
theorem dX9_far_19 : decode cX9_far 19 = .ok (.invokevirtual 63, 3) := by decide +kernel
theorem dX9_far_22 : decode cX9_far 22 = .ok (.isub, 1) := by decide +kernel
theorem dX9_far_23 : decode cX9_far 23 = .ok (.invokestatic 68, 3) := by decide +kernel
theorem dX9_far_26 : decode cX9_far 26 = .ok (.iadd, 1) := by decide +kernel
theorem dX9_far_27 : decode cX9_far 27 = .ok (.ireturn, 1) := by decide +kernel
theorem dX9_isTaken_0 : decode cX9_isTaken 0 = .ok (.iconst 0, 1) := by decide +kernel
theorem dX9_isTaken_1 : decode cX9_isTaken 1 = .ok (.istore_n 3, 1) := by decide +kernel
theorem dX9_isTaken_2 : decode cX9_isTaken 2 = .ok (.iload_n 3, 1) := by decide +kernel
theorem dX9_isTaken_3 : decode cX9_isTaken 3 = .ok (.bipush 6, 2) := by decide +kernel
theorem dX9_isTaken_5 : decode cX9_isTaken 5 = .ok (.if_icmp .ge 28, 3) := by decide +kernel
theorem dX9_isTaken_8 : decode cX9_isTaken 8 = .ok (.iload_n 3, 1) := by decide +kernel
theorem dX9_isTaken_9 : decode cX9_isTaken 9 = .ok (.iload_n 2, 1) := by decide +kernel
theorem dX9_isTaken_10 : decode cX9_isTaken 10 = .ok (.if_icmp .eq 17, 3) := by decide +kernel
theorem dX9_isTaken_13 : decode cX9_isTaken 13 = .ok (.aload_n 0, 1) := by decide +kernel
theorem dX9_isTaken_14 : decode cX9_isTaken 14 = .ok (.getfield 14, 3) := by decide +kernel
theorem dX9_isTaken_17 : decode cX9_isTaken 17 = .ok (.iload_n 3, 1) := by decide +kernel
theorem dX9_isTaken_18 : decode cX9_isTaken 18 = .ok (.invokevirtual 48, 3) := by decide +kernel
theorem dX9_isTaken_21 : decode cX9_isTaken 21 = .ok (.iload_n 1, 1) := by decide +kernel
theorem dX9_isTaken_22 : decode cX9_isTaken 22 = .ok (.if_icmp .ne 5, 3) := by decide +kernel
theorem dX9_isTaken_25 : decode cX9_isTaken 25 = .ok (.iconst 1, 1) := by decide +kernel
theorem dX9_isTaken_26 : decode cX9_isTaken 26 = .ok (.ireturn, 1) := by decide +kernel
theorem dX9_isTaken_27 : decode cX9_isTaken 27 = .ok (.iinc 3 1, 3) := by decide +kernel
theorem dX9_isTaken_30 : decode cX9_isTaken 30 = .ok (.goto (-28), 3) := by decide +kernel
theorem dX9_isTaken_33 : decode cX9_isTaken 33 = .ok (.iconst 0, 1) := by decide +kernel
theorem dX9_isTaken_34 : decode cX9_isTaken 34 = .ok (.ireturn, 1) := by decide +kernel
theorem dX9_down_0 : decode cX9_down 0 = .ok (.iconst 0, 1) := by decide +kernel
theorem dX9_down_1 : decode cX9_down 1 = .ok (.istore_n 1, 1) := by decide +kernel
theorem dX9_down_2 : decode cX9_down 2 = .ok (.iconst 0, 1) := by decide +kernel
theorem dX9_down_3 : decode cX9_down 3 = .ok (.istore_n 2, 1) := by decide +kernel
theorem dX9_down_4 : decode cX9_down 4 = .ok (.iload_n 2, 1) := by decide +kernel
theorem dX9_down_5 : decode cX9_down 5 = .ok (.bipush 6, 2) := by decide +kernel
theorem dX9_down_7 : decode cX9_down 7 = .ok (.if_icmp .ge 24, 3) := by decide +kernel
theorem dX9_down_10 : decode cX9_down 10 = .ok (.aload_n 0, 1) := by decide +kernel
theorem dX9_down_11 : decode cX9_down 11 = .ok (.getfield 14, 3) := by decide +kernel
theorem dX9_down_14 : decode cX9_down 14 = .ok (.iload_n 2, 1) := by decide +kernel
theorem dX9_down_15 : decode cX9_down 15 = .ok (.invokevirtual 48, 3) := by decide +kernel
theorem dX9_down_18 : decode cX9_down 18 = .ok (.iconst (-1), 1) := by decide +kernel
theorem dX9_down_19 : decode cX9_down 19 = .ok (.if_icmp .eq 6, 3) := by decide +kernel
theorem dX9_down_22 : decode cX9_down 22 = .ok (.iinc 1 1, 3) := by decide +kernel
theorem dX9_down_25 : decode cX9_down 25 = .ok (.iinc 2 1, 3) := by decide +kernel
theorem dX9_down_28 : decode cX9_down 28 = .ok (.goto (-24), 3) := by decide +kernel
theorem dX9_down_31 : decode cX9_down 31 = .ok (.iload_n 1, 1) := by decide +kernel
theorem dX9_down_32 : decode cX9_down 32 = .ok (.ireturn, 1) := by decide +kernel
theorem dX9_level_0 : decode cX9_level 0 = .ok (.iconst 0, 1) := by decide +kernel
theorem dX9_level_1 : decode cX9_level 1 = .ok (.istore_n 2, 1) := by decide +kernel
theorem dX9_level_2 : decode cX9_level 2 = .ok (.iconst 0, 1) := by decide +kernel
theorem dX9_level_3 : decode cX9_level 3 = .ok (.istore_n 3, 1) := by decide +kernel
theorem dX9_level_4 : decode cX9_level 4 = .ok (.iload_n 3, 1) := by decide +kernel
theorem dX9_level_5 : decode cX9_level 5 = .ok (.bipush 6, 2) := by decide +kernel
theorem dX9_level_7 : decode cX9_level 7 = .ok (.if_icmp .ge 47, 3) := by decide +kernel
theorem dX9_level_10 : decode cX9_level 10 = .ok (.aload_n 0, 1) := by decide +kernel
theorem dX9_level_11 : decode cX9_level 11 = .ok (.getfield 14, 3) := by decide +kernel
theorem dX9_level_14 : decode cX9_level 14 = .ok (.iload_n 3, 1) := by decide +kernel
theorem dX9_level_15 : decode cX9_level 15 = .ok (.invokevirtual 48, 3) := by decide +kernel
theorem dX9_level_18 : decode cX9_level 18 = .ok (.istore 4, 2) := by decide +kernel
theorem dX9_level_20 : decode cX9_level 20 = .ok (.iload_n 3, 1) := by decide +kernel
theorem dX9_level_21 : decode cX9_level 21 = .ok (.iload_n 1, 1) := by decide +kernel
theorem dX9_level_22 : decode cX9_level 22 = .ok (.if_icmp .eq 26, 3) := by decide +kernel
theorem dX9_level_25 : decode cX9_level 25 = .ok (.iload 4, 2) := by decide +kernel
theorem dX9_level_27 : decode cX9_level 27 = .ok (.iconst (-1), 1) := by decide +kernel
theorem dX9_level_28 : decode cX9_level 28 = .ok (.if_icmp .eq 20, 3) := by decide +kernel
theorem dX9_level_31 : decode cX9_level 31 = .ok (.iload_n 2, 1) := by decide +kernel
theorem dX9_level_32 : decode cX9_level 32 = .ok (.aload_n 0, 1) := by decide +kernel
theorem dX9_level_33 : decode cX9_level 33 = .ok (.getfield 27, 3) := by decide +kernel
theorem dX9_level_36 : decode cX9_level 36 = .ok (.getfield 73, 3) := by decide +kernel
theorem dX9_level_39 : decode cX9_level 39 = .ok (.iload 4, 2) := by decide +kernel
theorem dX9_level_41 : decode cX9_level 41 = .ok (.invokevirtual 48, 3) := by decide +kernel
theorem dX9_level_44 : decode cX9_level 44 = .ok (.invokestatic 78, 3) := by decide +kernel
theorem dX9_level_47 : decode cX9_level 47 = .ok (.istore_n 2, 1) := by decide +kernel
theorem dX9_level_48 : decode cX9_level 48 = .ok (.iinc 3 1, 3) := by decide +kernel
theorem dX9_level_51 : decode cX9_level 51 = .ok (.goto (-47), 3) := by decide +kernel
theorem dX9_level_54 : decode cX9_level 54 = .ok (.iload_n 2, 1) := by decide +kernel
theorem dX9_level_55 : decode cX9_level 55 = .ok (.ireturn, 1) := by decide +kernel
theorem dX9_pressure_0 : decode cX9_pressure 0 = .ok (.aload_n 0, 1) := by decide +kernel
theorem dX9_pressure_1 : decode cX9_pressure 1 = .ok (.getfield 31, 3) := by decide +kernel
theorem dX9_pressure_4 : decode cX9_pressure 4 = .ok (.invokevirtual 82, 3) := by decide +kernel
theorem dX9_pressure_7 : decode cX9_pressure 7 = .ok (.aload_n 0, 1) := by decide +kernel
theorem dX9_pressure_8 : decode cX9_pressure 8 = .ok (.invokevirtual 86, 3) := by decide +kernel
theorem dX9_pressure_11 : decode cX9_pressure 11 = .ok (.invokestatic 89, 3) := by decide +kernel
theorem dX9_pressure_14 : decode cX9_pressure 14 = .ok (.ireturn, 1) := by decide +kernel
theorem dX9_sinking_0 : decode cX9_sinking 0 = .ok (.aload_n 0, 1) := by decide +kernel
theorem dX9_sinking_1 : decode cX9_sinking 1 = .ok (.invokevirtual 92, 3) := by decide +kernel
theorem dX9_sinking_4 : decode cX9_sinking 4 = .ok (.istore_n 1, 1) := by decide +kernel
theorem dX9_sinking_5 : decode cX9_sinking 5 = .ok (.iconst 0, 1) := by decide +kernel
theorem dX9_sinking_6 : decode cX9_sinking 6 = .ok (.istore_n 2, 1) := by decide +kernel
theorem dX9_sinking_7 : decode cX9_sinking 7 = .ok (.iconst 0, 1) := by decide +kernel
theorem dX9_sinking_8 : decode cX9_sinking 8 = .ok (.istore_n 3, 1) := by decide +kernel
theorem dX9_sinking_9 : decode cX9_sinking 9 = .ok (.iload_n 3, 1) := by decide +kernel
theorem dX9_sinking_10 : decode cX9_sinking 10 = .ok (.bipush 6, 2) := by decide +kernel
theorem dX9_sinking_12 : decode cX9_sinking 12 = .ok (.if_icmp .ge 47, 3) := by decide +kernel
theorem dX9_sinking_15 : decode cX9_sinking 15 = .ok (.aload_n 0, 1) := by decide +kernel
theorem dX9_sinking_16 : decode cX9_sinking 16 = .ok (.getfield 14, 3) := by decide +kernel
theorem dX9_sinking_19 : decode cX9_sinking 19 = .ok (.iload_n 3, 1) := by decide +kernel
theorem dX9_sinking_20 : decode cX9_sinking 20 = .ok (.invokevirtual 48, 3) := by decide +kernel
theorem dX9_sinking_23 : decode cX9_sinking 23 = .ok (.istore 4, 2) := by decide +kernel
theorem dX9_sinking_25 : decode cX9_sinking 25 = .ok (.iload 4, 2) := by decide +kernel
theorem dX9_sinking_27 : decode cX9_sinking 27 = .ok (.iconst (-1), 1) := by decide +kernel
theorem dX9_sinking_28 : decode cX9_sinking 28 = .ok (.if_icmp .eq 25, 3) := by decide +kernel
theorem dX9_sinking_31 : decode cX9_sinking 31 = .ok (.aload_n 0, 1) := by decide +kernel
theorem dX9_sinking_32 : decode cX9_sinking 32 = .ok (.getfield 27, 3) := by decide +kernel
theorem dX9_sinking_35 : decode cX9_sinking 35 = .ok (.getfield 95, 3) := by decide +kernel
theorem dX9_sinking_38 : decode cX9_sinking 38 = .ok (.iload 4, 2) := by decide +kernel
theorem dX9_sinking_40 : decode cX9_sinking 40 = .ok (.invokevirtual 48, 3) := by decide +kernel
theorem dX9_sinking_43 : decode cX9_sinking 43 = .ok (.iload_n 1, 1) := by decide +kernel
theorem dX9_sinking_44 : decode cX9_sinking 44 = .ok (.if_icmp .ge 9, 3) := by decide +kernel
theorem dX9_sinking_47 : decode cX9_sinking 47 = .ok (.iload_n 2, 1) := by decide +kernel
theorem dX9_sinking_48 : decode cX9_sinking 48 = .ok (.iconst 1, 1) := by decide +kernel
theorem dX9_sinking_49 : decode cX9_sinking 49 = .ok (.iload_n 3, 1) := by decide +kernel
theorem dX9_sinking_50 : decode cX9_sinking 50 = .ok (.ishl, 1) := by decide +kernel
theorem dX9_sinking_51 : decode cX9_sinking 51 = .ok (.ior, 1) := by decide +kernel
theorem dX9_sinking_52 : decode cX9_sinking 52 = .ok (.istore_n 2, 1) := by decide +kernel
theorem dX9_sinking_53 : decode cX9_sinking 53 = .ok (.iinc 3 1, 3) := by decide +kernel
theorem dX9_sinking_56 : decode cX9_sinking 56 = .ok (.goto (-47), 3) := by decide +kernel
theorem dX9_sinking_59 : decode cX9_sinking 59 = .ok (.iload_n 2, 1) := by decide +kernel
theorem dX9_sinking_60 : decode cX9_sinking 60 = .ok (.ireturn, 1) := by decide +kernel
theorem dX9_raise_0 : decode cX9_raise 0 = .ok (.iconst 0, 1) := by decide +kernel
theorem dX9_raise_1 : decode cX9_raise 1 = .ok (.istore_n 2, 1) := by decide +kernel
theorem dX9_raise_2 : decode cX9_raise 2 = .ok (.iload_n 2, 1) := by decide +kernel
theorem dX9_raise_3 : decode cX9_raise 3 = .ok (.bipush 6, 2) := by decide +kernel
theorem dX9_raise_5 : decode cX9_raise 5 = .ok (.if_icmp .ge 26, 3) := by decide +kernel
theorem dX9_raise_8 : decode cX9_raise 8 = .ok (.iload_n 1, 1) := by decide +kernel
theorem dX9_raise_9 : decode cX9_raise 9 = .ok (.iload_n 2, 1) := by decide +kernel
theorem dX9_raise_10 : decode cX9_raise 10 = .ok (.ishr, 1) := by decide +kernel
theorem dX9_raise_11 : decode cX9_raise 11 = .ok (.iconst 1, 1) := by decide +kernel
theorem dX9_raise_12 : decode cX9_raise 12 = .ok (.iand, 1) := by decide +kernel
theorem dX9_raise_13 : decode cX9_raise 13 = .ok (.ifCond .eq 12, 3) := by decide +kernel
theorem dX9_raise_16 : decode cX9_raise 16 = .ok (.aload_n 0, 1) := by decide +kernel
theorem dX9_raise_17 : decode cX9_raise 17 = .ok (.getfield 14, 3) := by decide +kernel
theorem dX9_raise_20 : decode cX9_raise 20 = .ok (.iload_n 2, 1) := by decide +kernel
theorem dX9_raise_21 : decode cX9_raise 21 = .ok (.iconst (-1), 1) := by decide +kernel
theorem dX9_raise_22 : decode cX9_raise 22 = .ok (.invokevirtual 98, 3) := by decide +kernel
theorem dX9_raise_25 : decode cX9_raise 25 = .ok (.iinc 2 1, 3) := by decide +kernel
theorem dX9_raise_28 : decode cX9_raise 28 = .ok (.goto (-26), 3) := by decide +kernel
theorem dX9_raise_31 : decode cX9_raise 31 = .ok (.return_, 1) := by decide +kernel
theorem dX9_sinkAway_0 : decode cX9_sinkAway 0 = .ok (.aload_n 0, 1) := by decide +kernel
theorem dX9_sinkAway_1 : decode cX9_sinkAway 1 = .ok (.invokevirtual 101, 3) := by decide +kernel
theorem dX9_sinkAway_4 : decode cX9_sinkAway 4 = .ok (.istore_n 1, 1) := by decide +kernel
theorem dX9_sinkAway_5 : decode cX9_sinkAway 5 = .ok (.iload_n 1, 1) := by decide +kernel
theorem dX9_sinkAway_6 : decode cX9_sinkAway 6 = .ok (.istore_n 2, 1) := by decide +kernel
theorem dX9_sinkAway_7 : decode cX9_sinkAway 7 = .ok (.iconst 0, 1) := by decide +kernel
theorem dX9_sinkAway_8 : decode cX9_sinkAway 8 = .ok (.istore_n 3, 1) := by decide +kernel
theorem dX9_sinkAway_9 : decode cX9_sinkAway 9 = .ok (.iload_n 2, 1) := by decide +kernel
theorem dX9_sinkAway_10 : decode cX9_sinkAway 10 = .ok (.ifCond .eq 25, 3) := by decide +kernel
theorem dX9_sinkAway_13 : decode cX9_sinkAway 13 = .ok (.iload_n 3, 1) := by decide +kernel
theorem dX9_sinkAway_14 : decode cX9_sinkAway 14 = .ok (.bipush 6, 2) := by decide +kernel
theorem dX9_sinkAway_16 : decode cX9_sinkAway 16 = .ok (.if_icmp .ge 19, 3) := by decide +kernel
theorem dX9_sinkAway_19 : decode cX9_sinkAway 19 = .ok (.aload_n 0, 1) := by decide +kernel
theorem dX9_sinkAway_20 : decode cX9_sinkAway 20 = .ok (.iload_n 2, 1) := by decide +kernel
theorem dX9_sinkAway_21 : decode cX9_sinkAway 21 = .ok (.invokevirtual 104, 3) := by decide +kernel
theorem dX9_sinkAway_24 : decode cX9_sinkAway 24 = .ok (.aload_n 0, 1) := by decide +kernel
theorem dX9_sinkAway_25 : decode cX9_sinkAway 25 = .ok (.invokevirtual 101, 3) := by decide +kernel
theorem dX9_sinkAway_28 : decode cX9_sinkAway 28 = .ok (.istore_n 2, 1) := by decide +kernel
theorem dX9_sinkAway_29 : decode cX9_sinkAway 29 = .ok (.iinc 3 1, 3) := by decide +kernel
theorem dX9_sinkAway_32 : decode cX9_sinkAway 32 = .ok (.goto (-23), 3) := by decide +kernel
theorem dX9_sinkAway_35 : decode cX9_sinkAway 35 = .ok (.iload_n 1, 1) := by decide +kernel
theorem dX9_sinkAway_36 : decode cX9_sinkAway 36 = .ok (.ifCond .eq 7, 3) := by decide +kernel
theorem dX9_sinkAway_39 : decode cX9_sinkAway 39 = .ok (.iconst 1, 1) := by decide +kernel
theorem dX9_sinkAway_40 : decode cX9_sinkAway 40 = .ok (.goto 4, 3) := by decide +kernel
theorem dX9_sinkAway_43 : decode cX9_sinkAway 43 = .ok (.iconst 0, 1) := by decide +kernel
theorem dX9_sinkAway_44 : decode cX9_sinkAway 44 = .ok (.ireturn, 1) := by decide +kernel
theorem dX9_momentX_0 : decode cX9_momentX 0 = .ok (.bipush 10, 2) := by decide +kernel
theorem dX9_momentX_2 : decode cX9_momentX 2 = .ok (.aload_n 0, 1) := by decide +kernel
theorem dX9_momentX_3 : decode cX9_momentX 3 = .ok (.getfield 20, 3) := by decide +kernel
theorem dX9_momentX_6 : decode cX9_momentX 6 = .ok (.imul, 1) := by decide +kernel
theorem dX9_momentX_7 : decode cX9_momentX 7 = .ok (.aload_n 0, 1) := by decide +kernel
theorem dX9_momentX_8 : decode cX9_momentX 8 = .ok (.getfield 31, 3) := by decide +kernel
theorem dX9_momentX_11 : decode cX9_momentX 11 = .ok (.getfield 108, 3) := by decide +kernel
theorem dX9_momentX_14 : decode cX9_momentX 14 = .ok (.aload_n 0, 1) := by decide +kernel
theorem dX9_momentX_15 : decode cX9_momentX 15 = .ok (.getfield 20, 3) := by decide +kernel
theorem dX9_momentX_18 : decode cX9_momentX 18 = .ok (.aload_n 0, 1) := by decide +kernel
theorem dX9_momentX_19 : decode cX9_momentX 19 = .ok (.getfield 31, 3) := by decide +kernel
theorem dX9_momentX_22 : decode cX9_momentX 22 = .ok (.getfield 111, 3) := by decide +kernel
theorem dX9_momentX_25 : decode cX9_momentX 25 = .ok (.iadd, 1) := by decide +kernel
theorem dX9_momentX_26 : decode cX9_momentX 26 = .ok (.imul, 1) := by decide +kernel
theorem dX9_momentX_27 : decode cX9_momentX 27 = .ok (.iadd, 1) := by decide +kernel
theorem dX9_momentX_28 : decode cX9_momentX 28 = .ok (.ireturn, 1) := by decide +kernel
theorem dX9_momentY_0 : decode cX9_momentY 0 = .ok (.bipush 10, 2) := by decide +kernel
theorem dX9_momentY_2 : decode cX9_momentY 2 = .ok (.aload_n 0, 1) := by decide +kernel
theorem dX9_momentY_3 : decode cX9_momentY 3 = .ok (.getfield 24, 3) := by decide +kernel
theorem dX9_momentY_6 : decode cX9_momentY 6 = .ok (.imul, 1) := by decide +kernel
theorem dX9_momentY_7 : decode cX9_momentY 7 = .ok (.aload_n 0, 1) := by decide +kernel
theorem dX9_momentY_8 : decode cX9_momentY 8 = .ok (.getfield 31, 3) := by decide +kernel
theorem dX9_momentY_11 : decode cX9_momentY 11 = .ok (.getfield 108, 3) := by decide +kernel
theorem dX9_momentY_14 : decode cX9_momentY 14 = .ok (.aload_n 0, 1) := by decide +kernel
theorem dX9_momentY_15 : decode cX9_momentY 15 = .ok (.getfield 24, 3) := by decide +kernel
theorem dX9_momentY_18 : decode cX9_momentY 18 = .ok (.aload_n 0, 1) := by decide +kernel
theorem dX9_momentY_19 : decode cX9_momentY 19 = .ok (.getfield 31, 3) := by decide +kernel
theorem dX9_momentY_22 : decode cX9_momentY 22 = .ok (.getfield 114, 3) := by decide +kernel
theorem dX9_momentY_25 : decode cX9_momentY 25 = .ok (.iadd, 1) := by decide +kernel
theorem dX9_momentY_26 : decode cX9_momentY 26 = .ok (.imul, 1) := by decide +kernel
theorem dX9_momentY_27 : decode cX9_momentY 27 = .ok (.iadd, 1) := by decide +kernel
theorem dX9_momentY_28 : decode cX9_momentY 28 = .ok (.ireturn, 1) := by decide +kernel
theorem dX9_holdsWithout_0 : decode cX9_holdsWithout 0 = .ok (.aload_n 0, 1) := by decide +kernel
theorem dX9_holdsWithout_1 : decode cX9_holdsWithout 1 = .ok (.getfield 35, 3) := by decide +kernel
theorem dX9_holdsWithout_4 : decode cX9_holdsWithout 4 = .ok (.aload_n 0, 1) := by decide +kernel
theorem dX9_holdsWithout_5 : decode cX9_holdsWithout 5 = .ok (.getfield 14, 3) := by decide +kernel
theorem dX9_holdsWithout_8 : decode cX9_holdsWithout 8 = .ok (.iload_n 1, 1) := by decide +kernel
theorem dX9_holdsWithout_9 : decode cX9_holdsWithout 9 = .ok (.invokevirtual 117, 3) := by decide +kernel
theorem dX9_holdsWithout_12 : decode cX9_holdsWithout 12 = .ok (.aload_n 0, 1) := by decide +kernel
theorem dX9_holdsWithout_13 : decode cX9_holdsWithout 13 = .ok (.getfield 35, 3) := by decide +kernel
theorem dX9_holdsWithout_16 : decode cX9_holdsWithout 16 = .ok (.aload_n 0, 1) := by decide +kernel
theorem dX9_holdsWithout_17 : decode cX9_holdsWithout 17 = .ok (.invokevirtual 123, 3) := by decide +kernel
theorem dX9_holdsWithout_20 : decode cX9_holdsWithout 20 = .ok (.aload_n 0, 1) := by decide +kernel
theorem dX9_holdsWithout_21 : decode cX9_holdsWithout 21 = .ok (.invokevirtual 126, 3) := by decide +kernel
theorem dX9_holdsWithout_24 : decode cX9_holdsWithout 24 = .ok (.aload_n 0, 1) := by decide +kernel
theorem dX9_holdsWithout_25 : decode cX9_holdsWithout 25 = .ok (.getfield 31, 3) := by decide +kernel
theorem dX9_holdsWithout_28 : decode cX9_holdsWithout 28 = .ok (.invokevirtual 82, 3) := by decide +kernel
theorem dX9_holdsWithout_31 : decode cX9_holdsWithout 31 = .ok (.invokevirtual 129, 3) := by decide +kernel
theorem dX9_holdsWithout_34 : decode cX9_holdsWithout 34 = .ok (.ireturn, 1) := by decide +kernel
theorem dX9_direction_0 : decode cX9_direction 0 = .ok (.iconst 0, 1) := by decide +kernel
theorem dX9_direction_1 : decode cX9_direction 1 = .ok (.istore_n 1, 1) := by decide +kernel
theorem dX9_direction_2 : decode cX9_direction 2 = .ok (.iconst 0, 1) := by decide +kernel
theorem dX9_direction_3 : decode cX9_direction 3 = .ok (.istore_n 2, 1) := by decide +kernel
theorem dX9_direction_4 : decode cX9_direction 4 = .ok (.iconst 0, 1) := by decide +kernel
theorem dX9_direction_5 : decode cX9_direction 5 = .ok (.istore_n 3, 1) := by decide +kernel
theorem dX9_direction_6 : decode cX9_direction 6 = .ok (.iconst 0, 1) := by decide +kernel
theorem dX9_direction_7 : decode cX9_direction 7 = .ok (.istore 4, 2) := by decide +kernel
theorem dX9_direction_9 : decode cX9_direction 9 = .ok (.iload 4, 2) := by decide +kernel
theorem dX9_direction_11 : decode cX9_direction 11 = .ok (.bipush 6, 2) := by decide +kernel
theorem dX9_direction_13 : decode cX9_direction 13 = .ok (.if_icmp .ge 45, 3) := by decide +kernel
theorem dX9_direction_16 : decode cX9_direction 16 = .ok (.aload_n 0, 1) := by decide +kernel
theorem dX9_direction_17 : decode cX9_direction 17 = .ok (.getfield 14, 3) := by decide +kernel
theorem dX9_direction_20 : decode cX9_direction 20 = .ok (.iload 4, 2) := by decide +kernel
theorem dX9_direction_22 : decode cX9_direction 22 = .ok (.invokevirtual 48, 3) := by decide +kernel
theorem dX9_direction_25 : decode cX9_direction 25 = .ok (.istore 5, 2) := by decide +kernel
theorem dX9_direction_27 : decode cX9_direction 27 = .ok (.iload 5, 2) := by decide +kernel
theorem dX9_direction_29 : decode cX9_direction 29 = .ok (.iconst (-1), 1) := by decide +kernel
theorem dX9_direction_30 : decode cX9_direction 30 = .ok (.if_icmp .eq 22, 3) := by decide +kernel
theorem dX9_direction_33 : decode cX9_direction 33 = .ok (.iinc 1 1, 3) := by decide +kernel
theorem dX9_direction_36 : decode cX9_direction 36 = .ok (.iload_n 2, 1) := by decide +kernel
theorem dX9_direction_37 : decode cX9_direction 37 = .ok (.iload 5, 2) := by decide +kernel
theorem dX9_direction_39 : decode cX9_direction 39 = .ok (.invokestatic 55, 3) := by decide +kernel
theorem dX9_direction_42 : decode cX9_direction 42 = .ok (.iadd, 1) := by decide +kernel
theorem dX9_direction_43 : decode cX9_direction 43 = .ok (.istore_n 2, 1) := by decide +kernel
theorem dX9_direction_44 : decode cX9_direction 44 = .ok (.iload_n 3, 1) := by decide +kernel
theorem dX9_direction_45 : decode cX9_direction 45 = .ok (.iload 5, 2) := by decide +kernel
theorem dX9_direction_47 : decode cX9_direction 47 = .ok (.invokestatic 60, 3) := by decide +kernel
theorem dX9_direction_50 : decode cX9_direction 50 = .ok (.iadd, 1) := by decide +kernel
theorem dX9_direction_51 : decode cX9_direction 51 = .ok (.istore_n 3, 1) := by decide +kernel
theorem dX9_direction_52 : decode cX9_direction 52 = .ok (.iinc 4 1, 3) := by decide +kernel
theorem dX9_direction_55 : decode cX9_direction 55 = .ok (.goto (-46), 3) := by decide +kernel
theorem dX9_direction_58 : decode cX9_direction 58 = .ok (.aload_n 0, 1) := by decide +kernel
theorem dX9_direction_59 : decode cX9_direction 59 = .ok (.invokevirtual 123, 3) := by decide +kernel
theorem dX9_direction_62 : decode cX9_direction 62 = .ok (.iload_n 1, 1) := by decide +kernel
theorem dX9_direction_63 : decode cX9_direction 63 = .ok (.imul, 1) := by decide +kernel
theorem dX9_direction_64 : decode cX9_direction 64 = .ok (.iload_n 2, 1) := by decide +kernel
theorem dX9_direction_65 : decode cX9_direction 65 = .ok (.aload_n 0, 1) := by decide +kernel
theorem dX9_direction_66 : decode cX9_direction 66 = .ok (.getfield 31, 3) := by decide +kernel
theorem dX9_direction_69 : decode cX9_direction 69 = .ok (.invokevirtual 82, 3) := by decide +kernel
theorem dX9_direction_72 : decode cX9_direction 72 = .ok (.imul, 1) := by decide +kernel
theorem dX9_direction_73 : decode cX9_direction 73 = .ok (.isub, 1) := by decide +kernel
theorem dX9_direction_74 : decode cX9_direction 74 = .ok (.invokestatic 133, 3) := by decide +kernel
theorem dX9_direction_77 : decode cX9_direction 77 = .ok (.istore 4, 2) := by decide +kernel
theorem dX9_direction_79 : decode cX9_direction 79 = .ok (.aload_n 0, 1) := by decide +kernel
theorem dX9_direction_80 : decode cX9_direction 80 = .ok (.invokevirtual 126, 3) := by decide +kernel
theorem dX9_direction_83 : decode cX9_direction 83 = .ok (.iload_n 1, 1) := by decide +kernel
theorem dX9_direction_84 : decode cX9_direction 84 = .ok (.imul, 1) := by decide +kernel
theorem dX9_direction_85 : decode cX9_direction 85 = .ok (.iload_n 3, 1) := by decide +kernel
theorem dX9_direction_86 : decode cX9_direction 86 = .ok (.aload_n 0, 1) := by decide +kernel
theorem dX9_direction_87 : decode cX9_direction 87 = .ok (.getfield 31, 3) := by decide +kernel
theorem dX9_direction_90 : decode cX9_direction 90 = .ok (.invokevirtual 82, 3) := by decide +kernel
theorem dX9_direction_93 : decode cX9_direction 93 = .ok (.imul, 1) := by decide +kernel
theorem dX9_direction_94 : decode cX9_direction 94 = .ok (.isub, 1) := by decide +kernel
theorem dX9_direction_95 : decode cX9_direction 95 = .ok (.invokestatic 133, 3) := by decide +kernel
theorem dX9_direction_98 : decode cX9_direction 98 = .ok (.istore 5, 2) := by decide +kernel
theorem dX9_direction_100 : decode cX9_direction 100 = .ok (.iconst 3, 1) := by decide +kernel
theorem dX9_direction_101 : decode cX9_direction 101 = .ok (.iload 4, 2) := by decide +kernel
theorem dX9_direction_103 : decode cX9_direction 103 = .ok (.iconst 1, 1) := by decide +kernel
theorem dX9_direction_104 : decode cX9_direction 104 = .ok (.iadd, 1) := by decide +kernel
theorem dX9_direction_105 : decode cX9_direction 105 = .ok (.imul, 1) := by decide +kernel
theorem dX9_direction_106 : decode cX9_direction 106 = .ok (.iload 5, 2) := by decide +kernel
theorem dX9_direction_108 : decode cX9_direction 108 = .ok (.iadd, 1) := by decide +kernel
theorem dX9_direction_109 : decode cX9_direction 109 = .ok (.iconst 1, 1) := by decide +kernel
theorem dX9_direction_110 : decode cX9_direction 110 = .ok (.iadd, 1) := by decide +kernel
theorem dX9_direction_111 : decode cX9_direction 111 = .ok (.ireturn, 1) := by decide +kernel
theorem dX9_moveBody_0 : decode cX9_moveBody 0 = .ok (.aload_n 0, 1) := by decide +kernel
theorem dX9_moveBody_1 : decode cX9_moveBody 1 = .ok (.dup, 1) := by decide +kernel
theorem dX9_moveBody_2 : decode cX9_moveBody 2 = .ok (.getfield 20, 3) := by decide +kernel
theorem dX9_moveBody_5 : decode cX9_moveBody 5 = .ok (.iload_n 1, 1) := by decide +kernel
theorem dX9_moveBody_6 : decode cX9_moveBody 6 = .ok (.iadd, 1) := by decide +kernel
theorem dX9_moveBody_7 : decode cX9_moveBody 7 = .ok (.putfield 20, 3) := by decide +kernel
theorem dX9_moveBody_10 : decode cX9_moveBody 10 = .ok (.aload_n 0, 1) := by decide +kernel
theorem dX9_moveBody_11 : decode cX9_moveBody 11 = .ok (.dup, 1) := by decide +kernel
theorem dX9_moveBody_12 : decode cX9_moveBody 12 = .ok (.getfield 24, 3) := by decide +kernel
theorem dX9_moveBody_15 : decode cX9_moveBody 15 = .ok (.iload_n 2, 1) := by decide +kernel
theorem dX9_moveBody_16 : decode cX9_moveBody 16 = .ok (.iadd, 1) := by decide +kernel
theorem dX9_moveBody_17 : decode cX9_moveBody 17 = .ok (.putfield 24, 3) := by decide +kernel
theorem dX9_moveBody_20 : decode cX9_moveBody 20 = .ok (.aload_n 0, 1) := by decide +kernel
theorem dX9_moveBody_21 : decode cX9_moveBody 21 = .ok (.getfield 20, 3) := by decide +kernel
theorem dX9_moveBody_24 : decode cX9_moveBody 24 = .ok (.aload_n 0, 1) := by decide +kernel
theorem dX9_moveBody_25 : decode cX9_moveBody 25 = .ok (.getfield 24, 3) := by decide +kernel
theorem dX9_moveBody_28 : decode cX9_moveBody 28 = .ok (.invokestatic 138, 3) := by decide +kernel
theorem dX9_moveBody_31 : decode cX9_moveBody 31 = .ok (.iconst (-1), 1) := by decide +kernel
theorem dX9_moveBody_32 : decode cX9_moveBody 32 = .ok (.if_icmp .ne 5, 3) := by decide +kernel
theorem dX9_moveBody_35 : decode cX9_moveBody 35 = .ok (.iconst 0, 1) := by decide +kernel
theorem dX9_moveBody_36 : decode cX9_moveBody 36 = .ok (.ireturn, 1) := by decide +kernel
theorem dX9_moveBody_37 : decode cX9_moveBody 37 = .ok (.iconst 0, 1) := by decide +kernel
theorem dX9_moveBody_38 : decode cX9_moveBody 38 = .ok (.istore_n 3, 1) := by decide +kernel
theorem dX9_moveBody_39 : decode cX9_moveBody 39 = .ok (.iload_n 3, 1) := by decide +kernel
theorem dX9_moveBody_40 : decode cX9_moveBody 40 = .ok (.bipush 6, 2) := by decide +kernel
theorem dX9_moveBody_42 : decode cX9_moveBody 42 = .ok (.if_icmp .ge 37, 3) := by decide +kernel
theorem dX9_moveBody_45 : decode cX9_moveBody 45 = .ok (.aload_n 0, 1) := by decide +kernel
theorem dX9_moveBody_46 : decode cX9_moveBody 46 = .ok (.getfield 14, 3) := by decide +kernel
theorem dX9_moveBody_49 : decode cX9_moveBody 49 = .ok (.iload_n 3, 1) := by decide +kernel
theorem dX9_moveBody_50 : decode cX9_moveBody 50 = .ok (.invokevirtual 48, 3) := by decide +kernel
theorem dX9_moveBody_53 : decode cX9_moveBody 53 = .ok (.istore 4, 2) := by decide +kernel
theorem dX9_moveBody_55 : decode cX9_moveBody 55 = .ok (.iload 4, 2) := by decide +kernel
theorem dX9_moveBody_57 : decode cX9_moveBody 57 = .ok (.iconst (-1), 1) := by decide +kernel
theorem dX9_moveBody_58 : decode cX9_moveBody 58 = .ok (.if_icmp .eq 15, 3) := by decide +kernel
theorem dX9_moveBody_61 : decode cX9_moveBody 61 = .ok (.aload_n 0, 1) := by decide +kernel
theorem dX9_moveBody_62 : decode cX9_moveBody 62 = .ok (.iload_n 3, 1) := by decide +kernel
theorem dX9_moveBody_63 : decode cX9_moveBody 63 = .ok (.iload 4, 2) := by decide +kernel
theorem dX9_moveBody_65 : decode cX9_moveBody 65 = .ok (.invokevirtual 141, 3) := by decide +kernel
theorem dX9_moveBody_68 : decode cX9_moveBody 68 = .ok (.ifCond .ne 5, 3) := by decide +kernel
theorem dX9_moveBody_71 : decode cX9_moveBody 71 = .ok (.iconst 0, 1) := by decide +kernel
theorem dX9_moveBody_72 : decode cX9_moveBody 72 = .ok (.ireturn, 1) := by decide +kernel
theorem dX9_moveBody_73 : decode cX9_moveBody 73 = .ok (.iinc 3 1, 3) := by decide +kernel
theorem dX9_moveBody_76 : decode cX9_moveBody 76 = .ok (.goto (-37), 3) := by decide +kernel
theorem dX9_moveBody_79 : decode cX9_moveBody 79 = .ok (.aload_n 0, 1) := by decide +kernel
theorem dX9_moveBody_80 : decode cX9_moveBody 80 = .ok (.iconst (-1), 1) := by decide +kernel
theorem dX9_moveBody_81 : decode cX9_moveBody 81 = .ok (.invokevirtual 145, 3) := by decide +kernel
theorem dX9_moveBody_84 : decode cX9_moveBody 84 = .ok (.ireturn, 1) := by decide +kernel
theorem dX9_step_0 : decode cX9_step 0 = .ok (.aload_n 0, 1) := by decide +kernel
theorem dX9_step_1 : decode cX9_step 1 = .ok (.getfield 14, 3) := by decide +kernel
theorem dX9_step_4 : decode cX9_step 4 = .ok (.iload_n 1, 1) := by decide +kernel
theorem dX9_step_5 : decode cX9_step 5 = .ok (.invokevirtual 48, 3) := by decide +kernel
theorem dX9_step_8 : decode cX9_step 8 = .ok (.iconst (-1), 1) := by decide +kernel
theorem dX9_step_9 : decode cX9_step 9 = .ok (.if_icmp .eq 13, 3) := by decide +kernel
theorem dX9_step_12 : decode cX9_step 12 = .ok (.aload_n 0, 1) := by decide +kernel
theorem dX9_step_13 : decode cX9_step 13 = .ok (.iload_n 1, 1) := by decide +kernel
theorem dX9_step_14 : decode cX9_step 14 = .ok (.invokevirtual 145, 3) := by decide +kernel
theorem dX9_step_17 : decode cX9_step 17 = .ok (.ifCond .ne 5, 3) := by decide +kernel
theorem dX9_step_20 : decode cX9_step 20 = .ok (.iconst 0, 1) := by decide +kernel
theorem dX9_step_21 : decode cX9_step 21 = .ok (.ireturn, 1) := by decide +kernel
theorem dX9_step_22 : decode cX9_step 22 = .ok (.aload_n 0, 1) := by decide +kernel
theorem dX9_step_23 : decode cX9_step 23 = .ok (.iload_n 1, 1) := by decide +kernel
theorem dX9_step_24 : decode cX9_step 24 = .ok (.invokevirtual 149, 3) := by decide +kernel
theorem dX9_step_27 : decode cX9_step 27 = .ok (.istore_n 2, 1) := by decide +kernel
theorem dX9_step_28 : decode cX9_step 28 = .ok (.iload_n 2, 1) := by decide +kernel
theorem dX9_step_29 : decode cX9_step 29 = .ok (.iconst (-1), 1) := by decide +kernel
theorem dX9_step_30 : decode cX9_step 30 = .ok (.if_icmp .ne 5, 3) := by decide +kernel
theorem dX9_step_33 : decode cX9_step 33 = .ok (.iconst 0, 1) := by decide +kernel
theorem dX9_step_34 : decode cX9_step 34 = .ok (.ireturn, 1) := by decide +kernel
theorem dX9_step_35 : decode cX9_step 35 = .ok (.aload_n 0, 1) := by decide +kernel
theorem dX9_step_36 : decode cX9_step 36 = .ok (.getfield 14, 3) := by decide +kernel
theorem dX9_step_39 : decode cX9_step 39 = .ok (.iload_n 1, 1) := by decide +kernel
theorem dX9_step_40 : decode cX9_step 40 = .ok (.iload_n 2, 1) := by decide +kernel
theorem dX9_step_41 : decode cX9_step 41 = .ok (.invokevirtual 98, 3) := by decide +kernel
theorem dX9_step_44 : decode cX9_step 44 = .ok (.iconst 1, 1) := by decide +kernel
theorem dX9_step_45 : decode cX9_step 45 = .ok (.ireturn, 1) := by decide +kernel
theorem dX9_bestPoint_0 : decode cX9_bestPoint 0 = .ok (.aload_n 0, 1) := by decide +kernel
theorem dX9_bestPoint_1 : decode cX9_bestPoint 1 = .ok (.iload_n 1, 1) := by decide +kernel
theorem dX9_bestPoint_2 : decode cX9_bestPoint 2 = .ok (.invokevirtual 152, 3) := by decide +kernel
theorem dX9_bestPoint_5 : decode cX9_bestPoint 5 = .ok (.istore_n 2, 1) := by decide +kernel
theorem dX9_bestPoint_6 : decode cX9_bestPoint 6 = .ok (.aload_n 0, 1) := by decide +kernel
theorem dX9_bestPoint_7 : decode cX9_bestPoint 7 = .ok (.iload_n 1, 1) := by decide +kernel
theorem dX9_bestPoint_8 : decode cX9_bestPoint 8 = .ok (.invokevirtual 58, 3) := by decide +kernel
theorem dX9_bestPoint_11 : decode cX9_bestPoint 11 = .ok (.istore_n 3, 1) := by decide +kernel
theorem dX9_bestPoint_12 : decode cX9_bestPoint 12 = .ok (.aload_n 0, 1) := by decide +kernel
theorem dX9_bestPoint_13 : decode cX9_bestPoint 13 = .ok (.iload_n 1, 1) := by decide +kernel
theorem dX9_bestPoint_14 : decode cX9_bestPoint 14 = .ok (.invokevirtual 63, 3) := by decide +kernel
theorem dX9_bestPoint_17 : decode cX9_bestPoint 17 = .ok (.istore 4, 2) := by decide +kernel
theorem dX9_bestPoint_19 : decode cX9_bestPoint 19 = .ok (.aload_n 0, 1) := by decide +kernel
theorem dX9_bestPoint_20 : decode cX9_bestPoint 20 = .ok (.getfield 31, 3) := by decide +kernel
theorem dX9_bestPoint_23 : decode cX9_bestPoint 23 = .ok (.getfield 65, 3) := by decide +kernel
theorem dX9_bestPoint_26 : decode cX9_bestPoint 26 = .ok (.iload_n 1, 1) := by decide +kernel
theorem dX9_bestPoint_27 : decode cX9_bestPoint 27 = .ok (.invokevirtual 48, 3) := by decide +kernel
theorem dX9_bestPoint_30 : decode cX9_bestPoint 30 = .ok (.istore 5, 2) := by decide +kernel
theorem dX9_bestPoint_32 : decode cX9_bestPoint 32 = .ok (.iconst (-1), 1) := by decide +kernel
theorem dX9_bestPoint_33 : decode cX9_bestPoint 33 = .ok (.istore 6, 2) := by decide +kernel
theorem dX9_bestPoint_35 : decode cX9_bestPoint 35 = .ok (.ldc 155, 2) := by decide +kernel
theorem dX9_bestPoint_37 : decode cX9_bestPoint 37 = .ok (.istore 7, 2) := by decide +kernel
theorem dX9_bestPoint_39 : decode cX9_bestPoint 39 = .ok (.iconst 0, 1) := by decide +kernel
theorem dX9_bestPoint_40 : decode cX9_bestPoint 40 = .ok (.istore 8, 2) := by decide +kernel
theorem dX9_bestPoint_42 : decode cX9_bestPoint 42 = .ok (.iload 8, 2) := by decide +kernel
theorem dX9_bestPoint_44 : decode cX9_bestPoint 44 = .ok (.bipush 8, 2) := by decide +kernel
theorem dX9_bestPoint_46 : decode cX9_bestPoint 46 = .ok (.if_icmp .gt 163, 3) := by decide +kernel
theorem dX9_bestPoint_49 : decode cX9_bestPoint 49 = .ok (.iload 8, 2) := by decide +kernel
theorem dX9_bestPoint_51 : decode cX9_bestPoint 51 = .ok (.iload 7, 2) := by decide +kernel
theorem dX9_bestPoint_53 : decode cX9_bestPoint 53 = .ok (.if_icmp .ge 156, 3) := by decide +kernel
theorem dX9_bestPoint_56 : decode cX9_bestPoint 56 = .ok (.iload 8, 2) := by decide +kernel
theorem dX9_bestPoint_58 : decode cX9_bestPoint 58 = .ok (.ineg, 1) := by decide +kernel
theorem dX9_bestPoint_59 : decode cX9_bestPoint 59 = .ok (.istore 9, 2) := by decide +kernel
theorem dX9_bestPoint_61 : decode cX9_bestPoint 61 = .ok (.iload 9, 2) := by decide +kernel
theorem dX9_bestPoint_63 : decode cX9_bestPoint 63 = .ok (.iload 8, 2) := by decide +kernel
theorem dX9_bestPoint_65 : decode cX9_bestPoint 65 = .ok (.if_icmp .gt 138, 3) := by decide +kernel
theorem dX9_bestPoint_68 : decode cX9_bestPoint 68 = .ok (.iload 8, 2) := by decide +kernel
theorem dX9_bestPoint_70 : decode cX9_bestPoint 70 = .ok (.iload 9, 2) := by decide +kernel
theorem dX9_bestPoint_72 : decode cX9_bestPoint 72 = .ok (.invokestatic 68, 3) := by decide +kernel
theorem dX9_bestPoint_75 : decode cX9_bestPoint 75 = .ok (.isub, 1) := by decide +kernel
theorem dX9_bestPoint_76 : decode cX9_bestPoint 76 = .ok (.istore 10, 2) := by decide +kernel
theorem dX9_bestPoint_78 : decode cX9_bestPoint 78 = .ok (.iconst (-1), 1) := by decide +kernel
theorem dX9_bestPoint_79 : decode cX9_bestPoint 79 = .ok (.istore 11, 2) := by decide +kernel
theorem dX9_bestPoint_81 : decode cX9_bestPoint 81 = .ok (.iload 11, 2) := by decide +kernel
theorem dX9_bestPoint_83 : decode cX9_bestPoint 83 = .ok (.iconst 1, 1) := by decide +kernel
theorem dX9_bestPoint_84 : decode cX9_bestPoint 84 = .ok (.if_icmp .gt 113, 3) := by decide +kernel
theorem dX9_bestPoint_87 : decode cX9_bestPoint 87 = .ok (.iload_n 3, 1) := by decide +kernel
theorem dX9_bestPoint_88 : decode cX9_bestPoint 88 = .ok (.iload 11, 2) := by decide +kernel
theorem dX9_bestPoint_90 : decode cX9_bestPoint 90 = .ok (.iload 10, 2) := by decide +kernel
theorem dX9_bestPoint_92 : decode cX9_bestPoint 92 = .ok (.imul, 1) := by decide +kernel
theorem dX9_bestPoint_93 : decode cX9_bestPoint 93 = .ok (.iadd, 1) := by decide +kernel
theorem dX9_bestPoint_94 : decode cX9_bestPoint 94 = .ok (.iload 4, 2) := by decide +kernel
theorem dX9_bestPoint_96 : decode cX9_bestPoint 96 = .ok (.iload 9, 2) := by decide +kernel
theorem dX9_bestPoint_98 : decode cX9_bestPoint 98 = .ok (.iadd, 1) := by decide +kernel
theorem dX9_bestPoint_99 : decode cX9_bestPoint 99 = .ok (.invokestatic 138, 3) := by decide +kernel
theorem dX9_bestPoint_102 : decode cX9_bestPoint 102 = .ok (.istore 12, 2) := by decide +kernel
theorem dX9_bestPoint_104 : decode cX9_bestPoint 104 = .ok (.aload_n 0, 1) := by decide +kernel
theorem dX9_bestPoint_105 : decode cX9_bestPoint 105 = .ok (.getfield 27, 3) := by decide +kernel
theorem dX9_bestPoint_108 : decode cX9_bestPoint 108 = .ok (.getfield 73, 3) := by decide +kernel
theorem dX9_bestPoint_111 : decode cX9_bestPoint 111 = .ok (.iload 12, 2) := by decide +kernel
theorem dX9_bestPoint_113 : decode cX9_bestPoint 113 = .ok (.invokevirtual 48, 3) := by decide +kernel
theorem dX9_bestPoint_116 : decode cX9_bestPoint 116 = .ok (.iload_n 2, 1) := by decide +kernel
theorem dX9_bestPoint_117 : decode cX9_bestPoint 117 = .ok (.isub, 1) := by decide +kernel
theorem dX9_bestPoint_118 : decode cX9_bestPoint 118 = .ok (.invokestatic 68, 3) := by decide +kernel
theorem dX9_bestPoint_121 : decode cX9_bestPoint 121 = .ok (.istore 13, 2) := by decide +kernel
theorem dX9_bestPoint_123 : decode cX9_bestPoint 123 = .ok (.iload 12, 2) := by decide +kernel
theorem dX9_bestPoint_125 : decode cX9_bestPoint 125 = .ok (.iconst (-1), 1) := by decide +kernel
theorem dX9_bestPoint_126 : decode cX9_bestPoint 126 = .ok (.if_icmp .eq 65, 3) := by decide +kernel
theorem dX9_bestPoint_129 : decode cX9_bestPoint 129 = .ok (.iload 10, 2) := by decide +kernel
theorem dX9_bestPoint_131 : decode cX9_bestPoint 131 = .ok (.iload 10, 2) := by decide +kernel
theorem dX9_bestPoint_133 : decode cX9_bestPoint 133 = .ok (.imul, 1) := by decide +kernel
theorem dX9_bestPoint_134 : decode cX9_bestPoint 134 = .ok (.iload 9, 2) := by decide +kernel
theorem dX9_bestPoint_136 : decode cX9_bestPoint 136 = .ok (.iload 9, 2) := by decide +kernel
theorem dX9_bestPoint_138 : decode cX9_bestPoint 138 = .ok (.imul, 1) := by decide +kernel
theorem dX9_bestPoint_139 : decode cX9_bestPoint 139 = .ok (.iadd, 1) := by decide +kernel
theorem dX9_bestPoint_140 : decode cX9_bestPoint 140 = .ok (.iload 5, 2) := by decide +kernel
theorem dX9_bestPoint_142 : decode cX9_bestPoint 142 = .ok (.iload 5, 2) := by decide +kernel
theorem dX9_bestPoint_144 : decode cX9_bestPoint 144 = .ok (.imul, 1) := by decide +kernel
theorem dX9_bestPoint_145 : decode cX9_bestPoint 145 = .ok (.if_icmp .gt 46, 3) := by decide +kernel
theorem dX9_bestPoint_148 : decode cX9_bestPoint 148 = .ok (.iload 13, 2) := by decide +kernel
theorem dX9_bestPoint_150 : decode cX9_bestPoint 150 = .ok (.iconst 2, 1) := by decide +kernel
theorem dX9_bestPoint_151 : decode cX9_bestPoint 151 = .ok (.if_icmp .gt 40, 3) := by decide +kernel
theorem dX9_bestPoint_154 : decode cX9_bestPoint 154 = .ok (.bipush 10, 2) := by decide +kernel
theorem dX9_bestPoint_156 : decode cX9_bestPoint 156 = .ok (.iload 13, 2) := by decide +kernel
theorem dX9_bestPoint_158 : decode cX9_bestPoint 158 = .ok (.imul, 1) := by decide +kernel
theorem dX9_bestPoint_159 : decode cX9_bestPoint 159 = .ok (.iload 8, 2) := by decide +kernel
theorem dX9_bestPoint_161 : decode cX9_bestPoint 161 = .ok (.iadd, 1) := by decide +kernel
theorem dX9_bestPoint_162 : decode cX9_bestPoint 162 = .ok (.iload 7, 2) := by decide +kernel
theorem dX9_bestPoint_164 : decode cX9_bestPoint 164 = .ok (.if_icmp .ge 27, 3) := by decide +kernel
theorem dX9_bestPoint_167 : decode cX9_bestPoint 167 = .ok (.aload_n 0, 1) := by decide +kernel
theorem dX9_bestPoint_168 : decode cX9_bestPoint 168 = .ok (.iload 12, 2) := by decide +kernel
theorem dX9_bestPoint_170 : decode cX9_bestPoint 170 = .ok (.iload_n 1, 1) := by decide +kernel
theorem dX9_bestPoint_171 : decode cX9_bestPoint 171 = .ok (.invokevirtual 156, 3) := by decide +kernel
theorem dX9_bestPoint_174 : decode cX9_bestPoint 174 = .ok (.ifCond .ne 17, 3) := by decide +kernel
theorem dX9_bestPoint_177 : decode cX9_bestPoint 177 = .ok (.bipush 10, 2) := by decide +kernel
theorem dX9_bestPoint_179 : decode cX9_bestPoint 179 = .ok (.iload 13, 2) := by decide +kernel
theorem dX9_bestPoint_181 : decode cX9_bestPoint 181 = .ok (.imul, 1) := by decide +kernel
theorem dX9_bestPoint_182 : decode cX9_bestPoint 182 = .ok (.iload 8, 2) := by decide +kernel
theorem dX9_bestPoint_184 : decode cX9_bestPoint 184 = .ok (.iadd, 1) := by decide +kernel
theorem dX9_bestPoint_185 : decode cX9_bestPoint 185 = .ok (.istore 7, 2) := by decide +kernel
theorem dX9_bestPoint_187 : decode cX9_bestPoint 187 = .ok (.iload 12, 2) := by decide +kernel
theorem dX9_bestPoint_189 : decode cX9_bestPoint 189 = .ok (.istore 6, 2) := by decide +kernel
theorem dX9_bestPoint_191 : decode cX9_bestPoint 191 = .ok (.iinc 11 2, 3) := by decide +kernel
theorem dX9_bestPoint_194 : decode cX9_bestPoint 194 = .ok (.goto (-113), 3) := by decide +kernel
theorem dX9_bestPoint_197 : decode cX9_bestPoint 197 = .ok (.iinc 9 1, 3) := by decide +kernel
theorem dX9_bestPoint_200 : decode cX9_bestPoint 200 = .ok (.goto (-139), 3) := by decide +kernel
theorem dX9_bestPoint_203 : decode cX9_bestPoint 203 = .ok (.iinc 8 1, 3) := by decide +kernel
theorem dX9_bestPoint_206 : decode cX9_bestPoint 206 = .ok (.goto (-164), 3) := by decide +kernel
theorem dX9_bestPoint_209 : decode cX9_bestPoint 209 = .ok (.iload 6, 2) := by decide +kernel
theorem dX9_bestPoint_211 : decode cX9_bestPoint 211 = .ok (.ireturn, 1) := by decide +kernel
theorem dX10_init_0 : decode cX10_init 0 = .ok (.aload_n 0, 1) := by decide +kernel
theorem dX10_init_1 : decode cX10_init 1 = .ok (.invokespecial 3, 3) := by decide +kernel
theorem dX10_init_4 : decode cX10_init 4 = .ok (.new 9, 3) := by decide +kernel
theorem dX10_init_7 : decode cX10_init 7 = .ok (.dup, 1) := by decide +kernel
theorem dX10_init_8 : decode cX10_init 8 = .ok (.invokespecial 11, 3) := by decide +kernel
theorem dX10_init_11 : decode cX10_init 11 = .ok (.astore_n 1, 1) := by decide +kernel
theorem dX10_init_12 : decode cX10_init 12 = .ok (.aload_n 0, 1) := by decide +kernel
theorem dX10_init_13 : decode cX10_init 13 = .ok (.new 12, 3) := by decide +kernel
theorem dX10_init_16 : decode cX10_init 16 = .ok (.dup, 1) := by decide +kernel
theorem dX10_init_17 : decode cX10_init 17 = .ok (.invokespecial 14, 3) := by decide +kernel
theorem dX10_init_20 : decode cX10_init 20 = .ok (.putfield 15, 3) := by decide +kernel
theorem dX10_init_23 : decode cX10_init 23 = .ok (.aload_n 0, 1) := by decide +kernel
theorem dX10_init_24 : decode cX10_init 24 = .ok (.new 19, 3) := by decide +kernel
theorem dX10_init_27 : decode cX10_init 27 = .ok (.dup, 1) := by decide +kernel
theorem dX10_init_28 : decode cX10_init 28 = .ok (.invokespecial 21, 3) := by decide +kernel
theorem dX10_init_31 : decode cX10_init 31 = .ok (.putfield 22, 3) := by decide +kernel
theorem dX10_init_34 : decode cX10_init 34 = .ok (.aload_n 0, 1) := by decide +kernel
theorem dX10_init_35 : decode cX10_init 35 = .ok (.new 26, 3) := by decide +kernel
theorem dX10_init_38 : decode cX10_init 38 = .ok (.dup, 1) := by decide +kernel
theorem dX10_init_39 : decode cX10_init 39 = .ok (.aload_n 0, 1) := by decide +kernel
theorem dX10_init_40 : decode cX10_init 40 = .ok (.getfield 15, 3) := by decide +kernel
theorem dX10_init_43 : decode cX10_init 43 = .ok (.aload_n 0, 1) := by decide +kernel
theorem dX10_init_44 : decode cX10_init 44 = .ok (.getfield 22, 3) := by decide +kernel
theorem dX10_init_47 : decode cX10_init 47 = .ok (.aload_n 1, 1) := by decide +kernel
theorem dX10_init_48 : decode cX10_init 48 = .ok (.invokespecial 28, 3) := by decide +kernel
theorem dX10_init_51 : decode cX10_init 51 = .ok (.putfield 31, 3) := by decide +kernel
theorem dX10_init_54 : decode cX10_init 54 = .ok (.aload_n 0, 1) := by decide +kernel
theorem dX10_init_55 : decode cX10_init 55 = .ok (.new 26, 3) := by decide +kernel
theorem dX10_init_58 : decode cX10_init 58 = .ok (.dup, 1) := by decide +kernel
theorem dX10_init_59 : decode cX10_init 59 = .ok (.aload_n 0, 1) := by decide +kernel
theorem dX10_init_60 : decode cX10_init 60 = .ok (.getfield 15, 3) := by decide +kernel
theorem dX10_init_63 : decode cX10_init 63 = .ok (.aload_n 0, 1) := by decide +kernel
theorem dX10_init_64 : decode cX10_init 64 = .ok (.getfield 22, 3) := by decide +kernel
theorem dX10_init_67 : decode cX10_init 67 = .ok (.aload_n 1, 1) := by decide +kernel
theorem dX10_init_68 : decode cX10_init 68 = .ok (.invokespecial 28, 3) := by decide +kernel
theorem dX10_init_71 : decode cX10_init 71 = .ok (.putfield 35, 3) := by decide +kernel
theorem dX10_init_74 : decode cX10_init 74 = .ok (.aload_n 0, 1) := by decide +kernel
theorem dX10_init_75 : decode cX10_init 75 = .ok (.new 38, 3) := by decide +kernel
theorem dX10_init_78 : decode cX10_init 78 = .ok (.dup, 1) := by decide +kernel
theorem dX10_init_79 : decode cX10_init 79 = .ok (.invokespecial 40, 3) := by decide +kernel
theorem dX10_init_82 : decode cX10_init 82 = .ok (.putfield 41, 3) := by decide +kernel
theorem dX10_init_85 : decode cX10_init 85 = .ok (.aload_n 0, 1) := by decide +kernel
theorem dX10_init_86 : decode cX10_init 86 = .ok (.new 45, 3) := by decide +kernel
theorem dX10_init_89 : decode cX10_init 89 = .ok (.dup, 1) := by decide +kernel
theorem dX10_init_90 : decode cX10_init 90 = .ok (.invokespecial 47, 3) := by decide +kernel
theorem dX10_init_93 : decode cX10_init 93 = .ok (.putfield 48, 3) := by decide +kernel
theorem dX10_init_96 : decode cX10_init 96 = .ok (.aload_n 0, 1) := by decide +kernel
theorem dX10_init_97 : decode cX10_init 97 = .ok (.new 52, 3) := by decide +kernel
theorem dX10_init_100 : decode cX10_init 100 = .ok (.dup, 1) := by decide +kernel
theorem dX10_init_101 : decode cX10_init 101 = .ok (.invokespecial 54, 3) := by decide +kernel
theorem dX10_init_104 : decode cX10_init 104 = .ok (.putfield 55, 3) := by decide +kernel
theorem dX10_init_107 : decode cX10_init 107 = .ok (.aload_n 0, 1) := by decide +kernel
theorem dX10_init_108 : decode cX10_init 108 = .ok (.new 59, 3) := by decide +kernel
theorem dX10_init_111 : decode cX10_init 111 = .ok (.dup, 1) := by decide +kernel
theorem dX10_init_112 : decode cX10_init 112 = .ok (.invokespecial 61, 3) := by decide +kernel
theorem dX10_init_115 : decode cX10_init 115 = .ok (.putfield 62, 3) := by decide +kernel
theorem dX10_init_118 : decode cX10_init 118 = .ok (.aload_n 0, 1) := by decide +kernel
theorem dX10_init_119 : decode cX10_init 119 = .ok (.new 66, 3) := by decide +kernel
theorem dX10_init_122 : decode cX10_init 122 = .ok (.dup, 1) := by decide +kernel
theorem dX10_init_123 : decode cX10_init 123 = .ok (.aload_n 0, 1) := by decide +kernel
theorem dX10_init_124 : decode cX10_init 124 = .ok (.getfield 15, 3) := by decide +kernel
theorem dX10_init_127 : decode cX10_init 127 = .ok (.aload_n 0, 1) := by decide +kernel
theorem dX10_init_128 : decode cX10_init 128 = .ok (.getfield 22, 3) := by decide +kernel
theorem dX10_init_131 : decode cX10_init 131 = .ok (.aload_n 1, 1) := by decide +kernel
theorem dX10_init_132 : decode cX10_init 132 = .ok (.invokespecial 68, 3) := by decide +kernel
theorem dX10_init_135 : decode cX10_init 135 = .ok (.putfield 69, 3) := by decide +kernel
theorem dX10_init_138 : decode cX10_init 138 = .ok (.aload_n 0, 1) := by decide +kernel
theorem dX10_init_139 : decode cX10_init 139 = .ok (.iconst 0, 1) := by decide +kernel
theorem dX10_init_140 : decode cX10_init 140 = .ok (.putfield 73, 3) := by decide +kernel
theorem dX10_init_143 : decode cX10_init 143 = .ok (.aload_n 0, 1) := by decide +kernel
theorem dX10_init_144 : decode cX10_init 144 = .ok (.sipush 1000, 3) := by decide +kernel
theorem dX10_init_147 : decode cX10_init 147 = .ok (.putfield 77, 3) := by decide +kernel
theorem dX10_init_150 : decode cX10_init 150 = .ok (.return_, 1) := by decide +kernel
theorem dX10_ground_0 : decode cX10_ground 0 = .ok (.iload_n 1, 1) := by decide +kernel
theorem dX10_ground_1 : decode cX10_ground 1 = .ok (.iload_n 2, 1) := by decide +kernel
theorem dX10_ground_2 : decode cX10_ground 2 = .ok (.invokestatic 81, 3) := by decide +kernel
theorem dX10_ground_5 : decode cX10_ground 5 = .ok (.istore 6, 2) := by decide +kernel
theorem dX10_ground_7 : decode cX10_ground 7 = .ok (.iload 6, 2) := by decide +kernel
theorem dX10_ground_9 : decode cX10_ground 9 = .ok (.iconst (-1), 1) := by decide +kernel
theorem dX10_ground_10 : decode cX10_ground 10 = .ok (.if_icmp .eq 35, 3) := by decide +kernel
theorem dX10_ground_13 : decode cX10_ground 13 = .ok (.iload_n 3, 1) := by decide +kernel
theorem dX10_ground_14 : decode cX10_ground 14 = .ok (.iconst 0, 1) := by decide +kernel
theorem dX10_ground_15 : decode cX10_ground 15 = .ok (.bipush 9, 2) := by decide +kernel
theorem dX10_ground_17 : decode cX10_ground 17 = .ok (.invokestatic 85, 3) := by decide +kernel
theorem dX10_ground_20 : decode cX10_ground 20 = .ok (.ifCond .eq 25, 3) := by decide +kernel
theorem dX10_ground_23 : decode cX10_ground 23 = .ok (.iload 4, 2) := by decide +kernel
theorem dX10_ground_25 : decode cX10_ground 25 = .ok (.iconst 0, 1) := by decide +kernel
theorem dX10_ground_26 : decode cX10_ground 26 = .ok (.bipush 99, 2) := by decide +kernel
theorem dX10_ground_28 : decode cX10_ground 28 = .ok (.invokestatic 85, 3) := by decide +kernel
theorem dX10_ground_31 : decode cX10_ground 31 = .ok (.ifCond .eq 14, 3) := by decide +kernel
theorem dX10_ground_34 : decode cX10_ground 34 = .ok (.iload 5, 2) := by decide +kernel
theorem dX10_ground_36 : decode cX10_ground 36 = .ok (.iconst 0, 1) := by decide +kernel
theorem dX10_ground_37 : decode cX10_ground 37 = .ok (.bipush 9, 2) := by decide +kernel
theorem dX10_ground_39 : decode cX10_ground 39 = .ok (.invokestatic 85, 3) := by decide +kernel
theorem dX10_ground_42 : decode cX10_ground 42 = .ok (.ifCond .ne 13, 3) := by decide +kernel
theorem dX10_ground_45 : decode cX10_ground 45 = .ok (.new 89, 3) := by decide +kernel
theorem dX10_ground_48 : decode cX10_ground 48 = .ok (.dup, 1) := by decide +kernel
theorem dX10_ground_49 : decode cX10_ground 49 = .ok (.ldc 91, 2) := by decide +kernel
theorem dX10_ground_51 : decode cX10_ground 51 = .ok (.invokespecial 93, 3) := by decide +kernel
theorem dX10_ground_54 : decode cX10_ground 54 = .ok (.athrow, 1) := by decide +kernel
theorem dX10_ground_55 : decode cX10_ground 55 = .ok (.aload_n 0, 1) := by decide +kernel
theorem dX10_ground_56 : decode cX10_ground 56 = .ok (.getfield 31, 3) := by decide +kernel
theorem dX10_ground_59 : decode cX10_ground 59 = .ok (.iload 6, 2) := by decide +kernel
theorem dX10_ground_61 : decode cX10_ground 61 = .ok (.iconst (-1), 1) := by decide +kernel
theorem dX10_ground_62 : decode cX10_ground 62 = .ok (.invokevirtual 96, 3) := by decide +kernel
theorem dX10_ground_65 : decode cX10_ground 65 = .ok (.ifCond .eq 13, 3) := by decide +kernel
theorem dX10_ground_68 : decode cX10_ground 68 = .ok (.new 100, 3) := by decide +kernel
theorem dX10_ground_71 : decode cX10_ground 71 = .ok (.dup, 1) := by decide +kernel
theorem dX10_ground_72 : decode cX10_ground 72 = .ok (.ldc 102, 2) := by decide +kernel
theorem dX10_ground_74 : decode cX10_ground 74 = .ok (.invokespecial 104, 3) := by decide +kernel
theorem dX10_ground_77 : decode cX10_ground 77 = .ok (.athrow, 1) := by decide +kernel
theorem dX10_ground_78 : decode cX10_ground 78 = .ok (.aload_n 0, 1) := by decide +kernel
theorem dX10_ground_79 : decode cX10_ground 79 = .ok (.getfield 15, 3) := by decide +kernel
theorem dX10_ground_82 : decode cX10_ground 82 = .ok (.getfield 105, 3) := by decide +kernel
theorem dX10_ground_85 : decode cX10_ground 85 = .ok (.iload 6, 2) := by decide +kernel
theorem dX10_ground_87 : decode cX10_ground 87 = .ok (.invokevirtual 109, 3) := by decide +kernel
theorem dX10_ground_90 : decode cX10_ground 90 = .ok (.istore 7, 2) := by decide +kernel
theorem dX10_ground_92 : decode cX10_ground 92 = .ok (.aload_n 0, 1) := by decide +kernel
theorem dX10_ground_93 : decode cX10_ground 93 = .ok (.getfield 15, 3) := by decide +kernel
theorem dX10_ground_96 : decode cX10_ground 96 = .ok (.getfield 105, 3) := by decide +kernel
theorem dX10_ground_99 : decode cX10_ground 99 = .ok (.iload 6, 2) := by decide +kernel
theorem dX10_ground_101 : decode cX10_ground 101 = .ok (.iload_n 3, 1) := by decide +kernel
theorem dX10_ground_102 : decode cX10_ground 102 = .ok (.invokevirtual 115, 3) := by decide +kernel
theorem dX10_ground_105 : decode cX10_ground 105 = .ok (.aload_n 0, 1) := by decide +kernel
theorem dX10_ground_106 : decode cX10_ground 106 = .ok (.getfield 15, 3) := by decide +kernel
theorem dX10_ground_109 : decode cX10_ground 109 = .ok (.getfield 119, 3) := by decide +kernel
theorem dX10_ground_112 : decode cX10_ground 112 = .ok (.iload 6, 2) := by decide +kernel
theorem dX10_ground_114 : decode cX10_ground 114 = .ok (.iload 4, 2) := by decide +kernel
theorem dX10_ground_116 : decode cX10_ground 116 = .ok (.invokevirtual 115, 3) := by decide +kernel
theorem dX10_ground_119 : decode cX10_ground 119 = .ok (.aload_n 0, 1) := by decide +kernel
theorem dX10_ground_120 : decode cX10_ground 120 = .ok (.getfield 15, 3) := by decide +kernel
theorem dX10_ground_123 : decode cX10_ground 123 = .ok (.getfield 122, 3) := by decide +kernel
theorem dX10_ground_126 : decode cX10_ground 126 = .ok (.iload 6, 2) := by decide +kernel
theorem dX10_ground_128 : decode cX10_ground 128 = .ok (.iload 5, 2) := by decide +kernel
theorem dX10_ground_130 : decode cX10_ground 130 = .ok (.invokevirtual 115, 3) := by decide +kernel
theorem dX10_ground_133 : decode cX10_ground 133 = .ok (.iload 7, 2) := by decide +kernel
theorem dX10_ground_135 : decode cX10_ground 135 = .ok (.ireturn, 1) := by decide +kernel
theorem dX10_chart_0 : decode cX10_chart 0 = .ok (.iload_n 1, 1) := by decide +kernel
theorem dX10_chart_1 : decode cX10_chart 1 = .ok (.iload_n 2, 1) := by decide +kernel
theorem dX10_chart_2 : decode cX10_chart 2 = .ok (.invokestatic 81, 3) := by decide +kernel
theorem dX10_chart_5 : decode cX10_chart 5 = .ok (.istore 4, 2) := by decide +kernel
theorem dX10_chart_7 : decode cX10_chart 7 = .ok (.iload 4, 2) := by decide +kernel
theorem dX10_chart_9 : decode cX10_chart 9 = .ok (.iconst (-1), 1) := by decide +kernel
theorem dX10_chart_10 : decode cX10_chart 10 = .ok (.if_icmp .eq 13, 3) := by decide +kernel
theorem dX10_chart_13 : decode cX10_chart 13 = .ok (.iload_n 3, 1) := by decide +kernel
theorem dX10_chart_14 : decode cX10_chart 14 = .ok (.iconst 0, 1) := by decide +kernel
theorem dX10_chart_15 : decode cX10_chart 15 = .ok (.bipush 9, 2) := by decide +kernel
theorem dX10_chart_17 : decode cX10_chart 17 = .ok (.invokestatic 85, 3) := by decide +kernel
theorem dX10_chart_20 : decode cX10_chart 20 = .ok (.ifCond .ne 13, 3) := by decide +kernel
theorem dX10_chart_23 : decode cX10_chart 23 = .ok (.new 89, 3) := by decide +kernel
theorem dX10_chart_26 : decode cX10_chart 26 = .ok (.dup, 1) := by decide +kernel
theorem dX10_chart_27 : decode cX10_chart 27 = .ok (.ldc 125, 2) := by decide +kernel
theorem dX10_chart_29 : decode cX10_chart 29 = .ok (.invokespecial 93, 3) := by decide +kernel
theorem dX10_chart_32 : decode cX10_chart 32 = .ok (.athrow, 1) := by decide +kernel
theorem dX10_chart_33 : decode cX10_chart 33 = .ok (.aload_n 0, 1) := by decide +kernel
theorem dX10_chart_34 : decode cX10_chart 34 = .ok (.getfield 15, 3) := by decide +kernel
theorem dX10_chart_37 : decode cX10_chart 37 = .ok (.getfield 127, 3) := by decide +kernel
theorem dX10_chart_40 : decode cX10_chart 40 = .ok (.iload 4, 2) := by decide +kernel
theorem dX10_chart_42 : decode cX10_chart 42 = .ok (.invokevirtual 109, 3) := by decide +kernel
theorem dX10_chart_45 : decode cX10_chart 45 = .ok (.istore 5, 2) := by decide +kernel
theorem dX10_chart_47 : decode cX10_chart 47 = .ok (.aload_n 0, 1) := by decide +kernel
theorem dX10_chart_48 : decode cX10_chart 48 = .ok (.getfield 15, 3) := by decide +kernel
theorem dX10_chart_51 : decode cX10_chart 51 = .ok (.getfield 127, 3) := by decide +kernel
theorem dX10_chart_54 : decode cX10_chart 54 = .ok (.iload 4, 2) := by decide +kernel
theorem dX10_chart_56 : decode cX10_chart 56 = .ok (.iload_n 3, 1) := by decide +kernel
theorem dX10_chart_57 : decode cX10_chart 57 = .ok (.invokevirtual 115, 3) := by decide +kernel
theorem dX10_chart_60 : decode cX10_chart 60 = .ok (.iload 5, 2) := by decide +kernel
theorem dX10_chart_62 : decode cX10_chart 62 = .ok (.ireturn, 1) := by decide +kernel
theorem dX10_leg_0 : decode cX10_leg 0 = .ok (.iload_n 1, 1) := by decide +kernel
theorem dX10_leg_1 : decode cX10_leg 1 = .ok (.invokestatic 130, 3) := by decide +kernel
theorem dX10_leg_4 : decode cX10_leg 4 = .ok (.ifCond .eq 20, 3) := by decide +kernel
theorem dX10_leg_7 : decode cX10_leg 7 = .ok (.iload_n 2, 1) := by decide +kernel
theorem dX10_leg_8 : decode cX10_leg 8 = .ok (.invokestatic 130, 3) := by decide +kernel
theorem dX10_leg_11 : decode cX10_leg 11 = .ok (.ifCond .eq 13, 3) := by decide +kernel
theorem dX10_leg_14 : decode cX10_leg 14 = .ok (.iload_n 3, 1) := by decide +kernel
theorem dX10_leg_15 : decode cX10_leg 15 = .ok (.iconst 1, 1) := by decide +kernel
theorem dX10_leg_16 : decode cX10_leg 16 = .ok (.bipush 6, 2) := by decide +kernel
theorem dX10_leg_18 : decode cX10_leg 18 = .ok (.invokestatic 85, 3) := by decide +kernel
theorem dX10_leg_21 : decode cX10_leg 21 = .ok (.ifCond .ne 13, 3) := by decide +kernel
theorem dX10_leg_24 : decode cX10_leg 24 = .ok (.new 89, 3) := by decide +kernel
theorem dX10_leg_27 : decode cX10_leg 27 = .ok (.dup, 1) := by decide +kernel
theorem dX10_leg_28 : decode cX10_leg 28 = .ok (.ldc 134, 2) := by decide +kernel
theorem dX10_leg_30 : decode cX10_leg 30 = .ok (.invokespecial 93, 3) := by decide +kernel
theorem dX10_leg_33 : decode cX10_leg 33 = .ok (.athrow, 1) := by decide +kernel
theorem dX10_leg_34 : decode cX10_leg 34 = .ok (.aload_n 0, 1) := by decide +kernel
theorem dX10_leg_35 : decode cX10_leg 35 = .ok (.getfield 73, 3) := by decide +kernel
theorem dX10_leg_38 : decode cX10_leg 38 = .ok (.ifCond .ne 15, 3) := by decide +kernel
theorem dX10_leg_41 : decode cX10_leg 41 = .ok (.aload_n 0, 1) := by decide +kernel
theorem dX10_leg_42 : decode cX10_leg 42 = .ok (.getfield 22, 3) := by decide +kernel
theorem dX10_leg_45 : decode cX10_leg 45 = .ok (.getfield 136, 3) := by decide +kernel
theorem dX10_leg_48 : decode cX10_leg 48 = .ok (.bipush 6, 2) := by decide +kernel
theorem dX10_leg_50 : decode cX10_leg 50 = .ok (.if_icmp .lt 13, 3) := by decide +kernel
theorem dX10_leg_53 : decode cX10_leg 53 = .ok (.new 100, 3) := by decide +kernel
theorem dX10_leg_56 : decode cX10_leg 56 = .ok (.dup, 1) := by decide +kernel
theorem dX10_leg_57 : decode cX10_leg 57 = .ok (.ldc 139, 2) := by decide +kernel
theorem dX10_leg_59 : decode cX10_leg 59 = .ok (.invokespecial 104, 3) := by decide +kernel
theorem dX10_leg_62 : decode cX10_leg 62 = .ok (.athrow, 1) := by decide +kernel
theorem dX10_leg_63 : decode cX10_leg 63 = .ok (.aload_n 0, 1) := by decide +kernel
theorem dX10_leg_64 : decode cX10_leg 64 = .ok (.getfield 22, 3) := by decide +kernel
theorem dX10_leg_67 : decode cX10_leg 67 = .ok (.iload_n 1, 1) := by decide +kernel
theorem dX10_leg_68 : decode cX10_leg 68 = .ok (.iload_n 2, 1) := by decide +kernel
theorem dX10_leg_69 : decode cX10_leg 69 = .ok (.iload_n 3, 1) := by decide +kernel
theorem dX10_leg_70 : decode cX10_leg 70 = .ok (.invokevirtual 141, 3) := by decide +kernel
theorem dX10_leg_73 : decode cX10_leg 73 = .ok (.ireturn, 1) := by decide +kernel
theorem dX10_charge_0 : decode cX10_charge 0 = .ok (.iload_n 1, 1) := by decide +kernel
theorem dX10_charge_1 : decode cX10_charge 1 = .ok (.iconst 1, 1) := by decide +kernel
theorem dX10_charge_2 : decode cX10_charge 2 = .ok (.sipush 1000, 3) := by decide +kernel
theorem dX10_charge_5 : decode cX10_charge 5 = .ok (.invokestatic 85, 3) := by decide +kernel
theorem dX10_charge_8 : decode cX10_charge 8 = .ok (.ifCond .ne 13, 3) := by decide +kernel
theorem dX10_charge_11 : decode cX10_charge 11 = .ok (.new 89, 3) := by decide +kernel
theorem dX10_charge_14 : decode cX10_charge 14 = .ok (.dup, 1) := by decide +kernel
theorem dX10_charge_15 : decode cX10_charge 15 = .ok (.ldc 145, 2) := by decide +kernel
theorem dX10_charge_17 : decode cX10_charge 17 = .ok (.invokespecial 93, 3) := by decide +kernel
theorem dX10_charge_20 : decode cX10_charge 20 = .ok (.athrow, 1) := by decide +kernel
theorem dX10_charge_21 : decode cX10_charge 21 = .ok (.aload_n 0, 1) := by decide +kernel
theorem dX10_charge_22 : decode cX10_charge 22 = .ok (.sipush 1000, 3) := by decide +kernel
theorem dX10_charge_25 : decode cX10_charge 25 = .ok (.aload_n 0, 1) := by decide +kernel
theorem dX10_charge_26 : decode cX10_charge 26 = .ok (.getfield 77, 3) := by decide +kernel
theorem dX10_charge_29 : decode cX10_charge 29 = .ok (.iload_n 1, 1) := by decide +kernel
theorem dX10_charge_30 : decode cX10_charge 30 = .ok (.iadd, 1) := by decide +kernel
theorem dX10_charge_31 : decode cX10_charge 31 = .ok (.invokestatic 147, 3) := by decide +kernel
theorem dX10_charge_34 : decode cX10_charge 34 = .ok (.putfield 77, 3) := by decide +kernel
theorem dX10_charge_37 : decode cX10_charge 37 = .ok (.aload_n 0, 1) := by decide +kernel
theorem dX10_charge_38 : decode cX10_charge 38 = .ok (.getfield 77, 3) := by decide +kernel
theorem dX10_charge_41 : decode cX10_charge 41 = .ok (.ireturn, 1) := by decide +kernel
theorem dX10_phase_0 : decode cX10_phase 0 = .ok (.aload_n 0, 1) := by decide +kernel
theorem dX10_phase_1 : decode cX10_phase 1 = .ok (.iload_n 1, 1) := by decide +kernel
theorem dX10_phase_2 : decode cX10_phase 2 = .ok (.invokevirtual 152, 3) := by decide +kernel
theorem dX10_phase_5 : decode cX10_phase 5 = .ok (.ifCond .ne 13, 3) := by decide +kernel
theorem dX10_phase_8 : decode cX10_phase 8 = .ok (.new 155, 3) := by decide +kernel
theorem dX10_phase_11 : decode cX10_phase 11 = .ok (.dup, 1) := by decide +kernel
theorem dX10_phase_12 : decode cX10_phase 12 = .ok (.ldc 157, 2) := by decide +kernel
theorem dX10_phase_14 : decode cX10_phase 14 = .ok (.invokespecial 159, 3) := by decide +kernel
theorem dX10_phase_17 : decode cX10_phase 17 = .ok (.athrow, 1) := by decide +kernel
theorem dX10_phase_18 : decode cX10_phase 18 = .ok (.iload_n 2, 1) := by decide +kernel
theorem dX10_phase_19 : decode cX10_phase 19 = .ok (.bipush (-6), 2) := by decide +kernel
theorem dX10_phase_21 : decode cX10_phase 21 = .ok (.bipush 6, 2) := by decide +kernel
theorem dX10_phase_23 : decode cX10_phase 23 = .ok (.invokestatic 85, 3) := by decide +kernel
theorem dX10_phase_26 : decode cX10_phase 26 = .ok (.ifCond .eq 34, 3) := by decide +kernel
theorem dX10_phase_29 : decode cX10_phase 29 = .ok (.iload_n 3, 1) := by decide +kernel
theorem dX10_phase_30 : decode cX10_phase 30 = .ok (.bipush (-6), 2) := by decide +kernel
theorem dX10_phase_32 : decode cX10_phase 32 = .ok (.bipush 6, 2) := by decide +kernel
theorem dX10_phase_34 : decode cX10_phase 34 = .ok (.invokestatic 85, 3) := by decide +kernel
theorem dX10_phase_37 : decode cX10_phase 37 = .ok (.ifCond .eq 23, 3) := by decide +kernel
theorem dX10_phase_40 : decode cX10_phase 40 = .ok (.iload 4, 2) := by decide +kernel
theorem dX10_phase_42 : decode cX10_phase 42 = .ok (.iconst (-1), 1) := by decide +kernel
theorem dX10_phase_43 : decode cX10_phase 43 = .ok (.iconst 1, 1) := by decide +kernel
theorem dX10_phase_44 : decode cX10_phase 44 = .ok (.invokestatic 85, 3) := by decide +kernel
theorem dX10_phase_47 : decode cX10_phase 47 = .ok (.ifCond .eq 13, 3) := by decide +kernel
theorem dX10_phase_50 : decode cX10_phase 50 = .ok (.iload 5, 2) := by decide +kernel
theorem dX10_phase_52 : decode cX10_phase 52 = .ok (.iconst (-1), 1) := by decide +kernel
theorem dX10_phase_53 : decode cX10_phase 53 = .ok (.iconst 1, 1) := by decide +kernel
theorem dX10_phase_54 : decode cX10_phase 54 = .ok (.invokestatic 85, 3) := by decide +kernel
theorem dX10_phase_57 : decode cX10_phase 57 = .ok (.ifCond .ne 13, 3) := by decide +kernel
theorem dX10_phase_60 : decode cX10_phase 60 = .ok (.new 89, 3) := by decide +kernel
theorem dX10_phase_63 : decode cX10_phase 63 = .ok (.dup, 1) := by decide +kernel
theorem dX10_phase_64 : decode cX10_phase 64 = .ok (.ldc 160, 2) := by decide +kernel
theorem dX10_phase_66 : decode cX10_phase 66 = .ok (.invokespecial 93, 3) := by decide +kernel
theorem dX10_phase_69 : decode cX10_phase 69 = .ok (.athrow, 1) := by decide +kernel
theorem dX10_phase_70 : decode cX10_phase 70 = .ok (.aload_n 0, 1) := by decide +kernel
theorem dX10_phase_71 : decode cX10_phase 71 = .ok (.getfield 62, 3) := by decide +kernel
theorem dX10_phase_74 : decode cX10_phase 74 = .ok (.getfield 162, 3) := by decide +kernel
theorem dX10_phase_77 : decode cX10_phase 77 = .ok (.bipush 8, 2) := by decide +kernel
theorem dX10_phase_79 : decode cX10_phase 79 = .ok (.if_icmp .lt 13, 3) := by decide +kernel
theorem dX10_phase_82 : decode cX10_phase 82 = .ok (.new 100, 3) := by decide +kernel
theorem dX10_phase_85 : decode cX10_phase 85 = .ok (.dup, 1) := by decide +kernel
theorem dX10_phase_86 : decode cX10_phase 86 = .ok (.ldc 165, 2) := by decide +kernel
theorem dX10_phase_88 : decode cX10_phase 88 = .ok (.invokespecial 104, 3) := by decide +kernel
theorem dX10_phase_91 : decode cX10_phase 91 = .ok (.athrow, 1) := by decide +kernel
theorem dX10_phase_92 : decode cX10_phase 92 = .ok (.aload_n 0, 1) := by decide +kernel
theorem dX10_phase_93 : decode cX10_phase 93 = .ok (.getfield 62, 3) := by decide +kernel
theorem dX10_phase_96 : decode cX10_phase 96 = .ok (.iload_n 1, 1) := by decide +kernel
theorem dX10_phase_97 : decode cX10_phase 97 = .ok (.iload_n 2, 1) := by decide +kernel
theorem dX10_phase_98 : decode cX10_phase 98 = .ok (.iload_n 3, 1) := by decide +kernel
theorem dX10_phase_99 : decode cX10_phase 99 = .ok (.iload 4, 2) := by decide +kernel
theorem dX10_phase_101 : decode cX10_phase 101 = .ok (.iload 5, 2) := by decide +kernel
theorem dX10_phase_103 : decode cX10_phase 103 = .ok (.invokevirtual 167, 3) := by decide +kernel
theorem dX10_phase_106 : decode cX10_phase 106 = .ok (.ireturn, 1) := by decide +kernel
theorem dX10_halt_0 : decode cX10_halt 0 = .ok (.aload_n 0, 1) := by decide +kernel
theorem dX10_halt_1 : decode cX10_halt 1 = .ok (.getfield 62, 3) := by decide +kernel
theorem dX10_halt_4 : decode cX10_halt 4 = .ok (.getfield 162, 3) := by decide +kernel
theorem dX10_halt_7 : decode cX10_halt 7 = .ok (.istore_n 1, 1) := by decide +kernel
theorem dX10_halt_8 : decode cX10_halt 8 = .ok (.aload_n 0, 1) := by decide +kernel
theorem dX10_halt_9 : decode cX10_halt 9 = .ok (.getfield 62, 3) := by decide +kernel
theorem dX10_halt_12 : decode cX10_halt 12 = .ok (.invokevirtual 171, 3) := by decide +kernel
theorem dX10_halt_15 : decode cX10_halt 15 = .ok (.iload_n 1, 1) := by decide +kernel
theorem dX10_halt_16 : decode cX10_halt 16 = .ok (.ireturn, 1) := by decide +kernel
theorem dX10_load_0 : decode cX10_load 0 = .ok (.iload_n 1, 1) := by decide +kernel
theorem dX10_load_1 : decode cX10_load 1 = .ok (.iconst 0, 1) := by decide +kernel
theorem dX10_load_2 : decode cX10_load 2 = .ok (.bipush 20, 2) := by decide +kernel
theorem dX10_load_4 : decode cX10_load 4 = .ok (.invokestatic 85, 3) := by decide +kernel
theorem dX10_load_7 : decode cX10_load 7 = .ok (.ifCond .eq 17, 3) := by decide +kernel
theorem dX10_load_10 : decode cX10_load 10 = .ok (.iload_n 2, 1) := by decide +kernel
theorem dX10_load_11 : decode cX10_load 11 = .ok (.invokestatic 130, 3) := by decide +kernel
theorem dX10_load_14 : decode cX10_load 14 = .ok (.ifCond .eq 10, 3) := by decide +kernel
theorem dX10_load_17 : decode cX10_load 17 = .ok (.iload_n 3, 1) := by decide +kernel
theorem dX10_load_18 : decode cX10_load 18 = .ok (.invokestatic 130, 3) := by decide +kernel
theorem dX10_load_21 : decode cX10_load 21 = .ok (.ifCond .ne 13, 3) := by decide +kernel
theorem dX10_load_24 : decode cX10_load 24 = .ok (.new 89, 3) := by decide +kernel
theorem dX10_load_27 : decode cX10_load 27 = .ok (.dup, 1) := by decide +kernel
theorem dX10_load_28 : decode cX10_load 28 = .ok (.ldc 174, 2) := by decide +kernel
theorem dX10_load_30 : decode cX10_load 30 = .ok (.invokespecial 93, 3) := by decide +kernel
theorem dX10_load_33 : decode cX10_load 33 = .ok (.athrow, 1) := by decide +kernel
theorem dX10_load_34 : decode cX10_load 34 = .ok (.aload_n 0, 1) := by decide +kernel
theorem dX10_load_35 : decode cX10_load 35 = .ok (.iload_n 1, 1) := by decide +kernel
theorem dX10_load_36 : decode cX10_load 36 = .ok (.iload_n 2, 1) := by decide +kernel
theorem dX10_load_37 : decode cX10_load 37 = .ok (.iload_n 3, 1) := by decide +kernel
theorem dX10_load_38 : decode cX10_load 38 = .ok (.invokevirtual 176, 3) := by decide +kernel
theorem dX10_load_41 : decode cX10_load 41 = .ok (.ifCond .ne 13, 3) := by decide +kernel
theorem dX10_load_44 : decode cX10_load 44 = .ok (.new 100, 3) := by decide +kernel
theorem dX10_load_47 : decode cX10_load 47 = .ok (.dup, 1) := by decide +kernel
theorem dX10_load_48 : decode cX10_load 48 = .ok (.ldc 179, 2) := by decide +kernel
theorem dX10_load_50 : decode cX10_load 50 = .ok (.invokespecial 104, 3) := by decide +kernel
theorem dX10_load_53 : decode cX10_load 53 = .ok (.athrow, 1) := by decide +kernel
theorem dX10_load_54 : decode cX10_load 54 = .ok (.aload_n 0, 1) := by decide +kernel
theorem dX10_load_55 : decode cX10_load 55 = .ok (.invokevirtual 181, 3) := by decide +kernel
theorem dX10_load_58 : decode cX10_load 58 = .ok (.ireturn, 1) := by decide +kernel
theorem dX10_rise_0 : decode cX10_rise 0 = .ok (.aload_n 0, 1) := by decide +kernel
theorem dX10_rise_1 : decode cX10_rise 1 = .ok (.invokevirtual 185, 3) := by decide +kernel
theorem dX10_rise_4 : decode cX10_rise 4 = .ok (.ifCond .ne 13, 3) := by decide +kernel
theorem dX10_rise_7 : decode cX10_rise 7 = .ok (.new 100, 3) := by decide +kernel
theorem dX10_rise_10 : decode cX10_rise 10 = .ok (.dup, 1) := by decide +kernel
theorem dX10_rise_11 : decode cX10_rise 11 = .ok (.ldc 179, 2) := by decide +kernel
theorem dX10_rise_13 : decode cX10_rise 13 = .ok (.invokespecial 104, 3) := by decide +kernel
theorem dX10_rise_16 : decode cX10_rise 16 = .ok (.athrow, 1) := by decide +kernel
theorem dX10_rise_17 : decode cX10_rise 17 = .ok (.aload_n 0, 1) := by decide +kernel
theorem dX10_rise_18 : decode cX10_rise 18 = .ok (.invokevirtual 181, 3) := by decide +kernel
theorem dX10_rise_21 : decode cX10_rise 21 = .ok (.pop, 1) := by decide +kernel
theorem dX10_rise_22 : decode cX10_rise 22 = .ok (.aload_n 0, 1) := by decide +kernel
theorem dX10_rise_23 : decode cX10_rise 23 = .ok (.getfield 31, 3) := by decide +kernel
theorem dX10_rise_26 : decode cX10_rise 26 = .ok (.invokevirtual 189, 3) := by decide +kernel
theorem dX10_rise_29 : decode cX10_rise 29 = .ok (.ireturn, 1) := by decide +kernel
theorem dX10_lift_0 : decode cX10_lift 0 = .ok (.aload_n 0, 1) := by decide +kernel
theorem dX10_lift_1 : decode cX10_lift 1 = .ok (.iload_n 1, 1) := by decide +kernel
theorem dX10_lift_2 : decode cX10_lift 2 = .ok (.invokevirtual 152, 3) := by decide +kernel
theorem dX10_lift_5 : decode cX10_lift 5 = .ok (.ifCond .ne 13, 3) := by decide +kernel
theorem dX10_lift_8 : decode cX10_lift 8 = .ok (.new 155, 3) := by decide +kernel
theorem dX10_lift_11 : decode cX10_lift 11 = .ok (.dup, 1) := by decide +kernel
theorem dX10_lift_12 : decode cX10_lift 12 = .ok (.ldc 157, 2) := by decide +kernel
theorem dX10_lift_14 : decode cX10_lift 14 = .ok (.invokespecial 159, 3) := by decide +kernel
theorem dX10_lift_17 : decode cX10_lift 17 = .ok (.athrow, 1) := by decide +kernel
theorem dX10_lift_18 : decode cX10_lift 18 = .ok (.aload_n 0, 1) := by decide +kernel
theorem dX10_lift_19 : decode cX10_lift 19 = .ok (.iload_n 1, 1) := by decide +kernel
theorem dX10_lift_20 : decode cX10_lift 20 = .ok (.invokevirtual 192, 3) := by decide +kernel
theorem dX10_lift_23 : decode cX10_lift 23 = .ok (.ifCond .ne 13, 3) := by decide +kernel
theorem dX10_lift_26 : decode cX10_lift 26 = .ok (.new 100, 3) := by decide +kernel
theorem dX10_lift_29 : decode cX10_lift 29 = .ok (.dup, 1) := by decide +kernel
theorem dX10_lift_30 : decode cX10_lift 30 = .ok (.ldc 179, 2) := by decide +kernel
theorem dX10_lift_32 : decode cX10_lift 32 = .ok (.invokespecial 104, 3) := by decide +kernel
theorem dX10_lift_35 : decode cX10_lift 35 = .ok (.athrow, 1) := by decide +kernel
theorem dX10_lift_36 : decode cX10_lift 36 = .ok (.aload_n 0, 1) := by decide +kernel
theorem dX10_lift_37 : decode cX10_lift 37 = .ok (.invokevirtual 181, 3) := by decide +kernel
theorem dX10_lift_40 : decode cX10_lift 40 = .ok (.ireturn, 1) := by decide +kernel
theorem dX10_place_0 : decode cX10_place 0 = .ok (.aload_n 0, 1) := by decide +kernel
theorem dX10_place_1 : decode cX10_place 1 = .ok (.iload_n 1, 1) := by decide +kernel
theorem dX10_place_2 : decode cX10_place 2 = .ok (.invokevirtual 152, 3) := by decide +kernel
theorem dX10_place_5 : decode cX10_place 5 = .ok (.ifCond .ne 13, 3) := by decide +kernel
theorem dX10_place_8 : decode cX10_place 8 = .ok (.new 155, 3) := by decide +kernel
theorem dX10_place_11 : decode cX10_place 11 = .ok (.dup, 1) := by decide +kernel
theorem dX10_place_12 : decode cX10_place 12 = .ok (.ldc 157, 2) := by decide +kernel
theorem dX10_place_14 : decode cX10_place 14 = .ok (.invokespecial 159, 3) := by decide +kernel
theorem dX10_place_17 : decode cX10_place 17 = .ok (.athrow, 1) := by decide +kernel
theorem dX10_place_18 : decode cX10_place 18 = .ok (.iload_n 2, 1) := by decide +kernel
theorem dX10_place_19 : decode cX10_place 19 = .ok (.iload_n 3, 1) := by decide +kernel
theorem dX10_place_20 : decode cX10_place 20 = .ok (.invokestatic 81, 3) := by decide +kernel
theorem dX10_place_23 : decode cX10_place 23 = .ok (.istore 4, 2) := by decide +kernel
theorem dX10_place_25 : decode cX10_place 25 = .ok (.iload 4, 2) := by decide +kernel
theorem dX10_place_27 : decode cX10_place 27 = .ok (.iconst (-1), 1) := by decide +kernel
theorem dX10_place_28 : decode cX10_place 28 = .ok (.if_icmp .ne 13, 3) := by decide +kernel
theorem dX10_place_31 : decode cX10_place 31 = .ok (.new 89, 3) := by decide +kernel
theorem dX10_place_34 : decode cX10_place 34 = .ok (.dup, 1) := by decide +kernel
theorem dX10_place_35 : decode cX10_place 35 = .ok (.ldc 195, 2) := by decide +kernel
theorem dX10_place_37 : decode cX10_place 37 = .ok (.invokespecial 93, 3) := by decide +kernel
theorem dX10_place_40 : decode cX10_place 40 = .ok (.athrow, 1) := by decide +kernel
theorem dX10_place_41 : decode cX10_place 41 = .ok (.aload_n 0, 1) := by decide +kernel
theorem dX10_place_42 : decode cX10_place 42 = .ok (.iload_n 1, 1) := by decide +kernel
theorem dX10_place_43 : decode cX10_place 43 = .ok (.iload 4, 2) := by decide +kernel
theorem dX10_place_45 : decode cX10_place 45 = .ok (.invokevirtual 197, 3) := by decide +kernel
theorem dX10_place_48 : decode cX10_place 48 = .ok (.ifCond .ne 13, 3) := by decide +kernel
theorem dX10_place_51 : decode cX10_place 51 = .ok (.new 100, 3) := by decide +kernel
theorem dX10_place_54 : decode cX10_place 54 = .ok (.dup, 1) := by decide +kernel
theorem dX10_place_55 : decode cX10_place 55 = .ok (.ldc 179, 2) := by decide +kernel
theorem dX10_place_57 : decode cX10_place 57 = .ok (.invokespecial 104, 3) := by decide +kernel
theorem dX10_place_60 : decode cX10_place 60 = .ok (.athrow, 1) := by decide +kernel
theorem dX10_place_61 : decode cX10_place 61 = .ok (.aload_n 0, 1) := by decide +kernel
theorem dX10_place_62 : decode cX10_place 62 = .ok (.invokevirtual 181, 3) := by decide +kernel
theorem dX10_place_65 : decode cX10_place 65 = .ok (.ireturn, 1) := by decide +kernel
theorem dX10_shift_0 : decode cX10_shift 0 = .ok (.iload_n 1, 1) := by decide +kernel
theorem dX10_shift_1 : decode cX10_shift 1 = .ok (.iconst (-1), 1) := by decide +kernel
theorem dX10_shift_2 : decode cX10_shift 2 = .ok (.iconst 1, 1) := by decide +kernel
theorem dX10_shift_3 : decode cX10_shift 3 = .ok (.invokestatic 85, 3) := by decide +kernel
theorem dX10_shift_6 : decode cX10_shift 6 = .ok (.ifCond .eq 20, 3) := by decide +kernel
theorem dX10_shift_9 : decode cX10_shift 9 = .ok (.iload_n 2, 1) := by decide +kernel
theorem dX10_shift_10 : decode cX10_shift 10 = .ok (.iconst (-1), 1) := by decide +kernel
theorem dX10_shift_11 : decode cX10_shift 11 = .ok (.iconst 1, 1) := by decide +kernel
theorem dX10_shift_12 : decode cX10_shift 12 = .ok (.invokestatic 85, 3) := by decide +kernel
theorem dX10_shift_15 : decode cX10_shift 15 = .ok (.ifCond .eq 11, 3) := by decide +kernel
theorem dX10_shift_18 : decode cX10_shift 18 = .ok (.iload_n 1, 1) := by decide +kernel
theorem dX10_shift_19 : decode cX10_shift 19 = .ok (.ifCond .ne 17, 3) := by decide +kernel
theorem dX10_shift_22 : decode cX10_shift 22 = .ok (.iload_n 2, 1) := by decide +kernel
theorem dX10_shift_23 : decode cX10_shift 23 = .ok (.ifCond .ne 13, 3) := by decide +kernel
theorem dX10_shift_26 : decode cX10_shift 26 = .ok (.new 89, 3) := by decide +kernel
theorem dX10_shift_29 : decode cX10_shift 29 = .ok (.dup, 1) := by decide +kernel
theorem dX10_shift_30 : decode cX10_shift 30 = .ok (.ldc 160, 2) := by decide +kernel
theorem dX10_shift_32 : decode cX10_shift 32 = .ok (.invokespecial 93, 3) := by decide +kernel
theorem dX10_shift_35 : decode cX10_shift 35 = .ok (.athrow, 1) := by decide +kernel
theorem dX10_shift_36 : decode cX10_shift 36 = .ok (.aload_n 0, 1) := by decide +kernel
theorem dX10_shift_37 : decode cX10_shift 37 = .ok (.iload_n 1, 1) := by decide +kernel
theorem dX10_shift_38 : decode cX10_shift 38 = .ok (.iload_n 2, 1) := by decide +kernel
theorem dX10_shift_39 : decode cX10_shift 39 = .ok (.invokevirtual 200, 3) := by decide +kernel
theorem dX10_shift_42 : decode cX10_shift 42 = .ok (.ifCond .ne 13, 3) := by decide +kernel
theorem dX10_shift_45 : decode cX10_shift 45 = .ok (.new 100, 3) := by decide +kernel
theorem dX10_shift_48 : decode cX10_shift 48 = .ok (.dup, 1) := by decide +kernel
theorem dX10_shift_49 : decode cX10_shift 49 = .ok (.ldc 179, 2) := by decide +kernel
theorem dX10_shift_51 : decode cX10_shift 51 = .ok (.invokespecial 104, 3) := by decide +kernel
theorem dX10_shift_54 : decode cX10_shift 54 = .ok (.athrow, 1) := by decide +kernel
theorem dX10_shift_55 : decode cX10_shift 55 = .ok (.aload_n 0, 1) := by decide +kernel
theorem dX10_shift_56 : decode cX10_shift 56 = .ok (.invokevirtual 181, 3) := by decide +kernel
theorem dX10_shift_59 : decode cX10_shift 59 = .ok (.ireturn, 1) := by decide +kernel
theorem dX10_walk_0 : decode cX10_walk 0 = .ok (.iload_n 1, 1) := by decide +kernel
theorem dX10_walk_1 : decode cX10_walk 1 = .ok (.iconst 1, 1) := by decide +kernel
theorem dX10_walk_2 : decode cX10_walk 2 = .ok (.bipush 20, 2) := by decide +kernel
theorem dX10_walk_4 : decode cX10_walk 4 = .ok (.invokestatic 85, 3) := by decide +kernel
theorem dX10_walk_7 : decode cX10_walk 7 = .ok (.ifCond .ne 13, 3) := by decide +kernel
theorem dX10_walk_10 : decode cX10_walk 10 = .ok (.new 89, 3) := by decide +kernel
theorem dX10_walk_13 : decode cX10_walk 13 = .ok (.dup, 1) := by decide +kernel
theorem dX10_walk_14 : decode cX10_walk 14 = .ok (.ldc 203, 2) := by decide +kernel
theorem dX10_walk_16 : decode cX10_walk 16 = .ok (.invokespecial 93, 3) := by decide +kernel
theorem dX10_walk_19 : decode cX10_walk 19 = .ok (.athrow, 1) := by decide +kernel
theorem dX10_walk_20 : decode cX10_walk 20 = .ok (.aload_n 0, 1) := by decide +kernel
theorem dX10_walk_21 : decode cX10_walk 21 = .ok (.getfield 62, 3) := by decide +kernel
theorem dX10_walk_24 : decode cX10_walk 24 = .ok (.getfield 162, 3) := by decide +kernel
theorem dX10_walk_27 : decode cX10_walk 27 = .ok (.ifCond .ne 13, 3) := by decide +kernel
theorem dX10_walk_30 : decode cX10_walk 30 = .ok (.new 100, 3) := by decide +kernel
theorem dX10_walk_33 : decode cX10_walk 33 = .ok (.dup, 1) := by decide +kernel
theorem dX10_walk_34 : decode cX10_walk 34 = .ok (.ldc 205, 2) := by decide +kernel
theorem dX10_walk_36 : decode cX10_walk 36 = .ok (.invokespecial 104, 3) := by decide +kernel
theorem dX10_walk_39 : decode cX10_walk 39 = .ok (.athrow, 1) := by decide +kernel
theorem dX10_walk_40 : decode cX10_walk 40 = .ok (.iconst 0, 1) := by decide +kernel
theorem dX10_walk_41 : decode cX10_walk 41 = .ok (.istore_n 2, 1) := by decide +kernel
theorem dX10_walk_42 : decode cX10_walk 42 = .ok (.iload_n 2, 1) := by decide +kernel
theorem dX10_walk_43 : decode cX10_walk 43 = .ok (.iload_n 1, 1) := by decide +kernel
theorem dX10_walk_44 : decode cX10_walk 44 = .ok (.if_icmp .ge 30, 3) := by decide +kernel
theorem dX10_walk_47 : decode cX10_walk 47 = .ok (.aload_n 0, 1) := by decide +kernel
theorem dX10_walk_48 : decode cX10_walk 48 = .ok (.aload_n 0, 1) := by decide +kernel
theorem dX10_walk_49 : decode cX10_walk 49 = .ok (.getfield 62, 3) := by decide +kernel
theorem dX10_walk_52 : decode cX10_walk 52 = .ok (.getfield 207, 3) := by decide +kernel
theorem dX10_walk_55 : decode cX10_walk 55 = .ok (.invokevirtual 210, 3) := by decide +kernel
theorem dX10_walk_58 : decode cX10_walk 58 = .ok (.ifCond .eq 16, 3) := by decide +kernel
theorem dX10_walk_61 : decode cX10_walk 61 = .ok (.aload_n 0, 1) := by decide +kernel
theorem dX10_walk_62 : decode cX10_walk 62 = .ok (.getfield 62, 3) := by decide +kernel
theorem dX10_walk_65 : decode cX10_walk 65 = .ok (.invokevirtual 213, 3) := by decide +kernel
theorem dX10_walk_68 : decode cX10_walk 68 = .ok (.iinc 2 1, 3) := by decide +kernel
theorem dX10_walk_71 : decode cX10_walk 71 = .ok (.goto (-29), 3) := by decide +kernel
theorem dX10_walk_74 : decode cX10_walk 74 = .ok (.iload_n 2, 1) := by decide +kernel
theorem dX10_walk_75 : decode cX10_walk 75 = .ok (.ireturn, 1) := by decide +kernel
theorem dX10_machine_0 : decode cX10_machine 0 = .ok (.iload_n 1, 1) := by decide +kernel
theorem dX10_machine_1 : decode cX10_machine 1 = .ok (.tableswitch 176 0 11 #[63, 71, 79, 92, 97, 105, 114, 122, 130, 138, 146, 154], 63) := by decide +kernel
theorem dX10_machine_64 : decode cX10_machine 64 = .ok (.aload_n 0, 1) := by decide +kernel
theorem dX10_machine_65 : decode cX10_machine 65 = .ok (.getfield 31, 3) := by decide +kernel
theorem dX10_machine_68 : decode cX10_machine 68 = .ok (.getfield 216, 3) := by decide +kernel
theorem dX10_machine_71 : decode cX10_machine 71 = .ok (.ireturn, 1) := by decide +kernel
theorem dX10_machine_72 : decode cX10_machine 72 = .ok (.aload_n 0, 1) := by decide +kernel
theorem dX10_machine_73 : decode cX10_machine 73 = .ok (.getfield 31, 3) := by decide +kernel
theorem dX10_machine_76 : decode cX10_machine 76 = .ok (.getfield 219, 3) := by decide +kernel
theorem dX10_machine_79 : decode cX10_machine 79 = .ok (.ireturn, 1) := by decide +kernel
theorem dX10_machine_80 : decode cX10_machine 80 = .ok (.aload_n 0, 1) := by decide +kernel
theorem dX10_machine_81 : decode cX10_machine 81 = .ok (.getfield 73, 3) := by decide +kernel
theorem dX10_machine_84 : decode cX10_machine 84 = .ok (.ifCond .eq 7, 3) := by decide +kernel
theorem dX10_machine_87 : decode cX10_machine 87 = .ok (.iconst 1, 1) := by decide +kernel
theorem dX10_machine_88 : decode cX10_machine 88 = .ok (.goto 4, 3) := by decide +kernel
theorem dX10_machine_91 : decode cX10_machine 91 = .ok (.iconst 0, 1) := by decide +kernel
theorem dX10_machine_92 : decode cX10_machine 92 = .ok (.ireturn, 1) := by decide +kernel
theorem dX10_machine_93 : decode cX10_machine 93 = .ok (.aload_n 0, 1) := by decide +kernel
theorem dX10_machine_94 : decode cX10_machine 94 = .ok (.getfield 77, 3) := by decide +kernel
theorem dX10_machine_97 : decode cX10_machine 97 = .ok (.ireturn, 1) := by decide +kernel
theorem dX10_machine_98 : decode cX10_machine 98 = .ok (.aload_n 0, 1) := by decide +kernel
theorem dX10_machine_99 : decode cX10_machine 99 = .ok (.getfield 22, 3) := by decide +kernel
theorem dX10_machine_102 : decode cX10_machine 102 = .ok (.getfield 222, 3) := by decide +kernel
theorem dX10_machine_105 : decode cX10_machine 105 = .ok (.ireturn, 1) := by decide +kernel
theorem dX10_machine_106 : decode cX10_machine 106 = .ok (.aload_n 0, 1) := by decide +kernel
theorem dX10_machine_107 : decode cX10_machine 107 = .ok (.getfield 31, 3) := by decide +kernel
theorem dX10_machine_110 : decode cX10_machine 110 = .ok (.iconst (-1), 1) := by decide +kernel
theorem dX10_machine_111 : decode cX10_machine 111 = .ok (.invokevirtual 225, 3) := by decide +kernel
theorem dX10_machine_114 : decode cX10_machine 114 = .ok (.ireturn, 1) := by decide +kernel
theorem dX10_machine_115 : decode cX10_machine 115 = .ok (.aload_n 0, 1) := by decide +kernel
theorem dX10_machine_116 : decode cX10_machine 116 = .ok (.getfield 31, 3) := by decide +kernel
theorem dX10_machine_119 : decode cX10_machine 119 = .ok (.invokevirtual 228, 3) := by decide +kernel
theorem dX10_machine_122 : decode cX10_machine 122 = .ok (.ireturn, 1) := by decide +kernel
theorem dX10_machine_123 : decode cX10_machine 123 = .ok (.aload_n 0, 1) := by decide +kernel
theorem dX10_machine_124 : decode cX10_machine 124 = .ok (.getfield 31, 3) := by decide +kernel
theorem dX10_machine_127 : decode cX10_machine 127 = .ok (.invokevirtual 189, 3) := by decide +kernel
theorem dX10_machine_130 : decode cX10_machine 130 = .ok (.ireturn, 1) := by decide +kernel
theorem dX10_machine_131 : decode cX10_machine 131 = .ok (.aload_n 0, 1) := by decide +kernel
theorem dX10_machine_132 : decode cX10_machine 132 = .ok (.getfield 48, 3) := by decide +kernel
theorem dX10_machine_135 : decode cX10_machine 135 = .ok (.getfield 231, 3) := by decide +kernel
theorem dX10_machine_138 : decode cX10_machine 138 = .ok (.ireturn, 1) := by decide +kernel
theorem dX10_machine_139 : decode cX10_machine 139 = .ok (.aload_n 0, 1) := by decide +kernel
theorem dX10_machine_140 : decode cX10_machine 140 = .ok (.getfield 55, 3) := by decide +kernel
theorem dX10_machine_143 : decode cX10_machine 143 = .ok (.getfield 232, 3) := by decide +kernel
theorem dX10_machine_146 : decode cX10_machine 146 = .ok (.ireturn, 1) := by decide +kernel
theorem dX10_machine_147 : decode cX10_machine 147 = .ok (.aload_n 0, 1) := by decide +kernel
theorem dX10_machine_148 : decode cX10_machine 148 = .ok (.getfield 22, 3) := by decide +kernel
theorem dX10_machine_151 : decode cX10_machine 151 = .ok (.getfield 136, 3) := by decide +kernel
theorem dX10_machine_154 : decode cX10_machine 154 = .ok (.ireturn, 1) := by decide +kernel
theorem dX10_machine_155 : decode cX10_machine 155 = .ok (.aload_n 0, 1) := by decide +kernel
theorem dX10_machine_156 : decode cX10_machine 156 = .ok (.getfield 62, 3) := by decide +kernel
theorem dX10_machine_159 : decode cX10_machine 159 = .ok (.getfield 162, 3) := by decide +kernel
theorem dX10_machine_162 : decode cX10_machine 162 = .ok (.ifCond .ne 7, 3) := by decide +kernel
theorem dX10_machine_165 : decode cX10_machine 165 = .ok (.iconst (-1), 1) := by decide +kernel
theorem dX10_machine_166 : decode cX10_machine 166 = .ok (.goto 10, 3) := by decide +kernel
theorem dX10_machine_169 : decode cX10_machine 169 = .ok (.aload_n 0, 1) := by decide +kernel
theorem dX10_machine_170 : decode cX10_machine 170 = .ok (.getfield 62, 3) := by decide +kernel
theorem dX10_machine_173 : decode cX10_machine 173 = .ok (.getfield 207, 3) := by decide +kernel
theorem dX10_machine_176 : decode cX10_machine 176 = .ok (.ireturn, 1) := by decide +kernel
theorem dX10_machine_177 : decode cX10_machine 177 = .ok (.new 89, 3) := by decide +kernel
theorem dX10_machine_180 : decode cX10_machine 180 = .ok (.dup, 1) := by decide +kernel
theorem dX10_machine_181 : decode cX10_machine 181 = .ok (.ldc 233, 2) := by decide +kernel
theorem dX10_machine_183 : decode cX10_machine 183 = .ok (.invokespecial 93, 3) := by decide +kernel
theorem dX10_machine_186 : decode cX10_machine 186 = .ok (.athrow, 1) := by decide +kernel
theorem dX10_foot_0 : decode cX10_foot 0 = .ok (.aload_n 0, 1) := by decide +kernel
theorem dX10_foot_1 : decode cX10_foot 1 = .ok (.iload_n 1, 1) := by decide +kernel
theorem dX10_foot_2 : decode cX10_foot 2 = .ok (.invokevirtual 152, 3) := by decide +kernel
theorem dX10_foot_5 : decode cX10_foot 5 = .ok (.ifCond .ne 13, 3) := by decide +kernel
theorem dX10_foot_8 : decode cX10_foot 8 = .ok (.new 155, 3) := by decide +kernel
theorem dX10_foot_11 : decode cX10_foot 11 = .ok (.dup, 1) := by decide +kernel
theorem dX10_foot_12 : decode cX10_foot 12 = .ok (.ldc 157, 2) := by decide +kernel
theorem dX10_foot_14 : decode cX10_foot 14 = .ok (.invokespecial 159, 3) := by decide +kernel
theorem dX10_foot_17 : decode cX10_foot 17 = .ok (.athrow, 1) := by decide +kernel
theorem dX10_foot_18 : decode cX10_foot 18 = .ok (.aload_n 0, 1) := by decide +kernel
theorem dX10_foot_19 : decode cX10_foot 19 = .ok (.getfield 31, 3) := by decide +kernel
theorem dX10_foot_22 : decode cX10_foot 22 = .ok (.getfield 235, 3) := by decide +kernel
theorem dX10_foot_25 : decode cX10_foot 25 = .ok (.iload_n 1, 1) := by decide +kernel
theorem dX10_foot_26 : decode cX10_foot 26 = .ok (.invokevirtual 109, 3) := by decide +kernel
theorem dX10_foot_29 : decode cX10_foot 29 = .ok (.istore_n 3, 1) := by decide +kernel
theorem dX10_foot_30 : decode cX10_foot 30 = .ok (.iload_n 2, 1) := by decide +kernel
theorem dX10_foot_31 : decode cX10_foot 31 = .ok (.tableswitch 64 0 2 #[25, 36, 50], 25) := by decide +kernel
theorem dX10_foot_56 : decode cX10_foot 56 = .ok (.iload_n 3, 1) := by decide +kernel
theorem dX10_foot_57 : decode cX10_foot 57 = .ok (.iconst (-1), 1) := by decide +kernel
theorem dX10_foot_58 : decode cX10_foot 58 = .ok (.if_icmp .ne 7, 3) := by decide +kernel
theorem dX10_foot_61 : decode cX10_foot 61 = .ok (.iconst 0, 1) := by decide +kernel
theorem dX10_foot_62 : decode cX10_foot 62 = .ok (.goto 4, 3) := by decide +kernel
theorem dX10_foot_65 : decode cX10_foot 65 = .ok (.iconst 1, 1) := by decide +kernel
theorem dX10_foot_66 : decode cX10_foot 66 = .ok (.ireturn, 1) := by decide +kernel
theorem dX10_foot_67 : decode cX10_foot 67 = .ok (.iload_n 3, 1) := by decide +kernel
theorem dX10_foot_68 : decode cX10_foot 68 = .ok (.iconst (-1), 1) := by decide +kernel
theorem dX10_foot_69 : decode cX10_foot 69 = .ok (.if_icmp .ne 7, 3) := by decide +kernel
theorem dX10_foot_72 : decode cX10_foot 72 = .ok (.iconst (-1), 1) := by decide +kernel
theorem dX10_foot_73 : decode cX10_foot 73 = .ok (.goto 7, 3) := by decide +kernel
theorem dX10_foot_76 : decode cX10_foot 76 = .ok (.iload_n 3, 1) := by decide +kernel
theorem dX10_foot_77 : decode cX10_foot 77 = .ok (.invokestatic 238, 3) := by decide +kernel
theorem dX10_foot_80 : decode cX10_foot 80 = .ok (.ireturn, 1) := by decide +kernel
theorem dX10_foot_81 : decode cX10_foot 81 = .ok (.iload_n 3, 1) := by decide +kernel
theorem dX10_foot_82 : decode cX10_foot 82 = .ok (.iconst (-1), 1) := by decide +kernel
theorem dX10_foot_83 : decode cX10_foot 83 = .ok (.if_icmp .ne 7, 3) := by decide +kernel
theorem dX10_foot_86 : decode cX10_foot 86 = .ok (.iconst (-1), 1) := by decide +kernel
theorem dX10_foot_87 : decode cX10_foot 87 = .ok (.goto 7, 3) := by decide +kernel
theorem dX10_foot_90 : decode cX10_foot 90 = .ok (.iload_n 3, 1) := by decide +kernel
theorem dX10_foot_91 : decode cX10_foot 91 = .ok (.invokestatic 241, 3) := by decide +kernel
theorem dX10_foot_94 : decode cX10_foot 94 = .ok (.ireturn, 1) := by decide +kernel
theorem dX10_foot_95 : decode cX10_foot 95 = .ok (.new 89, 3) := by decide +kernel
theorem dX10_foot_98 : decode cX10_foot 98 = .ok (.dup, 1) := by decide +kernel
theorem dX10_foot_99 : decode cX10_foot 99 = .ok (.ldc 233, 2) := by decide +kernel
theorem dX10_foot_101 : decode cX10_foot 101 = .ok (.invokespecial 93, 3) := by decide +kernel
theorem dX10_foot_104 : decode cX10_foot 104 = .ok (.athrow, 1) := by decide +kernel
theorem dX10_point_0 : decode cX10_point 0 = .ok (.iload_n 1, 1) := by decide +kernel
theorem dX10_point_1 : decode cX10_point 1 = .ok (.iload_n 2, 1) := by decide +kernel
theorem dX10_point_2 : decode cX10_point 2 = .ok (.invokestatic 81, 3) := by decide +kernel
theorem dX10_point_5 : decode cX10_point 5 = .ok (.istore 4, 2) := by decide +kernel
theorem dX10_point_7 : decode cX10_point 7 = .ok (.iload 4, 2) := by decide +kernel
theorem dX10_point_9 : decode cX10_point 9 = .ok (.iconst (-1), 1) := by decide +kernel
theorem dX10_point_10 : decode cX10_point 10 = .ok (.if_icmp .ne 13, 3) := by decide +kernel
theorem dX10_point_13 : decode cX10_point 13 = .ok (.new 89, 3) := by decide +kernel
theorem dX10_point_16 : decode cX10_point 16 = .ok (.dup, 1) := by decide +kernel
theorem dX10_point_17 : decode cX10_point 17 = .ok (.ldc 195, 2) := by decide +kernel
theorem dX10_point_19 : decode cX10_point 19 = .ok (.invokespecial 93, 3) := by decide +kernel
theorem dX10_point_22 : decode cX10_point 22 = .ok (.athrow, 1) := by decide +kernel
theorem dX10_point_23 : decode cX10_point 23 = .ok (.iload_n 3, 1) := by decide +kernel
theorem dX10_point_24 : decode cX10_point 24 = .ok (.tableswitch 84 0 3 #[32, 45, 58, 71], 32) := by decide +kernel
theorem dX10_point_56 : decode cX10_point 56 = .ok (.aload_n 0, 1) := by decide +kernel
theorem dX10_point_57 : decode cX10_point 57 = .ok (.getfield 15, 3) := by decide +kernel
theorem dX10_point_60 : decode cX10_point 60 = .ok (.getfield 105, 3) := by decide +kernel
theorem dX10_point_63 : decode cX10_point 63 = .ok (.iload 4, 2) := by decide +kernel
theorem dX10_point_65 : decode cX10_point 65 = .ok (.invokevirtual 109, 3) := by decide +kernel
theorem dX10_point_68 : decode cX10_point 68 = .ok (.ireturn, 1) := by decide +kernel
theorem dX10_point_69 : decode cX10_point 69 = .ok (.aload_n 0, 1) := by decide +kernel
theorem dX10_point_70 : decode cX10_point 70 = .ok (.getfield 15, 3) := by decide +kernel
theorem dX10_point_73 : decode cX10_point 73 = .ok (.getfield 119, 3) := by decide +kernel
theorem dX10_point_76 : decode cX10_point 76 = .ok (.iload 4, 2) := by decide +kernel
theorem dX10_point_78 : decode cX10_point 78 = .ok (.invokevirtual 109, 3) := by decide +kernel
theorem dX10_point_81 : decode cX10_point 81 = .ok (.ireturn, 1) := by decide +kernel
theorem dX10_point_82 : decode cX10_point 82 = .ok (.aload_n 0, 1) := by decide +kernel
theorem dX10_point_83 : decode cX10_point 83 = .ok (.getfield 15, 3) := by decide +kernel
theorem dX10_point_86 : decode cX10_point 86 = .ok (.getfield 122, 3) := by decide +kernel
theorem dX10_point_89 : decode cX10_point 89 = .ok (.iload 4, 2) := by decide +kernel
theorem dX10_point_91 : decode cX10_point 91 = .ok (.invokevirtual 109, 3) := by decide +kernel
theorem dX10_point_94 : decode cX10_point 94 = .ok (.ireturn, 1) := by decide +kernel
theorem dX10_point_95 : decode cX10_point 95 = .ok (.aload_n 0, 1) := by decide +kernel
theorem dX10_point_96 : decode cX10_point 96 = .ok (.getfield 15, 3) := by decide +kernel
theorem dX10_point_99 : decode cX10_point 99 = .ok (.getfield 127, 3) := by decide +kernel
theorem dX10_point_102 : decode cX10_point 102 = .ok (.iload 4, 2) := by decide +kernel
theorem dX10_point_104 : decode cX10_point 104 = .ok (.invokevirtual 109, 3) := by decide +kernel
theorem dX10_point_107 : decode cX10_point 107 = .ok (.ireturn, 1) := by decide +kernel
theorem dX10_point_108 : decode cX10_point 108 = .ok (.new 89, 3) := by decide +kernel
theorem dX10_point_111 : decode cX10_point 111 = .ok (.dup, 1) := by decide +kernel
theorem dX10_point_112 : decode cX10_point 112 = .ok (.ldc 233, 2) := by decide +kernel
theorem dX10_point_114 : decode cX10_point 114 = .ok (.invokespecial 93, 3) := by decide +kernel
theorem dX10_point_117 : decode cX10_point 117 = .ok (.athrow, 1) := by decide +kernel
theorem dX10_isStable_0 : decode cX10_isStable 0 = .ok (.aload_n 0, 1) := by decide +kernel
theorem dX10_isStable_1 : decode cX10_isStable 1 = .ok (.getfield 31, 3) := by decide +kernel
theorem dX10_isStable_4 : decode cX10_isStable 4 = .ok (.iconst (-1), 1) := by decide +kernel
theorem dX10_isStable_5 : decode cX10_isStable 5 = .ok (.invokevirtual 244, 3) := by decide +kernel
theorem dX10_isStable_8 : decode cX10_isStable 8 = .ok (.ireturn, 1) := by decide +kernel
theorem dX10_isStableAnew_0 : decode cX10_isStableAnew 0 = .ok (.aload_n 0, 1) := by decide +kernel
theorem dX10_isStableAnew_1 : decode cX10_isStableAnew 1 = .ok (.getfield 41, 3) := by decide +kernel
theorem dX10_isStableAnew_4 : decode cX10_isStableAnew 4 = .ok (.aload_n 0, 1) := by decide +kernel
theorem dX10_isStableAnew_5 : decode cX10_isStableAnew 5 = .ok (.getfield 31, 3) := by decide +kernel
theorem dX10_isStableAnew_8 : decode cX10_isStableAnew 8 = .ok (.getfield 235, 3) := by decide +kernel
theorem dX10_isStableAnew_11 : decode cX10_isStableAnew 11 = .ok (.aload_n 0, 1) := by decide +kernel
theorem dX10_isStableAnew_12 : decode cX10_isStableAnew 12 = .ok (.getfield 31, 3) := by decide +kernel
theorem dX10_isStableAnew_15 : decode cX10_isStableAnew 15 = .ok (.invokevirtual 247, 3) := by decide +kernel
theorem dX10_isStableAnew_18 : decode cX10_isStableAnew 18 = .ok (.aload_n 0, 1) := by decide +kernel
theorem dX10_isStableAnew_19 : decode cX10_isStableAnew 19 = .ok (.getfield 31, 3) := by decide +kernel
theorem dX10_isStableAnew_22 : decode cX10_isStableAnew 22 = .ok (.invokevirtual 250, 3) := by decide +kernel
theorem dX10_isStableAnew_25 : decode cX10_isStableAnew 25 = .ok (.aload_n 0, 1) := by decide +kernel
theorem dX10_isStableAnew_26 : decode cX10_isStableAnew 26 = .ok (.getfield 22, 3) := by decide +kernel
theorem dX10_isStableAnew_29 : decode cX10_isStableAnew 29 = .ok (.invokevirtual 253, 3) := by decide +kernel
theorem dX10_isStableAnew_32 : decode cX10_isStableAnew 32 = .ok (.invokevirtual 256, 3) := by decide +kernel
theorem dX10_isStableAnew_35 : decode cX10_isStableAnew 35 = .ok (.aload_n 0, 1) := by decide +kernel
theorem dX10_isStableAnew_36 : decode cX10_isStableAnew 36 = .ok (.getfield 41, 3) := by decide +kernel
theorem dX10_isStableAnew_39 : decode cX10_isStableAnew 39 = .ok (.invokevirtual 260, 3) := by decide +kernel
theorem dX10_isStableAnew_42 : decode cX10_isStableAnew 42 = .ok (.ireturn, 1) := by decide +kernel
theorem dX10_margin_0 : decode cX10_margin 0 = .ok (.aload_n 0, 1) := by decide +kernel
theorem dX10_margin_1 : decode cX10_margin 1 = .ok (.getfield 31, 3) := by decide +kernel
theorem dX10_margin_4 : decode cX10_margin 4 = .ok (.iconst (-1), 1) := by decide +kernel
theorem dX10_margin_5 : decode cX10_margin 5 = .ok (.invokevirtual 244, 3) := by decide +kernel
theorem dX10_margin_8 : decode cX10_margin 8 = .ok (.ifCond .ne 7, 3) := by decide +kernel
theorem dX10_margin_11 : decode cX10_margin 11 = .ok (.ldc_w 263, 3) := by decide +kernel
theorem dX10_margin_14 : decode cX10_margin 14 = .ok (.ireturn, 1) := by decide +kernel
theorem dX10_margin_15 : decode cX10_margin 15 = .ok (.aload_n 0, 1) := by decide +kernel
theorem dX10_margin_16 : decode cX10_margin 16 = .ok (.getfield 31, 3) := by decide +kernel
theorem dX10_margin_19 : decode cX10_margin 19 = .ok (.getfield 264, 3) := by decide +kernel
theorem dX10_margin_22 : decode cX10_margin 22 = .ok (.astore_n 1, 1) := by decide +kernel
theorem dX10_margin_23 : decode cX10_margin 23 = .ok (.aload_n 1, 1) := by decide +kernel
theorem dX10_margin_24 : decode cX10_margin 24 = .ok (.getfield 268, 3) := by decide +kernel
theorem dX10_margin_27 : decode cX10_margin 27 = .ok (.iconst 3, 1) := by decide +kernel
theorem dX10_margin_28 : decode cX10_margin 28 = .ok (.if_icmp .ge 7, 3) := by decide +kernel
theorem dX10_margin_31 : decode cX10_margin 31 = .ok (.iconst 0, 1) := by decide +kernel
theorem dX10_margin_32 : decode cX10_margin 32 = .ok (.goto 31, 3) := by decide +kernel
theorem dX10_margin_35 : decode cX10_margin 35 = .ok (.aload_n 1, 1) := by decide +kernel
theorem dX10_margin_36 : decode cX10_margin 36 = .ok (.aload_n 0, 1) := by decide +kernel
theorem dX10_margin_37 : decode cX10_margin 37 = .ok (.getfield 31, 3) := by decide +kernel
theorem dX10_margin_40 : decode cX10_margin 40 = .ok (.invokevirtual 247, 3) := by decide +kernel
theorem dX10_margin_43 : decode cX10_margin 43 = .ok (.aload_n 0, 1) := by decide +kernel
theorem dX10_margin_44 : decode cX10_margin 44 = .ok (.getfield 31, 3) := by decide +kernel
theorem dX10_margin_47 : decode cX10_margin 47 = .ok (.invokevirtual 250, 3) := by decide +kernel
theorem dX10_margin_50 : decode cX10_margin 50 = .ok (.aload_n 0, 1) := by decide +kernel
theorem dX10_margin_51 : decode cX10_margin 51 = .ok (.getfield 22, 3) := by decide +kernel
theorem dX10_margin_54 : decode cX10_margin 54 = .ok (.invokevirtual 253, 3) := by decide +kernel
theorem dX10_margin_57 : decode cX10_margin 57 = .ok (.invokevirtual 271, 3) := by decide +kernel
theorem dX10_margin_60 : decode cX10_margin 60 = .ok (.invokestatic 275, 3) := by decide +kernel
theorem dX10_margin_63 : decode cX10_margin 63 = .ok (.ireturn, 1) := by decide +kernel
theorem dX10_corner_0 : decode cX10_corner 0 = .ok (.iload_n 1, 1) := by decide +kernel
theorem dX10_corner_1 : decode cX10_corner 1 = .ok (.ifCond .ge 14, 3) := by decide +kernel
theorem dX10_corner_4 : decode cX10_corner 4 = .ok (.new 89, 3) := by decide +kernel
theorem dX10_corner_7 : decode cX10_corner 7 = .ok (.dup, 1) := by decide +kernel
theorem dX10_corner_8 : decode cX10_corner 8 = .ok (.ldc_w 279, 3) := by decide +kernel
theorem dX10_corner_11 : decode cX10_corner 11 = .ok (.invokespecial 93, 3) := by decide +kernel
theorem dX10_corner_14 : decode cX10_corner 14 = .ok (.athrow, 1) := by decide +kernel
theorem dX10_corner_15 : decode cX10_corner 15 = .ok (.aload_n 0, 1) := by decide +kernel
theorem dX10_corner_16 : decode cX10_corner 16 = .ok (.getfield 31, 3) := by decide +kernel
theorem dX10_corner_19 : decode cX10_corner 19 = .ok (.getfield 264, 3) := by decide +kernel
theorem dX10_corner_22 : decode cX10_corner 22 = .ok (.aload_n 0, 1) := by decide +kernel
theorem dX10_corner_23 : decode cX10_corner 23 = .ok (.getfield 31, 3) := by decide +kernel
theorem dX10_corner_26 : decode cX10_corner 26 = .ok (.getfield 235, 3) := by decide +kernel
theorem dX10_corner_29 : decode cX10_corner 29 = .ok (.iconst (-1), 1) := by decide +kernel
theorem dX10_corner_30 : decode cX10_corner 30 = .ok (.invokevirtual 281, 3) := by decide +kernel
theorem dX10_corner_33 : decode cX10_corner 33 = .ok (.iload_n 1, 1) := by decide +kernel
theorem dX10_corner_34 : decode cX10_corner 34 = .ok (.aload_n 0, 1) := by decide +kernel
theorem dX10_corner_35 : decode cX10_corner 35 = .ok (.getfield 31, 3) := by decide +kernel
theorem dX10_corner_38 : decode cX10_corner 38 = .ok (.getfield 264, 3) := by decide +kernel
theorem dX10_corner_41 : decode cX10_corner 41 = .ok (.getfield 268, 3) := by decide +kernel
theorem dX10_corner_44 : decode cX10_corner 44 = .ok (.if_icmp .ge 20, 3) := by decide +kernel
theorem dX10_corner_47 : decode cX10_corner 47 = .ok (.aload_n 0, 1) := by decide +kernel
theorem dX10_corner_48 : decode cX10_corner 48 = .ok (.getfield 31, 3) := by decide +kernel
theorem dX10_corner_51 : decode cX10_corner 51 = .ok (.getfield 264, 3) := by decide +kernel
theorem dX10_corner_54 : decode cX10_corner 54 = .ok (.getfield 285, 3) := by decide +kernel
theorem dX10_corner_57 : decode cX10_corner 57 = .ok (.iload_n 1, 1) := by decide +kernel
theorem dX10_corner_58 : decode cX10_corner 58 = .ok (.invokevirtual 109, 3) := by decide +kernel
theorem dX10_corner_61 : decode cX10_corner 61 = .ok (.goto 4, 3) := by decide +kernel
theorem dX10_corner_64 : decode cX10_corner 64 = .ok (.iconst (-1), 1) := by decide +kernel
theorem dX10_corner_65 : decode cX10_corner 65 = .ok (.ireturn, 1) := by decide +kernel
theorem dX10_foothold_0 : decode cX10_foothold 0 = .ok (.aload_n 0, 1) := by decide +kernel
theorem dX10_foothold_1 : decode cX10_foothold 1 = .ok (.iload_n 1, 1) := by decide +kernel
theorem dX10_foothold_2 : decode cX10_foothold 2 = .ok (.invokevirtual 152, 3) := by decide +kernel
theorem dX10_foothold_5 : decode cX10_foothold 5 = .ok (.ifCond .ne 13, 3) := by decide +kernel
theorem dX10_foothold_8 : decode cX10_foothold 8 = .ok (.new 155, 3) := by decide +kernel
theorem dX10_foothold_11 : decode cX10_foothold 11 = .ok (.dup, 1) := by decide +kernel
theorem dX10_foothold_12 : decode cX10_foothold 12 = .ok (.ldc 157, 2) := by decide +kernel
theorem dX10_foothold_14 : decode cX10_foothold 14 = .ok (.invokespecial 159, 3) := by decide +kernel
theorem dX10_foothold_17 : decode cX10_foothold 17 = .ok (.athrow, 1) := by decide +kernel
theorem dX10_foothold_18 : decode cX10_foothold 18 = .ok (.aload_n 0, 1) := by decide +kernel
theorem dX10_foothold_19 : decode cX10_foothold 19 = .ok (.getfield 31, 3) := by decide +kernel
theorem dX10_foothold_22 : decode cX10_foothold 22 = .ok (.iload_n 1, 1) := by decide +kernel
theorem dX10_foothold_23 : decode cX10_foothold 23 = .ok (.invokevirtual 288, 3) := by decide +kernel
theorem dX10_foothold_26 : decode cX10_foothold 26 = .ok (.ireturn, 1) := by decide +kernel
theorem dX10_wouldLift_0 : decode cX10_wouldLift 0 = .ok (.aload_n 0, 1) := by decide +kernel
theorem dX10_wouldLift_1 : decode cX10_wouldLift 1 = .ok (.iload_n 1, 1) := by decide +kernel
theorem dX10_wouldLift_2 : decode cX10_wouldLift 2 = .ok (.invokevirtual 152, 3) := by decide +kernel
theorem dX10_wouldLift_5 : decode cX10_wouldLift 5 = .ok (.ifCond .ne 13, 3) := by decide +kernel
theorem dX10_wouldLift_8 : decode cX10_wouldLift 8 = .ok (.new 155, 3) := by decide +kernel
theorem dX10_wouldLift_11 : decode cX10_wouldLift 11 = .ok (.dup, 1) := by decide +kernel
theorem dX10_wouldLift_12 : decode cX10_wouldLift 12 = .ok (.ldc 157, 2) := by decide +kernel
theorem dX10_wouldLift_14 : decode cX10_wouldLift 14 = .ok (.invokespecial 159, 3) := by decide +kernel
theorem dX10_wouldLift_17 : decode cX10_wouldLift 17 = .ok (.athrow, 1) := by decide +kernel
theorem dX10_wouldLift_18 : decode cX10_wouldLift 18 = .ok (.aload_n 0, 1) := by decide +kernel
theorem dX10_wouldLift_19 : decode cX10_wouldLift 19 = .ok (.iload_n 1, 1) := by decide +kernel
theorem dX10_wouldLift_20 : decode cX10_wouldLift 20 = .ok (.invokevirtual 291, 3) := by decide +kernel
theorem dX10_wouldLift_23 : decode cX10_wouldLift 23 = .ok (.ifCond .ne 5, 3) := by decide +kernel
theorem dX10_wouldLift_26 : decode cX10_wouldLift 26 = .ok (.iconst (-1), 1) := by decide +kernel
theorem dX10_wouldLift_27 : decode cX10_wouldLift 27 = .ok (.ireturn, 1) := by decide +kernel
theorem dX10_wouldLift_28 : decode cX10_wouldLift 28 = .ok (.aload_n 0, 1) := by decide +kernel
theorem dX10_wouldLift_29 : decode cX10_wouldLift 29 = .ok (.getfield 35, 3) := by decide +kernel
theorem dX10_wouldLift_32 : decode cX10_wouldLift 32 = .ok (.aload_n 0, 1) := by decide +kernel
theorem dX10_wouldLift_33 : decode cX10_wouldLift 33 = .ok (.getfield 31, 3) := by decide +kernel
theorem dX10_wouldLift_36 : decode cX10_wouldLift 36 = .ok (.invokevirtual 294, 3) := by decide +kernel
theorem dX10_wouldLift_39 : decode cX10_wouldLift 39 = .ok (.aload_n 0, 1) := by decide +kernel
theorem dX10_wouldLift_40 : decode cX10_wouldLift 40 = .ok (.getfield 35, 3) := by decide +kernel
theorem dX10_wouldLift_43 : decode cX10_wouldLift 43 = .ok (.getfield 235, 3) := by decide +kernel
theorem dX10_wouldLift_46 : decode cX10_wouldLift 46 = .ok (.iload_n 1, 1) := by decide +kernel
theorem dX10_wouldLift_47 : decode cX10_wouldLift 47 = .ok (.iconst (-1), 1) := by decide +kernel
theorem dX10_wouldLift_48 : decode cX10_wouldLift 48 = .ok (.invokevirtual 115, 3) := by decide +kernel
theorem dX10_wouldLift_51 : decode cX10_wouldLift 51 = .ok (.aload_n 0, 1) := by decide +kernel
theorem dX10_wouldLift_52 : decode cX10_wouldLift 52 = .ok (.getfield 35, 3) := by decide +kernel
theorem dX10_wouldLift_55 : decode cX10_wouldLift 55 = .ok (.invokevirtual 298, 3) := by decide +kernel
theorem dX10_wouldLift_58 : decode cX10_wouldLift 58 = .ok (.ifCond .ne 5, 3) := by decide +kernel
theorem dX10_wouldLift_61 : decode cX10_wouldLift 61 = .ok (.iconst 0, 1) := by decide +kernel
theorem dX10_wouldLift_62 : decode cX10_wouldLift 62 = .ok (.ireturn, 1) := by decide +kernel
theorem dX10_wouldLift_63 : decode cX10_wouldLift 63 = .ok (.aload_n 0, 1) := by decide +kernel
theorem dX10_wouldLift_64 : decode cX10_wouldLift 64 = .ok (.getfield 35, 3) := by decide +kernel
theorem dX10_wouldLift_67 : decode cX10_wouldLift 67 = .ok (.iconst (-1), 1) := by decide +kernel
theorem dX10_wouldLift_68 : decode cX10_wouldLift 68 = .ok (.invokevirtual 244, 3) := by decide +kernel
theorem dX10_wouldLift_71 : decode cX10_wouldLift 71 = .ok (.ifCond .eq 7, 3) := by decide +kernel
theorem dX10_wouldLift_74 : decode cX10_wouldLift 74 = .ok (.iconst 1, 1) := by decide +kernel
theorem dX10_wouldLift_75 : decode cX10_wouldLift 75 = .ok (.goto 4, 3) := by decide +kernel
theorem dX10_wouldLift_78 : decode cX10_wouldLift 78 = .ok (.iconst 2, 1) := by decide +kernel
theorem dX10_wouldLift_79 : decode cX10_wouldLift 79 = .ok (.ireturn, 1) := by decide +kernel
theorem dX10_fewest_0 : decode cX10_fewest 0 = .ok (.iload_n 1, 1) := by decide +kernel
theorem dX10_fewest_1 : decode cX10_fewest 1 = .ok (.iload_n 2, 1) := by decide +kernel
theorem dX10_fewest_2 : decode cX10_fewest 2 = .ok (.invokestatic 81, 3) := by decide +kernel
theorem dX10_fewest_5 : decode cX10_fewest 5 = .ok (.istore_n 3, 1) := by decide +kernel
theorem dX10_fewest_6 : decode cX10_fewest 6 = .ok (.iload_n 3, 1) := by decide +kernel
theorem dX10_fewest_7 : decode cX10_fewest 7 = .ok (.iconst (-1), 1) := by decide +kernel
theorem dX10_fewest_8 : decode cX10_fewest 8 = .ok (.if_icmp .ne 13, 3) := by decide +kernel
theorem dX10_fewest_11 : decode cX10_fewest 11 = .ok (.new 89, 3) := by decide +kernel
theorem dX10_fewest_14 : decode cX10_fewest 14 = .ok (.dup, 1) := by decide +kernel
theorem dX10_fewest_15 : decode cX10_fewest 15 = .ok (.ldc 195, 2) := by decide +kernel
theorem dX10_fewest_17 : decode cX10_fewest 17 = .ok (.invokespecial 93, 3) := by decide +kernel
theorem dX10_fewest_20 : decode cX10_fewest 20 = .ok (.athrow, 1) := by decide +kernel
theorem dX10_fewest_21 : decode cX10_fewest 21 = .ok (.aload_n 0, 1) := by decide +kernel
theorem dX10_fewest_22 : decode cX10_fewest 22 = .ok (.getfield 73, 3) := by decide +kernel
theorem dX10_fewest_25 : decode cX10_fewest 25 = .ok (.ifCond .ne 5, 3) := by decide +kernel
theorem dX10_fewest_28 : decode cX10_fewest 28 = .ok (.iconst (-1), 1) := by decide +kernel
theorem dX10_fewest_29 : decode cX10_fewest 29 = .ok (.ireturn, 1) := by decide +kernel
theorem dX10_fewest_30 : decode cX10_fewest 30 = .ok (.aload_n 0, 1) := by decide +kernel
theorem dX10_fewest_31 : decode cX10_fewest 31 = .ok (.getfield 69, 3) := by decide +kernel
theorem dX10_fewest_34 : decode cX10_fewest 34 = .ok (.aload_n 0, 1) := by decide +kernel
theorem dX10_fewest_35 : decode cX10_fewest 35 = .ok (.getfield 31, 3) := by decide +kernel
theorem dX10_fewest_38 : decode cX10_fewest 38 = .ok (.iload_n 3, 1) := by decide +kernel
theorem dX10_fewest_39 : decode cX10_fewest 39 = .ok (.invokevirtual 301, 3) := by decide +kernel
theorem dX10_fewest_42 : decode cX10_fewest 42 = .ok (.aload_n 0, 1) := by decide +kernel
theorem dX10_fewest_43 : decode cX10_fewest 43 = .ok (.getfield 69, 3) := by decide +kernel
theorem dX10_fewest_46 : decode cX10_fewest 46 = .ok (.iconst 0, 1) := by decide +kernel
theorem dX10_fewest_47 : decode cX10_fewest 47 = .ok (.invokevirtual 305, 3) := by decide +kernel
theorem dX10_fewest_50 : decode cX10_fewest 50 = .ok (.istore 4, 2) := by decide +kernel
theorem dX10_fewest_52 : decode cX10_fewest 52 = .ok (.iload 4, 2) := by decide +kernel
theorem dX10_fewest_54 : decode cX10_fewest 54 = .ok (.iconst 3, 1) := by decide +kernel
theorem dX10_fewest_55 : decode cX10_fewest 55 = .ok (.if_icmp .gt 25, 3) := by decide +kernel
theorem dX10_fewest_58 : decode cX10_fewest 58 = .ok (.aload_n 0, 1) := by decide +kernel
theorem dX10_fewest_59 : decode cX10_fewest 59 = .ok (.getfield 69, 3) := by decide +kernel
theorem dX10_fewest_62 : decode cX10_fewest 62 = .ok (.iconst 0, 1) := by decide +kernel
theorem dX10_fewest_63 : decode cX10_fewest 63 = .ok (.iload 4, 2) := by decide +kernel
theorem dX10_fewest_65 : decode cX10_fewest 65 = .ok (.invokestatic 308, 3) := by decide +kernel
theorem dX10_fewest_68 : decode cX10_fewest 68 = .ok (.ifCond .eq 6, 3) := by decide +kernel
theorem dX10_fewest_71 : decode cX10_fewest 71 = .ok (.iload 4, 2) := by decide +kernel
theorem dX10_fewest_73 : decode cX10_fewest 73 = .ok (.ireturn, 1) := by decide +kernel
theorem dX10_fewest_74 : decode cX10_fewest 74 = .ok (.iinc 4 1, 3) := by decide +kernel
theorem dX10_fewest_77 : decode cX10_fewest 77 = .ok (.goto (-25), 3) := by decide +kernel
theorem dX10_fewest_80 : decode cX10_fewest 80 = .ok (.iconst (-1), 1) := by decide +kernel
theorem dX10_fewest_81 : decode cX10_fewest 81 = .ok (.ireturn, 1) := by decide +kernel
theorem dX10_fewestAnew_0 : decode cX10_fewestAnew 0 = .ok (.iload_n 1, 1) := by decide +kernel
theorem dX10_fewestAnew_1 : decode cX10_fewestAnew 1 = .ok (.iload_n 2, 1) := by decide +kernel
theorem dX10_fewestAnew_2 : decode cX10_fewestAnew 2 = .ok (.invokestatic 81, 3) := by decide +kernel
theorem dX10_fewestAnew_5 : decode cX10_fewestAnew 5 = .ok (.istore_n 3, 1) := by decide +kernel
theorem dX10_fewestAnew_6 : decode cX10_fewestAnew 6 = .ok (.iload_n 3, 1) := by decide +kernel
theorem dX10_fewestAnew_7 : decode cX10_fewestAnew 7 = .ok (.iconst (-1), 1) := by decide +kernel
theorem dX10_fewestAnew_8 : decode cX10_fewestAnew 8 = .ok (.if_icmp .ne 13, 3) := by decide +kernel
theorem dX10_fewestAnew_11 : decode cX10_fewestAnew 11 = .ok (.new 89, 3) := by decide +kernel
theorem dX10_fewestAnew_14 : decode cX10_fewestAnew 14 = .ok (.dup, 1) := by decide +kernel
theorem dX10_fewestAnew_15 : decode cX10_fewestAnew 15 = .ok (.ldc 195, 2) := by decide +kernel
theorem dX10_fewestAnew_17 : decode cX10_fewestAnew 17 = .ok (.invokespecial 93, 3) := by decide +kernel
theorem dX10_fewestAnew_20 : decode cX10_fewestAnew 20 = .ok (.athrow, 1) := by decide +kernel
theorem dX10_fewestAnew_21 : decode cX10_fewestAnew 21 = .ok (.aload_n 0, 1) := by decide +kernel
theorem dX10_fewestAnew_22 : decode cX10_fewestAnew 22 = .ok (.getfield 73, 3) := by decide +kernel
theorem dX10_fewestAnew_25 : decode cX10_fewestAnew 25 = .ok (.ifCond .ne 5, 3) := by decide +kernel
theorem dX10_fewestAnew_28 : decode cX10_fewestAnew 28 = .ok (.iconst (-1), 1) := by decide +kernel
theorem dX10_fewestAnew_29 : decode cX10_fewestAnew 29 = .ok (.ireturn, 1) := by decide +kernel
theorem dX10_fewestAnew_30 : decode cX10_fewestAnew 30 = .ok (.aload_n 0, 1) := by decide +kernel
theorem dX10_fewestAnew_31 : decode cX10_fewestAnew 31 = .ok (.getfield 69, 3) := by decide +kernel
theorem dX10_fewestAnew_34 : decode cX10_fewestAnew 34 = .ok (.aload_n 0, 1) := by decide +kernel
theorem dX10_fewestAnew_35 : decode cX10_fewestAnew 35 = .ok (.getfield 31, 3) := by decide +kernel
theorem dX10_fewestAnew_38 : decode cX10_fewestAnew 38 = .ok (.iload_n 3, 1) := by decide +kernel
theorem dX10_fewestAnew_39 : decode cX10_fewestAnew 39 = .ok (.invokevirtual 301, 3) := by decide +kernel
theorem dX10_fewestAnew_42 : decode cX10_fewestAnew 42 = .ok (.aload_n 0, 1) := by decide +kernel
theorem dX10_fewestAnew_43 : decode cX10_fewestAnew 43 = .ok (.getfield 69, 3) := by decide +kernel
theorem dX10_fewestAnew_46 : decode cX10_fewestAnew 46 = .ok (.iconst 0, 1) := by decide +kernel
theorem dX10_fewestAnew_47 : decode cX10_fewestAnew 47 = .ok (.invokestatic 312, 3) := by decide +kernel
theorem dX10_fewestAnew_50 : decode cX10_fewestAnew 50 = .ok (.istore 4, 2) := by decide +kernel
theorem dX10_fewestAnew_52 : decode cX10_fewestAnew 52 = .ok (.iload 4, 2) := by decide +kernel
theorem dX10_fewestAnew_54 : decode cX10_fewestAnew 54 = .ok (.iconst 3, 1) := by decide +kernel
theorem dX10_fewestAnew_55 : decode cX10_fewestAnew 55 = .ok (.if_icmp .le 7, 3) := by decide +kernel
theorem dX10_fewestAnew_58 : decode cX10_fewestAnew 58 = .ok (.iconst (-1), 1) := by decide +kernel
theorem dX10_fewestAnew_59 : decode cX10_fewestAnew 59 = .ok (.goto 5, 3) := by decide +kernel
theorem dX10_fewestAnew_62 : decode cX10_fewestAnew 62 = .ok (.iload 4, 2) := by decide +kernel
theorem dX10_fewestAnew_64 : decode cX10_fewestAnew 64 = .ok (.ireturn, 1) := by decide +kernel
theorem dX10_fall_0 : decode cX10_fall 0 = .ok (.iload_n 1, 1) := by decide +kernel
theorem dX10_fall_1 : decode cX10_fall 1 = .ok (.ifCond .lt 14, 3) := by decide +kernel
theorem dX10_fall_4 : decode cX10_fall 4 = .ok (.iload_n 1, 1) := by decide +kernel
theorem dX10_fall_5 : decode cX10_fall 5 = .ok (.aload_n 0, 1) := by decide +kernel
theorem dX10_fall_6 : decode cX10_fall 6 = .ok (.getfield 55, 3) := by decide +kernel
theorem dX10_fall_9 : decode cX10_fall 9 = .ok (.invokevirtual 316, 3) := by decide +kernel
theorem dX10_fall_12 : decode cX10_fall 12 = .ok (.if_icmp .lt 14, 3) := by decide +kernel
theorem dX10_fall_15 : decode cX10_fall 15 = .ok (.new 155, 3) := by decide +kernel
theorem dX10_fall_18 : decode cX10_fall 18 = .ok (.dup, 1) := by decide +kernel
theorem dX10_fall_19 : decode cX10_fall 19 = .ok (.ldc_w 319, 3) := by decide +kernel
theorem dX10_fall_22 : decode cX10_fall 22 = .ok (.invokespecial 159, 3) := by decide +kernel
theorem dX10_fall_25 : decode cX10_fall 25 = .ok (.athrow, 1) := by decide +kernel
theorem dX10_fall_26 : decode cX10_fall 26 = .ok (.iload_n 2, 1) := by decide +kernel
theorem dX10_fall_27 : decode cX10_fall 27 = .ok (.tableswitch 83 0 3 #[29, 41, 53, 68], 29) := by decide +kernel
theorem dX10_fall_56 : decode cX10_fall 56 = .ok (.aload_n 0, 1) := by decide +kernel
theorem dX10_fall_57 : decode cX10_fall 57 = .ok (.getfield 55, 3) := by decide +kernel
theorem dX10_fall_60 : decode cX10_fall 60 = .ok (.getfield 321, 3) := by decide +kernel
theorem dX10_fall_63 : decode cX10_fall 63 = .ok (.iload_n 1, 1) := by decide +kernel
theorem dX10_fall_64 : decode cX10_fall 64 = .ok (.invokevirtual 109, 3) := by decide +kernel
theorem dX10_fall_67 : decode cX10_fall 67 = .ok (.ireturn, 1) := by decide +kernel
theorem dX10_fall_68 : decode cX10_fall 68 = .ok (.aload_n 0, 1) := by decide +kernel
theorem dX10_fall_69 : decode cX10_fall 69 = .ok (.getfield 55, 3) := by decide +kernel
theorem dX10_fall_72 : decode cX10_fall 72 = .ok (.getfield 324, 3) := by decide +kernel
theorem dX10_fall_75 : decode cX10_fall 75 = .ok (.iload_n 1, 1) := by decide +kernel
theorem dX10_fall_76 : decode cX10_fall 76 = .ok (.invokevirtual 109, 3) := by decide +kernel
theorem dX10_fall_79 : decode cX10_fall 79 = .ok (.ireturn, 1) := by decide +kernel
theorem dX10_fall_80 : decode cX10_fall 80 = .ok (.aload_n 0, 1) := by decide +kernel
theorem dX10_fall_81 : decode cX10_fall 81 = .ok (.getfield 55, 3) := by decide +kernel
theorem dX10_fall_84 : decode cX10_fall 84 = .ok (.getfield 327, 3) := by decide +kernel
theorem dX10_fall_87 : decode cX10_fall 87 = .ok (.iload_n 1, 1) := by decide +kernel
theorem dX10_fall_88 : decode cX10_fall 88 = .ok (.invokevirtual 109, 3) := by decide +kernel
theorem dX10_fall_91 : decode cX10_fall 91 = .ok (.invokestatic 238, 3) := by decide +kernel
theorem dX10_fall_94 : decode cX10_fall 94 = .ok (.ireturn, 1) := by decide +kernel
theorem dX10_fall_95 : decode cX10_fall 95 = .ok (.aload_n 0, 1) := by decide +kernel
theorem dX10_fall_96 : decode cX10_fall 96 = .ok (.getfield 55, 3) := by decide +kernel
theorem dX10_fall_99 : decode cX10_fall 99 = .ok (.getfield 327, 3) := by decide +kernel
theorem dX10_fall_102 : decode cX10_fall 102 = .ok (.iload_n 1, 1) := by decide +kernel
theorem dX10_fall_103 : decode cX10_fall 103 = .ok (.invokevirtual 109, 3) := by decide +kernel
theorem dX10_fall_106 : decode cX10_fall 106 = .ok (.invokestatic 241, 3) := by decide +kernel
theorem dX10_fall_109 : decode cX10_fall 109 = .ok (.ireturn, 1) := by decide +kernel
theorem dX10_fall_110 : decode cX10_fall 110 = .ok (.new 89, 3) := by decide +kernel
theorem dX10_fall_113 : decode cX10_fall 113 = .ok (.dup, 1) := by decide +kernel
theorem dX10_fall_114 : decode cX10_fall 114 = .ok (.ldc 233, 2) := by decide +kernel
theorem dX10_fall_116 : decode cX10_fall 116 = .ok (.invokespecial 93, 3) := by decide +kernel
theorem dX10_fall_119 : decode cX10_fall 119 = .ok (.athrow, 1) := by decide +kernel
theorem dX10_takeLoad_0 : decode cX10_takeLoad 0 = .ok (.aload_n 0, 1) := by decide +kernel
theorem dX10_takeLoad_1 : decode cX10_takeLoad 1 = .ok (.getfield 22, 3) := by decide +kernel
theorem dX10_takeLoad_4 : decode cX10_takeLoad 4 = .ok (.getfield 222, 3) := by decide +kernel
theorem dX10_takeLoad_7 : decode cX10_takeLoad 7 = .ok (.istore 4, 2) := by decide +kernel
theorem dX10_takeLoad_9 : decode cX10_takeLoad 9 = .ok (.aload_n 0, 1) := by decide +kernel
theorem dX10_takeLoad_10 : decode cX10_takeLoad 10 = .ok (.getfield 22, 3) := by decide +kernel
theorem dX10_takeLoad_13 : decode cX10_takeLoad 13 = .ok (.getfield 330, 3) := by decide +kernel
theorem dX10_takeLoad_16 : decode cX10_takeLoad 16 = .ok (.istore 5, 2) := by decide +kernel
theorem dX10_takeLoad_18 : decode cX10_takeLoad 18 = .ok (.aload_n 0, 1) := by decide +kernel
theorem dX10_takeLoad_19 : decode cX10_takeLoad 19 = .ok (.getfield 22, 3) := by decide +kernel
theorem dX10_takeLoad_22 : decode cX10_takeLoad 22 = .ok (.getfield 333, 3) := by decide +kernel
theorem dX10_takeLoad_25 : decode cX10_takeLoad 25 = .ok (.istore 6, 2) := by decide +kernel
theorem dX10_takeLoad_27 : decode cX10_takeLoad 27 = .ok (.aload_n 0, 1) := by decide +kernel
theorem dX10_takeLoad_28 : decode cX10_takeLoad 28 = .ok (.getfield 22, 3) := by decide +kernel
theorem dX10_takeLoad_31 : decode cX10_takeLoad 31 = .ok (.iload_n 1, 1) := by decide +kernel
theorem dX10_takeLoad_32 : decode cX10_takeLoad 32 = .ok (.iload_n 2, 1) := by decide +kernel
theorem dX10_takeLoad_33 : decode cX10_takeLoad 33 = .ok (.iload_n 3, 1) := by decide +kernel
theorem dX10_takeLoad_34 : decode cX10_takeLoad 34 = .ok (.invokevirtual 336, 3) := by decide +kernel
theorem dX10_takeLoad_37 : decode cX10_takeLoad 37 = .ok (.aload_n 0, 1) := by decide +kernel
theorem dX10_takeLoad_38 : decode cX10_takeLoad 38 = .ok (.getfield 73, 3) := by decide +kernel
theorem dX10_takeLoad_41 : decode cX10_takeLoad 41 = .ok (.ifCond .eq 29, 3) := by decide +kernel
theorem dX10_takeLoad_44 : decode cX10_takeLoad 44 = .ok (.aload_n 0, 1) := by decide +kernel
theorem dX10_takeLoad_45 : decode cX10_takeLoad 45 = .ok (.getfield 31, 3) := by decide +kernel
theorem dX10_takeLoad_48 : decode cX10_takeLoad 48 = .ok (.iconst (-1), 1) := by decide +kernel
theorem dX10_takeLoad_49 : decode cX10_takeLoad 49 = .ok (.invokevirtual 244, 3) := by decide +kernel
theorem dX10_takeLoad_52 : decode cX10_takeLoad 52 = .ok (.ifCond .ne 18, 3) := by decide +kernel
theorem dX10_takeLoad_55 : decode cX10_takeLoad 55 = .ok (.aload_n 0, 1) := by decide +kernel
theorem dX10_takeLoad_56 : decode cX10_takeLoad 56 = .ok (.getfield 22, 3) := by decide +kernel
theorem dX10_takeLoad_59 : decode cX10_takeLoad 59 = .ok (.iload 4, 2) := by decide +kernel
theorem dX10_takeLoad_61 : decode cX10_takeLoad 61 = .ok (.iload 5, 2) := by decide +kernel
theorem dX10_takeLoad_63 : decode cX10_takeLoad 63 = .ok (.iload 6, 2) := by decide +kernel
theorem dX10_takeLoad_65 : decode cX10_takeLoad 65 = .ok (.invokevirtual 336, 3) := by decide +kernel
theorem dX10_takeLoad_68 : decode cX10_takeLoad 68 = .ok (.iconst 0, 1) := by decide +kernel
theorem dX10_takeLoad_69 : decode cX10_takeLoad 69 = .ok (.ireturn, 1) := by decide +kernel
theorem dX10_takeLoad_70 : decode cX10_takeLoad 70 = .ok (.aload_n 0, 1) := by decide +kernel
theorem dX10_takeLoad_71 : decode cX10_takeLoad 71 = .ok (.getfield 48, 3) := by decide +kernel
theorem dX10_takeLoad_74 : decode cX10_takeLoad 74 = .ok (.invokevirtual 340, 3) := by decide +kernel
theorem dX10_takeLoad_77 : decode cX10_takeLoad 77 = .ok (.iconst 1, 1) := by decide +kernel
theorem dX10_takeLoad_78 : decode cX10_takeLoad 78 = .ok (.ireturn, 1) := by decide +kernel
theorem dX10_getUp_0 : decode cX10_getUp 0 = .ok (.aload_n 0, 1) := by decide +kernel
theorem dX10_getUp_1 : decode cX10_getUp 1 = .ok (.getfield 73, 3) := by decide +kernel
theorem dX10_getUp_4 : decode cX10_getUp 4 = .ok (.ifCond .ne 19, 3) := by decide +kernel
theorem dX10_getUp_7 : decode cX10_getUp 7 = .ok (.aload_n 0, 1) := by decide +kernel
theorem dX10_getUp_8 : decode cX10_getUp 8 = .ok (.getfield 77, 3) := by decide +kernel
theorem dX10_getUp_11 : decode cX10_getUp 11 = .ok (.bipush 20, 2) := by decide +kernel
theorem dX10_getUp_13 : decode cX10_getUp 13 = .ok (.if_icmp .lt 10, 3) := by decide +kernel
theorem dX10_getUp_16 : decode cX10_getUp 16 = .ok (.aload_n 0, 1) := by decide +kernel
theorem dX10_getUp_17 : decode cX10_getUp 17 = .ok (.invokevirtual 343, 3) := by decide +kernel
theorem dX10_getUp_20 : decode cX10_getUp 20 = .ok (.ifCond .ne 5, 3) := by decide +kernel
theorem dX10_getUp_23 : decode cX10_getUp 23 = .ok (.iconst 0, 1) := by decide +kernel
theorem dX10_getUp_24 : decode cX10_getUp 24 = .ok (.ireturn, 1) := by decide +kernel
theorem dX10_getUp_25 : decode cX10_getUp 25 = .ok (.aload_n 0, 1) := by decide +kernel
theorem dX10_getUp_26 : decode cX10_getUp 26 = .ok (.dup, 1) := by decide +kernel
theorem dX10_getUp_27 : decode cX10_getUp 27 = .ok (.getfield 77, 3) := by decide +kernel
theorem dX10_getUp_30 : decode cX10_getUp 30 = .ok (.bipush 20, 2) := by decide +kernel
theorem dX10_getUp_32 : decode cX10_getUp 32 = .ok (.isub, 1) := by decide +kernel
theorem dX10_getUp_33 : decode cX10_getUp 33 = .ok (.putfield 77, 3) := by decide +kernel
theorem dX10_getUp_36 : decode cX10_getUp 36 = .ok (.aload_n 0, 1) := by decide +kernel
theorem dX10_getUp_37 : decode cX10_getUp 37 = .ok (.iconst 1, 1) := by decide +kernel
theorem dX10_getUp_38 : decode cX10_getUp 38 = .ok (.putfield 73, 3) := by decide +kernel
theorem dX10_getUp_41 : decode cX10_getUp 41 = .ok (.aload_n 0, 1) := by decide +kernel
theorem dX10_getUp_42 : decode cX10_getUp 42 = .ok (.getfield 48, 3) := by decide +kernel
theorem dX10_getUp_45 : decode cX10_getUp 45 = .ok (.invokevirtual 346, 3) := by decide +kernel
theorem dX10_getUp_48 : decode cX10_getUp 48 = .ok (.iconst 0, 1) := by decide +kernel
theorem dX10_getUp_49 : decode cX10_getUp 49 = .ok (.istore_n 1, 1) := by decide +kernel
theorem dX10_getUp_50 : decode cX10_getUp 50 = .ok (.iload_n 1, 1) := by decide +kernel
theorem dX10_getUp_51 : decode cX10_getUp 51 = .ok (.aload_n 0, 1) := by decide +kernel
theorem dX10_getUp_52 : decode cX10_getUp 52 = .ok (.getfield 22, 3) := by decide +kernel
theorem dX10_getUp_55 : decode cX10_getUp 55 = .ok (.getfield 136, 3) := by decide +kernel
theorem dX10_getUp_58 : decode cX10_getUp 58 = .ok (.if_icmp .ge 52, 3) := by decide +kernel
theorem dX10_getUp_61 : decode cX10_getUp 61 = .ok (.aload_n 0, 1) := by decide +kernel
theorem dX10_getUp_62 : decode cX10_getUp 62 = .ok (.getfield 31, 3) := by decide +kernel
theorem dX10_getUp_65 : decode cX10_getUp 65 = .ok (.iload_n 1, 1) := by decide +kernel
theorem dX10_getUp_66 : decode cX10_getUp 66 = .ok (.invokevirtual 349, 3) := by decide +kernel
theorem dX10_getUp_69 : decode cX10_getUp 69 = .ok (.aload_n 0, 1) := by decide +kernel
theorem dX10_getUp_70 : decode cX10_getUp 70 = .ok (.getfield 31, 3) := by decide +kernel
theorem dX10_getUp_73 : decode cX10_getUp 73 = .ok (.iload_n 1, 1) := by decide +kernel
theorem dX10_getUp_74 : decode cX10_getUp 74 = .ok (.invokevirtual 352, 3) := by decide +kernel
theorem dX10_getUp_77 : decode cX10_getUp 77 = .ok (.invokestatic 81, 3) := by decide +kernel
theorem dX10_getUp_80 : decode cX10_getUp 80 = .ok (.istore_n 2, 1) := by decide +kernel
theorem dX10_getUp_81 : decode cX10_getUp 81 = .ok (.iload_n 2, 1) := by decide +kernel
theorem dX10_getUp_82 : decode cX10_getUp 82 = .ok (.iconst (-1), 1) := by decide +kernel
theorem dX10_getUp_83 : decode cX10_getUp 83 = .ok (.if_icmp .eq 21, 3) := by decide +kernel
theorem dX10_getUp_86 : decode cX10_getUp 86 = .ok (.aload_n 0, 1) := by decide +kernel
theorem dX10_getUp_87 : decode cX10_getUp 87 = .ok (.getfield 31, 3) := by decide +kernel
theorem dX10_getUp_90 : decode cX10_getUp 90 = .ok (.iload_n 2, 1) := by decide +kernel
theorem dX10_getUp_91 : decode cX10_getUp 91 = .ok (.iconst (-1), 1) := by decide +kernel
theorem dX10_getUp_92 : decode cX10_getUp 92 = .ok (.invokevirtual 96, 3) := by decide +kernel
theorem dX10_getUp_95 : decode cX10_getUp 95 = .ok (.ifCond .ne 9, 3) := by decide +kernel
theorem dX10_getUp_98 : decode cX10_getUp 98 = .ok (.aload_n 0, 1) := by decide +kernel
theorem dX10_getUp_99 : decode cX10_getUp 99 = .ok (.iload_n 1, 1) := by decide +kernel
theorem dX10_getUp_100 : decode cX10_getUp 100 = .ok (.iload_n 2, 1) := by decide +kernel
theorem dX10_getUp_101 : decode cX10_getUp 101 = .ok (.invokevirtual 355, 3) := by decide +kernel
theorem dX10_getUp_104 : decode cX10_getUp 104 = .ok (.iinc 1 1, 3) := by decide +kernel
theorem dX10_getUp_107 : decode cX10_getUp 107 = .ok (.goto (-57), 3) := by decide +kernel
theorem dX10_getUp_110 : decode cX10_getUp 110 = .ok (.iconst 1, 1) := by decide +kernel
theorem dX10_getUp_111 : decode cX10_getUp 111 = .ok (.ireturn, 1) := by decide +kernel
theorem dX10_liftFoot_0 : decode cX10_liftFoot 0 = .ok (.aload_n 0, 1) := by decide +kernel
theorem dX10_liftFoot_1 : decode cX10_liftFoot 1 = .ok (.iload_n 1, 1) := by decide +kernel
theorem dX10_liftFoot_2 : decode cX10_liftFoot 2 = .ok (.invokevirtual 291, 3) := by decide +kernel
theorem dX10_liftFoot_5 : decode cX10_liftFoot 5 = .ok (.ifCond .ne 5, 3) := by decide +kernel
theorem dX10_liftFoot_8 : decode cX10_liftFoot 8 = .ok (.iconst 0, 1) := by decide +kernel
theorem dX10_liftFoot_9 : decode cX10_liftFoot 9 = .ok (.ireturn, 1) := by decide +kernel
theorem dX10_liftFoot_10 : decode cX10_liftFoot 10 = .ok (.aload_n 0, 1) := by decide +kernel
theorem dX10_liftFoot_11 : decode cX10_liftFoot 11 = .ok (.dup, 1) := by decide +kernel
theorem dX10_liftFoot_12 : decode cX10_liftFoot 12 = .ok (.getfield 77, 3) := by decide +kernel
theorem dX10_liftFoot_15 : decode cX10_liftFoot 15 = .ok (.iconst 1, 1) := by decide +kernel
theorem dX10_liftFoot_16 : decode cX10_liftFoot 16 = .ok (.isub, 1) := by decide +kernel
theorem dX10_liftFoot_17 : decode cX10_liftFoot 17 = .ok (.putfield 77, 3) := by decide +kernel
theorem dX10_liftFoot_20 : decode cX10_liftFoot 20 = .ok (.aload_n 0, 1) := by decide +kernel
theorem dX10_liftFoot_21 : decode cX10_liftFoot 21 = .ok (.getfield 48, 3) := by decide +kernel
theorem dX10_liftFoot_24 : decode cX10_liftFoot 24 = .ok (.invokevirtual 340, 3) := by decide +kernel
theorem dX10_liftFoot_27 : decode cX10_liftFoot 27 = .ok (.aload_n 0, 1) := by decide +kernel
theorem dX10_liftFoot_28 : decode cX10_liftFoot 28 = .ok (.getfield 31, 3) := by decide +kernel
theorem dX10_liftFoot_31 : decode cX10_liftFoot 31 = .ok (.getfield 235, 3) := by decide +kernel
theorem dX10_liftFoot_34 : decode cX10_liftFoot 34 = .ok (.iload_n 1, 1) := by decide +kernel
theorem dX10_liftFoot_35 : decode cX10_liftFoot 35 = .ok (.iconst (-1), 1) := by decide +kernel
theorem dX10_liftFoot_36 : decode cX10_liftFoot 36 = .ok (.invokevirtual 115, 3) := by decide +kernel
theorem dX10_liftFoot_39 : decode cX10_liftFoot 39 = .ok (.iconst 1, 1) := by decide +kernel
theorem dX10_liftFoot_40 : decode cX10_liftFoot 40 = .ok (.ireturn, 1) := by decide +kernel
theorem dX10_placeFoot_0 : decode cX10_placeFoot 0 = .ok (.iconst 1, 1) := by decide +kernel
theorem dX10_placeFoot_1 : decode cX10_placeFoot 1 = .ok (.aload_n 0, 1) := by decide +kernel
theorem dX10_placeFoot_2 : decode cX10_placeFoot 2 = .ok (.getfield 31, 3) := by decide +kernel
theorem dX10_placeFoot_5 : decode cX10_placeFoot 5 = .ok (.iload_n 1, 1) := by decide +kernel
theorem dX10_placeFoot_6 : decode cX10_placeFoot 6 = .ok (.iload_n 2, 1) := by decide +kernel
theorem dX10_placeFoot_7 : decode cX10_placeFoot 7 = .ok (.invokevirtual 358, 3) := by decide +kernel
theorem dX10_placeFoot_10 : decode cX10_placeFoot 10 = .ok (.iadd, 1) := by decide +kernel
theorem dX10_placeFoot_11 : decode cX10_placeFoot 11 = .ok (.istore_n 3, 1) := by decide +kernel
theorem dX10_placeFoot_12 : decode cX10_placeFoot 12 = .ok (.aload_n 0, 1) := by decide +kernel
theorem dX10_placeFoot_13 : decode cX10_placeFoot 13 = .ok (.getfield 15, 3) := by decide +kernel
theorem dX10_placeFoot_16 : decode cX10_placeFoot 16 = .ok (.getfield 127, 3) := by decide +kernel
theorem dX10_placeFoot_19 : decode cX10_placeFoot 19 = .ok (.iload_n 2, 1) := by decide +kernel
theorem dX10_placeFoot_20 : decode cX10_placeFoot 20 = .ok (.invokevirtual 109, 3) := by decide +kernel
theorem dX10_placeFoot_23 : decode cX10_placeFoot 23 = .ok (.aload_n 0, 1) := by decide +kernel
theorem dX10_placeFoot_24 : decode cX10_placeFoot 24 = .ok (.getfield 31, 3) := by decide +kernel
theorem dX10_placeFoot_27 : decode cX10_placeFoot 27 = .ok (.iconst (-1), 1) := by decide +kernel
theorem dX10_placeFoot_28 : decode cX10_placeFoot 28 = .ok (.invokevirtual 225, 3) := by decide +kernel
theorem dX10_placeFoot_31 : decode cX10_placeFoot 31 = .ok (.isub, 1) := by decide +kernel
theorem dX10_placeFoot_32 : decode cX10_placeFoot 32 = .ok (.invokestatic 361, 3) := by decide +kernel
theorem dX10_placeFoot_35 : decode cX10_placeFoot 35 = .ok (.istore 4, 2) := by decide +kernel
theorem dX10_placeFoot_37 : decode cX10_placeFoot 37 = .ok (.aload_n 0, 1) := by decide +kernel
theorem dX10_placeFoot_38 : decode cX10_placeFoot 38 = .ok (.getfield 73, 3) := by decide +kernel
theorem dX10_placeFoot_41 : decode cX10_placeFoot 41 = .ok (.ifCond .eq 56, 3) := by decide +kernel
theorem dX10_placeFoot_44 : decode cX10_placeFoot 44 = .ok (.aload_n 0, 1) := by decide +kernel
theorem dX10_placeFoot_45 : decode cX10_placeFoot 45 = .ok (.getfield 77, 3) := by decide +kernel
theorem dX10_placeFoot_48 : decode cX10_placeFoot 48 = .ok (.iload_n 3, 1) := by decide +kernel
theorem dX10_placeFoot_49 : decode cX10_placeFoot 49 = .ok (.if_icmp .lt 48, 3) := by decide +kernel
theorem dX10_placeFoot_52 : decode cX10_placeFoot 52 = .ok (.aload_n 0, 1) := by decide +kernel
theorem dX10_placeFoot_53 : decode cX10_placeFoot 53 = .ok (.getfield 31, 3) := by decide +kernel
theorem dX10_placeFoot_56 : decode cX10_placeFoot 56 = .ok (.getfield 235, 3) := by decide +kernel
theorem dX10_placeFoot_59 : decode cX10_placeFoot 59 = .ok (.iload_n 1, 1) := by decide +kernel
theorem dX10_placeFoot_60 : decode cX10_placeFoot 60 = .ok (.invokevirtual 109, 3) := by decide +kernel
theorem dX10_placeFoot_63 : decode cX10_placeFoot 63 = .ok (.iconst (-1), 1) := by decide +kernel
theorem dX10_placeFoot_64 : decode cX10_placeFoot 64 = .ok (.if_icmp .ne 33, 3) := by decide +kernel
theorem dX10_placeFoot_67 : decode cX10_placeFoot 67 = .ok (.iload 4, 2) := by decide +kernel
theorem dX10_placeFoot_69 : decode cX10_placeFoot 69 = .ok (.iconst 2, 1) := by decide +kernel
theorem dX10_placeFoot_70 : decode cX10_placeFoot 70 = .ok (.if_icmp .gt 27, 3) := by decide +kernel
theorem dX10_placeFoot_73 : decode cX10_placeFoot 73 = .ok (.aload_n 0, 1) := by decide +kernel
theorem dX10_placeFoot_74 : decode cX10_placeFoot 74 = .ok (.getfield 31, 3) := by decide +kernel
theorem dX10_placeFoot_77 : decode cX10_placeFoot 77 = .ok (.iload_n 1, 1) := by decide +kernel
theorem dX10_placeFoot_78 : decode cX10_placeFoot 78 = .ok (.iload_n 2, 1) := by decide +kernel
theorem dX10_placeFoot_79 : decode cX10_placeFoot 79 = .ok (.invokevirtual 364, 3) := by decide +kernel
theorem dX10_placeFoot_82 : decode cX10_placeFoot 82 = .ok (.ifCond .eq 15, 3) := by decide +kernel
theorem dX10_placeFoot_85 : decode cX10_placeFoot 85 = .ok (.aload_n 0, 1) := by decide +kernel
theorem dX10_placeFoot_86 : decode cX10_placeFoot 86 = .ok (.getfield 31, 3) := by decide +kernel
theorem dX10_placeFoot_89 : decode cX10_placeFoot 89 = .ok (.iload_n 2, 1) := by decide +kernel
theorem dX10_placeFoot_90 : decode cX10_placeFoot 90 = .ok (.iconst (-1), 1) := by decide +kernel
theorem dX10_placeFoot_91 : decode cX10_placeFoot 91 = .ok (.invokevirtual 96, 3) := by decide +kernel
theorem dX10_placeFoot_94 : decode cX10_placeFoot 94 = .ok (.ifCond .eq 5, 3) := by decide +kernel
theorem dX10_placeFoot_97 : decode cX10_placeFoot 97 = .ok (.iconst 0, 1) := by decide +kernel
theorem dX10_placeFoot_98 : decode cX10_placeFoot 98 = .ok (.ireturn, 1) := by decide +kernel
theorem dX10_placeFoot_99 : decode cX10_placeFoot 99 = .ok (.aload_n 0, 1) := by decide +kernel
theorem dX10_placeFoot_100 : decode cX10_placeFoot 100 = .ok (.dup, 1) := by decide +kernel
theorem dX10_placeFoot_101 : decode cX10_placeFoot 101 = .ok (.getfield 77, 3) := by decide +kernel
theorem dX10_placeFoot_104 : decode cX10_placeFoot 104 = .ok (.iload_n 3, 1) := by decide +kernel
theorem dX10_placeFoot_105 : decode cX10_placeFoot 105 = .ok (.isub, 1) := by decide +kernel
theorem dX10_placeFoot_106 : decode cX10_placeFoot 106 = .ok (.putfield 77, 3) := by decide +kernel
theorem dX10_placeFoot_109 : decode cX10_placeFoot 109 = .ok (.aload_n 0, 1) := by decide +kernel
theorem dX10_placeFoot_110 : decode cX10_placeFoot 110 = .ok (.getfield 48, 3) := by decide +kernel
theorem dX10_placeFoot_113 : decode cX10_placeFoot 113 = .ok (.invokevirtual 340, 3) := by decide +kernel
theorem dX10_placeFoot_116 : decode cX10_placeFoot 116 = .ok (.aload_n 0, 1) := by decide +kernel
theorem dX10_placeFoot_117 : decode cX10_placeFoot 117 = .ok (.iload_n 1, 1) := by decide +kernel
theorem dX10_placeFoot_118 : decode cX10_placeFoot 118 = .ok (.iload_n 2, 1) := by decide +kernel
theorem dX10_placeFoot_119 : decode cX10_placeFoot 119 = .ok (.invokevirtual 355, 3) := by decide +kernel
theorem dX10_placeFoot_122 : decode cX10_placeFoot 122 = .ok (.iconst 1, 1) := by decide +kernel
theorem dX10_placeFoot_123 : decode cX10_placeFoot 123 = .ok (.ireturn, 1) := by decide +kernel
theorem dX10_shiftBody_0 : decode cX10_shiftBody 0 = .ok (.aload_n 0, 1) := by decide +kernel
theorem dX10_shiftBody_1 : decode cX10_shiftBody 1 = .ok (.getfield 22, 3) := by decide +kernel
theorem dX10_shiftBody_4 : decode cX10_shiftBody 4 = .ok (.invokevirtual 253, 3) := by decide +kernel
theorem dX10_shiftBody_7 : decode cX10_shiftBody 7 = .ok (.bipush 10, 2) := by decide +kernel
theorem dX10_shiftBody_9 : decode cX10_shiftBody 9 = .ok (.invokestatic 367, 3) := by decide +kernel
theorem dX10_shiftBody_12 : decode cX10_shiftBody 12 = .ok (.istore_n 3, 1) := by decide +kernel
theorem dX10_shiftBody_13 : decode cX10_shiftBody 13 = .ok (.aload_n 0, 1) := by decide +kernel
theorem dX10_shiftBody_14 : decode cX10_shiftBody 14 = .ok (.getfield 35, 3) := by decide +kernel
theorem dX10_shiftBody_17 : decode cX10_shiftBody 17 = .ok (.aload_n 0, 1) := by decide +kernel
theorem dX10_shiftBody_18 : decode cX10_shiftBody 18 = .ok (.getfield 31, 3) := by decide +kernel
theorem dX10_shiftBody_21 : decode cX10_shiftBody 21 = .ok (.invokevirtual 294, 3) := by decide +kernel
theorem dX10_shiftBody_24 : decode cX10_shiftBody 24 = .ok (.aload_n 0, 1) := by decide +kernel
theorem dX10_shiftBody_25 : decode cX10_shiftBody 25 = .ok (.getfield 73, 3) := by decide +kernel
theorem dX10_shiftBody_28 : decode cX10_shiftBody 28 = .ok (.ifCond .eq 23, 3) := by decide +kernel
theorem dX10_shiftBody_31 : decode cX10_shiftBody 31 = .ok (.aload_n 0, 1) := by decide +kernel
theorem dX10_shiftBody_32 : decode cX10_shiftBody 32 = .ok (.getfield 77, 3) := by decide +kernel
theorem dX10_shiftBody_35 : decode cX10_shiftBody 35 = .ok (.iload_n 3, 1) := by decide +kernel
theorem dX10_shiftBody_36 : decode cX10_shiftBody 36 = .ok (.if_icmp .lt 15, 3) := by decide +kernel
theorem dX10_shiftBody_39 : decode cX10_shiftBody 39 = .ok (.aload_n 0, 1) := by decide +kernel
theorem dX10_shiftBody_40 : decode cX10_shiftBody 40 = .ok (.getfield 35, 3) := by decide +kernel
theorem dX10_shiftBody_43 : decode cX10_shiftBody 43 = .ok (.iload_n 1, 1) := by decide +kernel
theorem dX10_shiftBody_44 : decode cX10_shiftBody 44 = .ok (.iload_n 2, 1) := by decide +kernel
theorem dX10_shiftBody_45 : decode cX10_shiftBody 45 = .ok (.invokevirtual 370, 3) := by decide +kernel
theorem dX10_shiftBody_48 : decode cX10_shiftBody 48 = .ok (.ifCond .ne 5, 3) := by decide +kernel
theorem dX10_shiftBody_51 : decode cX10_shiftBody 51 = .ok (.iconst 0, 1) := by decide +kernel
theorem dX10_shiftBody_52 : decode cX10_shiftBody 52 = .ok (.ireturn, 1) := by decide +kernel
theorem dX10_shiftBody_53 : decode cX10_shiftBody 53 = .ok (.aload_n 0, 1) := by decide +kernel
theorem dX10_shiftBody_54 : decode cX10_shiftBody 54 = .ok (.dup, 1) := by decide +kernel
theorem dX10_shiftBody_55 : decode cX10_shiftBody 55 = .ok (.getfield 77, 3) := by decide +kernel
theorem dX10_shiftBody_58 : decode cX10_shiftBody 58 = .ok (.iload_n 3, 1) := by decide +kernel
theorem dX10_shiftBody_59 : decode cX10_shiftBody 59 = .ok (.isub, 1) := by decide +kernel
theorem dX10_shiftBody_60 : decode cX10_shiftBody 60 = .ok (.putfield 77, 3) := by decide +kernel
theorem dX10_shiftBody_63 : decode cX10_shiftBody 63 = .ok (.aload_n 0, 1) := by decide +kernel
theorem dX10_shiftBody_64 : decode cX10_shiftBody 64 = .ok (.getfield 48, 3) := by decide +kernel
theorem dX10_shiftBody_67 : decode cX10_shiftBody 67 = .ok (.invokevirtual 340, 3) := by decide +kernel
theorem dX10_shiftBody_70 : decode cX10_shiftBody 70 = .ok (.aload_n 0, 1) := by decide +kernel
theorem dX10_shiftBody_71 : decode cX10_shiftBody 71 = .ok (.getfield 31, 3) := by decide +kernel
theorem dX10_shiftBody_74 : decode cX10_shiftBody 74 = .ok (.aload_n 0, 1) := by decide +kernel
theorem dX10_shiftBody_75 : decode cX10_shiftBody 75 = .ok (.getfield 35, 3) := by decide +kernel
theorem dX10_shiftBody_78 : decode cX10_shiftBody 78 = .ok (.invokevirtual 294, 3) := by decide +kernel
theorem dX10_shiftBody_81 : decode cX10_shiftBody 81 = .ok (.iconst 1, 1) := by decide +kernel
theorem dX10_shiftBody_82 : decode cX10_shiftBody 82 = .ok (.ireturn, 1) := by decide +kernel
theorem dX10_isPhaseDone_0 : decode cX10_isPhaseDone 0 = .ok (.aload_n 0, 1) := by decide +kernel
theorem dX10_isPhaseDone_1 : decode cX10_isPhaseDone 1 = .ok (.getfield 62, 3) := by decide +kernel
theorem dX10_isPhaseDone_4 : decode cX10_isPhaseDone 4 = .ok (.getfield 373, 3) := by decide +kernel
theorem dX10_isPhaseDone_7 : decode cX10_isPhaseDone 7 = .ok (.iload_n 1, 1) := by decide +kernel
theorem dX10_isPhaseDone_8 : decode cX10_isPhaseDone 8 = .ok (.invokevirtual 109, 3) := by decide +kernel
theorem dX10_isPhaseDone_11 : decode cX10_isPhaseDone 11 = .ok (.istore_n 2, 1) := by decide +kernel
theorem dX10_isPhaseDone_12 : decode cX10_isPhaseDone 12 = .ok (.aload_n 0, 1) := by decide +kernel
theorem dX10_isPhaseDone_13 : decode cX10_isPhaseDone 13 = .ok (.getfield 31, 3) := by decide +kernel
theorem dX10_isPhaseDone_16 : decode cX10_isPhaseDone 16 = .ok (.getfield 235, 3) := by decide +kernel
theorem dX10_isPhaseDone_19 : decode cX10_isPhaseDone 19 = .ok (.iload_n 2, 1) := by decide +kernel
theorem dX10_isPhaseDone_20 : decode cX10_isPhaseDone 20 = .ok (.invokevirtual 109, 3) := by decide +kernel
theorem dX10_isPhaseDone_23 : decode cX10_isPhaseDone 23 = .ok (.istore_n 3, 1) := by decide +kernel
theorem dX10_isPhaseDone_24 : decode cX10_isPhaseDone 24 = .ok (.aload_n 0, 1) := by decide +kernel
theorem dX10_isPhaseDone_25 : decode cX10_isPhaseDone 25 = .ok (.iload_n 2, 1) := by decide +kernel
theorem dX10_isPhaseDone_26 : decode cX10_isPhaseDone 26 = .ok (.invokevirtual 192, 3) := by decide +kernel
theorem dX10_isPhaseDone_29 : decode cX10_isPhaseDone 29 = .ok (.ifCond .eq 10, 3) := by decide +kernel
theorem dX10_isPhaseDone_32 : decode cX10_isPhaseDone 32 = .ok (.aload_n 0, 1) := by decide +kernel
theorem dX10_isPhaseDone_33 : decode cX10_isPhaseDone 33 = .ok (.invokevirtual 181, 3) := by decide +kernel
theorem dX10_isPhaseDone_36 : decode cX10_isPhaseDone 36 = .ok (.ifCond .eq 5, 3) := by decide +kernel
theorem dX10_isPhaseDone_39 : decode cX10_isPhaseDone 39 = .ok (.iconst 0, 1) := by decide +kernel
theorem dX10_isPhaseDone_40 : decode cX10_isPhaseDone 40 = .ok (.ireturn, 1) := by decide +kernel
theorem dX10_isPhaseDone_41 : decode cX10_isPhaseDone 41 = .ok (.iload_n 3, 1) := by decide +kernel
theorem dX10_isPhaseDone_42 : decode cX10_isPhaseDone 42 = .ok (.invokestatic 238, 3) := by decide +kernel
theorem dX10_isPhaseDone_45 : decode cX10_isPhaseDone 45 = .ok (.aload_n 0, 1) := by decide +kernel
theorem dX10_isPhaseDone_46 : decode cX10_isPhaseDone 46 = .ok (.getfield 62, 3) := by decide +kernel
theorem dX10_isPhaseDone_49 : decode cX10_isPhaseDone 49 = .ok (.getfield 376, 3) := by decide +kernel
theorem dX10_isPhaseDone_52 : decode cX10_isPhaseDone 52 = .ok (.iload_n 1, 1) := by decide +kernel
theorem dX10_isPhaseDone_53 : decode cX10_isPhaseDone 53 = .ok (.invokevirtual 109, 3) := by decide +kernel
theorem dX10_isPhaseDone_56 : decode cX10_isPhaseDone 56 = .ok (.iadd, 1) := by decide +kernel
theorem dX10_isPhaseDone_57 : decode cX10_isPhaseDone 57 = .ok (.iload_n 3, 1) := by decide +kernel
theorem dX10_isPhaseDone_58 : decode cX10_isPhaseDone 58 = .ok (.invokestatic 241, 3) := by decide +kernel
theorem dX10_isPhaseDone_61 : decode cX10_isPhaseDone 61 = .ok (.aload_n 0, 1) := by decide +kernel
theorem dX10_isPhaseDone_62 : decode cX10_isPhaseDone 62 = .ok (.getfield 62, 3) := by decide +kernel
theorem dX10_isPhaseDone_65 : decode cX10_isPhaseDone 65 = .ok (.getfield 379, 3) := by decide +kernel
theorem dX10_isPhaseDone_68 : decode cX10_isPhaseDone 68 = .ok (.iload_n 1, 1) := by decide +kernel
theorem dX10_isPhaseDone_69 : decode cX10_isPhaseDone 69 = .ok (.invokevirtual 109, 3) := by decide +kernel
theorem dX10_isPhaseDone_72 : decode cX10_isPhaseDone 72 = .ok (.iadd, 1) := by decide +kernel
theorem dX10_isPhaseDone_73 : decode cX10_isPhaseDone 73 = .ok (.invokestatic 81, 3) := by decide +kernel
theorem dX10_isPhaseDone_76 : decode cX10_isPhaseDone 76 = .ok (.istore 4, 2) := by decide +kernel
theorem dX10_isPhaseDone_78 : decode cX10_isPhaseDone 78 = .ok (.iload 4, 2) := by decide +kernel
theorem dX10_isPhaseDone_80 : decode cX10_isPhaseDone 80 = .ok (.iconst (-1), 1) := by decide +kernel
theorem dX10_isPhaseDone_81 : decode cX10_isPhaseDone 81 = .ok (.if_icmp .eq 20, 3) := by decide +kernel
theorem dX10_isPhaseDone_84 : decode cX10_isPhaseDone 84 = .ok (.aload_n 0, 1) := by decide +kernel
theorem dX10_isPhaseDone_85 : decode cX10_isPhaseDone 85 = .ok (.iload_n 2, 1) := by decide +kernel
theorem dX10_isPhaseDone_86 : decode cX10_isPhaseDone 86 = .ok (.iload 4, 2) := by decide +kernel
theorem dX10_isPhaseDone_88 : decode cX10_isPhaseDone 88 = .ok (.invokevirtual 197, 3) := by decide +kernel
theorem dX10_isPhaseDone_91 : decode cX10_isPhaseDone 91 = .ok (.ifCond .eq 10, 3) := by decide +kernel
theorem dX10_isPhaseDone_94 : decode cX10_isPhaseDone 94 = .ok (.aload_n 0, 1) := by decide +kernel
theorem dX10_isPhaseDone_95 : decode cX10_isPhaseDone 95 = .ok (.invokevirtual 181, 3) := by decide +kernel
theorem dX10_isPhaseDone_98 : decode cX10_isPhaseDone 98 = .ok (.ifCond .eq 5, 3) := by decide +kernel
theorem dX10_isPhaseDone_101 : decode cX10_isPhaseDone 101 = .ok (.iconst 0, 1) := by decide +kernel
theorem dX10_isPhaseDone_102 : decode cX10_isPhaseDone 102 = .ok (.ireturn, 1) := by decide +kernel
theorem dX10_isPhaseDone_103 : decode cX10_isPhaseDone 103 = .ok (.aload_n 0, 1) := by decide +kernel
theorem dX10_isPhaseDone_104 : decode cX10_isPhaseDone 104 = .ok (.getfield 62, 3) := by decide +kernel
theorem dX10_isPhaseDone_107 : decode cX10_isPhaseDone 107 = .ok (.getfield 382, 3) := by decide +kernel
theorem dX10_isPhaseDone_110 : decode cX10_isPhaseDone 110 = .ok (.iload_n 1, 1) := by decide +kernel
theorem dX10_isPhaseDone_111 : decode cX10_isPhaseDone 111 = .ok (.invokevirtual 109, 3) := by decide +kernel
theorem dX10_isPhaseDone_114 : decode cX10_isPhaseDone 114 = .ok (.istore 5, 2) := by decide +kernel
theorem dX10_isPhaseDone_116 : decode cX10_isPhaseDone 116 = .ok (.aload_n 0, 1) := by decide +kernel
theorem dX10_isPhaseDone_117 : decode cX10_isPhaseDone 117 = .ok (.getfield 62, 3) := by decide +kernel
theorem dX10_isPhaseDone_120 : decode cX10_isPhaseDone 120 = .ok (.getfield 384, 3) := by decide +kernel
theorem dX10_isPhaseDone_123 : decode cX10_isPhaseDone 123 = .ok (.iload_n 1, 1) := by decide +kernel
theorem dX10_isPhaseDone_124 : decode cX10_isPhaseDone 124 = .ok (.invokevirtual 109, 3) := by decide +kernel
theorem dX10_isPhaseDone_127 : decode cX10_isPhaseDone 127 = .ok (.istore 6, 2) := by decide +kernel
theorem dX10_isPhaseDone_129 : decode cX10_isPhaseDone 129 = .ok (.iload 5, 2) := by decide +kernel
theorem dX10_isPhaseDone_131 : decode cX10_isPhaseDone 131 = .ok (.ifCond .ne 8, 3) := by decide +kernel
theorem dX10_isPhaseDone_134 : decode cX10_isPhaseDone 134 = .ok (.iload 6, 2) := by decide +kernel
theorem dX10_isPhaseDone_136 : decode cX10_isPhaseDone 136 = .ok (.ifCond .eq 21, 3) := by decide +kernel
theorem dX10_isPhaseDone_139 : decode cX10_isPhaseDone 139 = .ok (.aload_n 0, 1) := by decide +kernel
theorem dX10_isPhaseDone_140 : decode cX10_isPhaseDone 140 = .ok (.iload 5, 2) := by decide +kernel
theorem dX10_isPhaseDone_142 : decode cX10_isPhaseDone 142 = .ok (.iload 6, 2) := by decide +kernel
theorem dX10_isPhaseDone_144 : decode cX10_isPhaseDone 144 = .ok (.invokevirtual 200, 3) := by decide +kernel
theorem dX10_isPhaseDone_147 : decode cX10_isPhaseDone 147 = .ok (.ifCond .eq 14, 3) := by decide +kernel
theorem dX10_isPhaseDone_150 : decode cX10_isPhaseDone 150 = .ok (.aload_n 0, 1) := by decide +kernel
theorem dX10_isPhaseDone_151 : decode cX10_isPhaseDone 151 = .ok (.invokevirtual 181, 3) := by decide +kernel
theorem dX10_isPhaseDone_154 : decode cX10_isPhaseDone 154 = .ok (.ifCond .ne 7, 3) := by decide +kernel
theorem dX10_isPhaseDone_157 : decode cX10_isPhaseDone 157 = .ok (.iconst 1, 1) := by decide +kernel
theorem dX10_isPhaseDone_158 : decode cX10_isPhaseDone 158 = .ok (.goto 4, 3) := by decide +kernel
theorem dX10_isPhaseDone_161 : decode cX10_isPhaseDone 161 = .ok (.iconst 0, 1) := by decide +kernel
theorem dX10_isPhaseDone_162 : decode cX10_isPhaseDone 162 = .ok (.ireturn, 1) := by decide +kernel
theorem dX10_mayLift_0 : decode cX10_mayLift 0 = .ok (.aload_n 0, 1) := by decide +kernel
theorem dX10_mayLift_1 : decode cX10_mayLift 1 = .ok (.getfield 73, 3) := by decide +kernel
theorem dX10_mayLift_4 : decode cX10_mayLift 4 = .ok (.ifCond .eq 41, 3) := by decide +kernel
theorem dX10_mayLift_7 : decode cX10_mayLift 7 = .ok (.aload_n 0, 1) := by decide +kernel
theorem dX10_mayLift_8 : decode cX10_mayLift 8 = .ok (.getfield 77, 3) := by decide +kernel
theorem dX10_mayLift_11 : decode cX10_mayLift 11 = .ok (.iconst 1, 1) := by decide +kernel
theorem dX10_mayLift_12 : decode cX10_mayLift 12 = .ok (.if_icmp .lt 33, 3) := by decide +kernel
theorem dX10_mayLift_15 : decode cX10_mayLift 15 = .ok (.aload_n 0, 1) := by decide +kernel
theorem dX10_mayLift_16 : decode cX10_mayLift 16 = .ok (.getfield 31, 3) := by decide +kernel
theorem dX10_mayLift_19 : decode cX10_mayLift 19 = .ok (.getfield 235, 3) := by decide +kernel
theorem dX10_mayLift_22 : decode cX10_mayLift 22 = .ok (.iload_n 1, 1) := by decide +kernel
theorem dX10_mayLift_23 : decode cX10_mayLift 23 = .ok (.invokevirtual 109, 3) := by decide +kernel
theorem dX10_mayLift_26 : decode cX10_mayLift 26 = .ok (.iconst (-1), 1) := by decide +kernel
theorem dX10_mayLift_27 : decode cX10_mayLift 27 = .ok (.if_icmp .eq 18, 3) := by decide +kernel
theorem dX10_mayLift_30 : decode cX10_mayLift 30 = .ok (.aload_n 0, 1) := by decide +kernel
theorem dX10_mayLift_31 : decode cX10_mayLift 31 = .ok (.getfield 31, 3) := by decide +kernel
theorem dX10_mayLift_34 : decode cX10_mayLift 34 = .ok (.iload_n 1, 1) := by decide +kernel
theorem dX10_mayLift_35 : decode cX10_mayLift 35 = .ok (.invokevirtual 244, 3) := by decide +kernel
theorem dX10_mayLift_38 : decode cX10_mayLift 38 = .ok (.ifCond .eq 7, 3) := by decide +kernel
theorem dX10_mayLift_41 : decode cX10_mayLift 41 = .ok (.iconst 1, 1) := by decide +kernel
theorem dX10_mayLift_42 : decode cX10_mayLift 42 = .ok (.goto 4, 3) := by decide +kernel
theorem dX10_mayLift_45 : decode cX10_mayLift 45 = .ok (.iconst 0, 1) := by decide +kernel
theorem dX10_mayLift_46 : decode cX10_mayLift 46 = .ok (.ireturn, 1) := by decide +kernel
theorem dX10_hipsBear_0 : decode cX10_hipsBear 0 = .ok (.bipush 9, 2) := by decide +kernel
theorem dX10_hipsBear_2 : decode cX10_hipsBear 2 = .ok (.istore_n 1, 1) := by decide +kernel
theorem dX10_hipsBear_3 : decode cX10_hipsBear 3 = .ok (.iconst 0, 1) := by decide +kernel
theorem dX10_hipsBear_4 : decode cX10_hipsBear 4 = .ok (.istore_n 2, 1) := by decide +kernel
theorem dX10_hipsBear_5 : decode cX10_hipsBear 5 = .ok (.aload_n 0, 1) := by decide +kernel
theorem dX10_hipsBear_6 : decode cX10_hipsBear 6 = .ok (.getfield 35, 3) := by decide +kernel
theorem dX10_hipsBear_9 : decode cX10_hipsBear 9 = .ok (.aload_n 0, 1) := by decide +kernel
theorem dX10_hipsBear_10 : decode cX10_hipsBear 10 = .ok (.getfield 31, 3) := by decide +kernel
theorem dX10_hipsBear_13 : decode cX10_hipsBear 13 = .ok (.invokevirtual 294, 3) := by decide +kernel
theorem dX10_hipsBear_16 : decode cX10_hipsBear 16 = .ok (.iconst 0, 1) := by decide +kernel
theorem dX10_hipsBear_17 : decode cX10_hipsBear 17 = .ok (.istore_n 3, 1) := by decide +kernel
theorem dX10_hipsBear_18 : decode cX10_hipsBear 18 = .ok (.iload_n 3, 1) := by decide +kernel
theorem dX10_hipsBear_19 : decode cX10_hipsBear 19 = .ok (.aload_n 0, 1) := by decide +kernel
theorem dX10_hipsBear_20 : decode cX10_hipsBear 20 = .ok (.getfield 22, 3) := by decide +kernel
theorem dX10_hipsBear_23 : decode cX10_hipsBear 23 = .ok (.getfield 136, 3) := by decide +kernel
theorem dX10_hipsBear_26 : decode cX10_hipsBear 26 = .ok (.if_icmp .ge 98, 3) := by decide +kernel
theorem dX10_hipsBear_29 : decode cX10_hipsBear 29 = .ok (.aload_n 0, 1) := by decide +kernel
theorem dX10_hipsBear_30 : decode cX10_hipsBear 30 = .ok (.getfield 31, 3) := by decide +kernel
theorem dX10_hipsBear_33 : decode cX10_hipsBear 33 = .ok (.iload_n 3, 1) := by decide +kernel
theorem dX10_hipsBear_34 : decode cX10_hipsBear 34 = .ok (.invokevirtual 349, 3) := by decide +kernel
theorem dX10_hipsBear_37 : decode cX10_hipsBear 37 = .ok (.aload_n 0, 1) := by decide +kernel
theorem dX10_hipsBear_38 : decode cX10_hipsBear 38 = .ok (.getfield 31, 3) := by decide +kernel
theorem dX10_hipsBear_41 : decode cX10_hipsBear 41 = .ok (.iload_n 3, 1) := by decide +kernel
theorem dX10_hipsBear_42 : decode cX10_hipsBear 42 = .ok (.invokevirtual 352, 3) := by decide +kernel
theorem dX10_hipsBear_45 : decode cX10_hipsBear 45 = .ok (.invokestatic 81, 3) := by decide +kernel
theorem dX10_hipsBear_48 : decode cX10_hipsBear 48 = .ok (.istore 4, 2) := by decide +kernel
theorem dX10_hipsBear_50 : decode cX10_hipsBear 50 = .ok (.iload 4, 2) := by decide +kernel
theorem dX10_hipsBear_52 : decode cX10_hipsBear 52 = .ok (.iconst (-1), 1) := by decide +kernel
theorem dX10_hipsBear_53 : decode cX10_hipsBear 53 = .ok (.if_icmp .eq 16, 3) := by decide +kernel
theorem dX10_hipsBear_56 : decode cX10_hipsBear 56 = .ok (.aload_n 0, 1) := by decide +kernel
theorem dX10_hipsBear_57 : decode cX10_hipsBear 57 = .ok (.getfield 35, 3) := by decide +kernel
theorem dX10_hipsBear_60 : decode cX10_hipsBear 60 = .ok (.iload 4, 2) := by decide +kernel
theorem dX10_hipsBear_62 : decode cX10_hipsBear 62 = .ok (.iconst (-1), 1) := by decide +kernel
theorem dX10_hipsBear_63 : decode cX10_hipsBear 63 = .ok (.invokevirtual 96, 3) := by decide +kernel
theorem dX10_hipsBear_66 : decode cX10_hipsBear 66 = .ok (.ifCond .eq 5, 3) := by decide +kernel
theorem dX10_hipsBear_69 : decode cX10_hipsBear 69 = .ok (.iconst 0, 1) := by decide +kernel
theorem dX10_hipsBear_70 : decode cX10_hipsBear 70 = .ok (.ireturn, 1) := by decide +kernel
theorem dX10_hipsBear_71 : decode cX10_hipsBear 71 = .ok (.aload_n 0, 1) := by decide +kernel
theorem dX10_hipsBear_72 : decode cX10_hipsBear 72 = .ok (.getfield 35, 3) := by decide +kernel
theorem dX10_hipsBear_75 : decode cX10_hipsBear 75 = .ok (.getfield 235, 3) := by decide +kernel
theorem dX10_hipsBear_78 : decode cX10_hipsBear 78 = .ok (.iload_n 3, 1) := by decide +kernel
theorem dX10_hipsBear_79 : decode cX10_hipsBear 79 = .ok (.iload 4, 2) := by decide +kernel
theorem dX10_hipsBear_81 : decode cX10_hipsBear 81 = .ok (.invokevirtual 115, 3) := by decide +kernel
theorem dX10_hipsBear_84 : decode cX10_hipsBear 84 = .ok (.iload_n 1, 1) := by decide +kernel
theorem dX10_hipsBear_85 : decode cX10_hipsBear 85 = .ok (.aload_n 0, 1) := by decide +kernel
theorem dX10_hipsBear_86 : decode cX10_hipsBear 86 = .ok (.getfield 15, 3) := by decide +kernel
theorem dX10_hipsBear_89 : decode cX10_hipsBear 89 = .ok (.getfield 127, 3) := by decide +kernel
theorem dX10_hipsBear_92 : decode cX10_hipsBear 92 = .ok (.iload 4, 2) := by decide +kernel
theorem dX10_hipsBear_94 : decode cX10_hipsBear 94 = .ok (.invokevirtual 109, 3) := by decide +kernel
theorem dX10_hipsBear_97 : decode cX10_hipsBear 97 = .ok (.invokestatic 147, 3) := by decide +kernel
theorem dX10_hipsBear_100 : decode cX10_hipsBear 100 = .ok (.istore_n 1, 1) := by decide +kernel
theorem dX10_hipsBear_101 : decode cX10_hipsBear 101 = .ok (.iload_n 2, 1) := by decide +kernel
theorem dX10_hipsBear_102 : decode cX10_hipsBear 102 = .ok (.aload_n 0, 1) := by decide +kernel
theorem dX10_hipsBear_103 : decode cX10_hipsBear 103 = .ok (.getfield 15, 3) := by decide +kernel
theorem dX10_hipsBear_106 : decode cX10_hipsBear 106 = .ok (.getfield 127, 3) := by decide +kernel
theorem dX10_hipsBear_109 : decode cX10_hipsBear 109 = .ok (.iload 4, 2) := by decide +kernel
theorem dX10_hipsBear_111 : decode cX10_hipsBear 111 = .ok (.invokevirtual 109, 3) := by decide +kernel
theorem dX10_hipsBear_114 : decode cX10_hipsBear 114 = .ok (.invokestatic 386, 3) := by decide +kernel
theorem dX10_hipsBear_117 : decode cX10_hipsBear 117 = .ok (.istore_n 2, 1) := by decide +kernel
theorem dX10_hipsBear_118 : decode cX10_hipsBear 118 = .ok (.iinc 3 1, 3) := by decide +kernel
theorem dX10_hipsBear_121 : decode cX10_hipsBear 121 = .ok (.goto (-103), 3) := by decide +kernel
theorem dX10_hipsBear_124 : decode cX10_hipsBear 124 = .ok (.iload_n 2, 1) := by decide +kernel
theorem dX10_hipsBear_125 : decode cX10_hipsBear 125 = .ok (.iload_n 1, 1) := by decide +kernel
theorem dX10_hipsBear_126 : decode cX10_hipsBear 126 = .ok (.isub, 1) := by decide +kernel
theorem dX10_hipsBear_127 : decode cX10_hipsBear 127 = .ok (.iconst 2, 1) := by decide +kernel
theorem dX10_hipsBear_128 : decode cX10_hipsBear 128 = .ok (.if_icmp .gt 18, 3) := by decide +kernel
theorem dX10_hipsBear_131 : decode cX10_hipsBear 131 = .ok (.aload_n 0, 1) := by decide +kernel
theorem dX10_hipsBear_132 : decode cX10_hipsBear 132 = .ok (.getfield 35, 3) := by decide +kernel
theorem dX10_hipsBear_135 : decode cX10_hipsBear 135 = .ok (.iconst (-1), 1) := by decide +kernel
theorem dX10_hipsBear_136 : decode cX10_hipsBear 136 = .ok (.invokevirtual 244, 3) := by decide +kernel
theorem dX10_hipsBear_139 : decode cX10_hipsBear 139 = .ok (.ifCond .eq 7, 3) := by decide +kernel
theorem dX10_hipsBear_142 : decode cX10_hipsBear 142 = .ok (.iconst 1, 1) := by decide +kernel
theorem dX10_hipsBear_143 : decode cX10_hipsBear 143 = .ok (.goto 4, 3) := by decide +kernel
theorem dX10_hipsBear_146 : decode cX10_hipsBear 146 = .ok (.iconst 0, 1) := by decide +kernel
theorem dX10_hipsBear_147 : decode cX10_hipsBear 147 = .ok (.ireturn, 1) := by decide +kernel
theorem dX10_setFoot_0 : decode cX10_setFoot 0 = .ok (.aload_n 0, 1) := by decide +kernel
theorem dX10_setFoot_1 : decode cX10_setFoot 1 = .ok (.getfield 15, 3) := by decide +kernel
theorem dX10_setFoot_4 : decode cX10_setFoot 4 = .ok (.getfield 105, 3) := by decide +kernel
theorem dX10_setFoot_7 : decode cX10_setFoot 7 = .ok (.iload_n 2, 1) := by decide +kernel
theorem dX10_setFoot_8 : decode cX10_setFoot 8 = .ok (.invokevirtual 109, 3) := by decide +kernel
theorem dX10_setFoot_11 : decode cX10_setFoot 11 = .ok (.aload_n 0, 1) := by decide +kernel
theorem dX10_setFoot_12 : decode cX10_setFoot 12 = .ok (.getfield 15, 3) := by decide +kernel
theorem dX10_setFoot_15 : decode cX10_setFoot 15 = .ok (.getfield 127, 3) := by decide +kernel
theorem dX10_setFoot_18 : decode cX10_setFoot 18 = .ok (.iload_n 2, 1) := by decide +kernel
theorem dX10_setFoot_19 : decode cX10_setFoot 19 = .ok (.invokevirtual 109, 3) := by decide +kernel
theorem dX10_setFoot_22 : decode cX10_setFoot 22 = .ok (.isub, 1) := by decide +kernel
theorem dX10_setFoot_23 : decode cX10_setFoot 23 = .ok (.invokestatic 361, 3) := by decide +kernel
theorem dX10_setFoot_26 : decode cX10_setFoot 26 = .ok (.iconst 2, 1) := by decide +kernel
theorem dX10_setFoot_27 : decode cX10_setFoot 27 = .ok (.if_icmp .lt 7, 3) := by decide +kernel
theorem dX10_setFoot_30 : decode cX10_setFoot 30 = .ok (.iconst 1, 1) := by decide +kernel
theorem dX10_setFoot_31 : decode cX10_setFoot 31 = .ok (.goto 4, 3) := by decide +kernel
theorem dX10_setFoot_34 : decode cX10_setFoot 34 = .ok (.iconst 0, 1) := by decide +kernel
theorem dX10_setFoot_35 : decode cX10_setFoot 35 = .ok (.istore_n 3, 1) := by decide +kernel
theorem dX10_setFoot_36 : decode cX10_setFoot 36 = .ok (.aload_n 0, 1) := by decide +kernel
theorem dX10_setFoot_37 : decode cX10_setFoot 37 = .ok (.getfield 15, 3) := by decide +kernel
theorem dX10_setFoot_40 : decode cX10_setFoot 40 = .ok (.iload_n 2, 1) := by decide +kernel
theorem dX10_setFoot_41 : decode cX10_setFoot 41 = .ok (.invokevirtual 389, 3) := by decide +kernel
theorem dX10_setFoot_44 : decode cX10_setFoot 44 = .ok (.iload_n 3, 1) := by decide +kernel
theorem dX10_setFoot_45 : decode cX10_setFoot 45 = .ok (.ifCond .eq 13, 3) := by decide +kernel
theorem dX10_setFoot_48 : decode cX10_setFoot 48 = .ok (.aload_n 0, 1) := by decide +kernel
theorem dX10_setFoot_49 : decode cX10_setFoot 49 = .ok (.getfield 48, 3) := by decide +kernel
theorem dX10_setFoot_52 : decode cX10_setFoot 52 = .ok (.iconst 1, 1) := by decide +kernel
theorem dX10_setFoot_53 : decode cX10_setFoot 53 = .ok (.iload_n 2, 1) := by decide +kernel
theorem dX10_setFoot_54 : decode cX10_setFoot 54 = .ok (.invokevirtual 393, 3) := by decide +kernel
theorem dX10_setFoot_57 : decode cX10_setFoot 57 = .ok (.return_, 1) := by decide +kernel
theorem dX10_setFoot_58 : decode cX10_setFoot 58 = .ok (.aload_n 0, 1) := by decide +kernel
theorem dX10_setFoot_59 : decode cX10_setFoot 59 = .ok (.getfield 15, 3) := by decide +kernel
theorem dX10_setFoot_62 : decode cX10_setFoot 62 = .ok (.iload_n 2, 1) := by decide +kernel
theorem dX10_setFoot_63 : decode cX10_setFoot 63 = .ok (.invokevirtual 396, 3) := by decide +kernel
theorem dX10_setFoot_66 : decode cX10_setFoot 66 = .ok (.istore 4, 2) := by decide +kernel
theorem dX10_setFoot_68 : decode cX10_setFoot 68 = .ok (.iload 4, 2) := by decide +kernel
theorem dX10_setFoot_70 : decode cX10_setFoot 70 = .ok (.iconst (-1), 1) := by decide +kernel
theorem dX10_setFoot_71 : decode cX10_setFoot 71 = .ok (.if_icmp .ne 16, 3) := by decide +kernel
theorem dX10_setFoot_74 : decode cX10_setFoot 74 = .ok (.aload_n 0, 1) := by decide +kernel
theorem dX10_setFoot_75 : decode cX10_setFoot 75 = .ok (.getfield 31, 3) := by decide +kernel
theorem dX10_setFoot_78 : decode cX10_setFoot 78 = .ok (.getfield 235, 3) := by decide +kernel
theorem dX10_setFoot_81 : decode cX10_setFoot 81 = .ok (.iload_n 1, 1) := by decide +kernel
theorem dX10_setFoot_82 : decode cX10_setFoot 82 = .ok (.iload_n 2, 1) := by decide +kernel
theorem dX10_setFoot_83 : decode cX10_setFoot 83 = .ok (.invokevirtual 115, 3) := by decide +kernel
theorem dX10_setFoot_86 : decode cX10_setFoot 86 = .ok (.return_, 1) := by decide +kernel
theorem dX10_setFoot_87 : decode cX10_setFoot 87 = .ok (.aload_n 0, 1) := by decide +kernel
theorem dX10_setFoot_88 : decode cX10_setFoot 88 = .ok (.getfield 15, 3) := by decide +kernel
theorem dX10_setFoot_91 : decode cX10_setFoot 91 = .ok (.iload 4, 2) := by decide +kernel
theorem dX10_setFoot_93 : decode cX10_setFoot 93 = .ok (.invokevirtual 389, 3) := by decide +kernel
theorem dX10_setFoot_96 : decode cX10_setFoot 96 = .ok (.aload_n 0, 1) := by decide +kernel
theorem dX10_setFoot_97 : decode cX10_setFoot 97 = .ok (.getfield 48, 3) := by decide +kernel
theorem dX10_setFoot_100 : decode cX10_setFoot 100 = .ok (.iconst 3, 1) := by decide +kernel
theorem dX10_setFoot_101 : decode cX10_setFoot 101 = .ok (.iload_n 2, 1) := by decide +kernel
theorem dX10_setFoot_102 : decode cX10_setFoot 102 = .ok (.invokevirtual 393, 3) := by decide +kernel
theorem dX10_setFoot_105 : decode cX10_setFoot 105 = .ok (.aload_n 0, 1) := by decide +kernel
theorem dX10_setFoot_106 : decode cX10_setFoot 106 = .ok (.getfield 31, 3) := by decide +kernel
theorem dX10_setFoot_109 : decode cX10_setFoot 109 = .ok (.iload_n 1, 1) := by decide +kernel
theorem dX10_setFoot_110 : decode cX10_setFoot 110 = .ok (.iload 4, 2) := by decide +kernel
theorem dX10_setFoot_112 : decode cX10_setFoot 112 = .ok (.invokevirtual 364, 3) := by decide +kernel
theorem dX10_setFoot_115 : decode cX10_setFoot 115 = .ok (.ifCond .eq 29, 3) := by decide +kernel
theorem dX10_setFoot_118 : decode cX10_setFoot 118 = .ok (.aload_n 0, 1) := by decide +kernel
theorem dX10_setFoot_119 : decode cX10_setFoot 119 = .ok (.getfield 31, 3) := by decide +kernel
theorem dX10_setFoot_122 : decode cX10_setFoot 122 = .ok (.iload 4, 2) := by decide +kernel
theorem dX10_setFoot_124 : decode cX10_setFoot 124 = .ok (.iload_n 1, 1) := by decide +kernel
theorem dX10_setFoot_125 : decode cX10_setFoot 125 = .ok (.invokevirtual 96, 3) := by decide +kernel
theorem dX10_setFoot_128 : decode cX10_setFoot 128 = .ok (.ifCond .ne 16, 3) := by decide +kernel
theorem dX10_setFoot_131 : decode cX10_setFoot 131 = .ok (.aload_n 0, 1) := by decide +kernel
theorem dX10_setFoot_132 : decode cX10_setFoot 132 = .ok (.getfield 31, 3) := by decide +kernel
theorem dX10_setFoot_135 : decode cX10_setFoot 135 = .ok (.getfield 235, 3) := by decide +kernel
theorem dX10_setFoot_138 : decode cX10_setFoot 138 = .ok (.iload_n 1, 1) := by decide +kernel
theorem dX10_setFoot_139 : decode cX10_setFoot 139 = .ok (.iload 4, 2) := by decide +kernel
theorem dX10_setFoot_141 : decode cX10_setFoot 141 = .ok (.invokevirtual 115, 3) := by decide +kernel
theorem dX10_setFoot_144 : decode cX10_setFoot 144 = .ok (.return_, 1) := by decide +kernel
theorem dX10_settled_0 : decode cX10_settled 0 = .ok (.aload_n 0, 1) := by decide +kernel
theorem dX10_settled_1 : decode cX10_settled 1 = .ok (.getfield 73, 3) := by decide +kernel
theorem dX10_settled_4 : decode cX10_settled 4 = .ok (.ifCond .eq 65, 3) := by decide +kernel
theorem dX10_settled_7 : decode cX10_settled 7 = .ok (.aload_n 0, 1) := by decide +kernel
theorem dX10_settled_8 : decode cX10_settled 8 = .ok (.getfield 31, 3) := by decide +kernel
theorem dX10_settled_11 : decode cX10_settled 11 = .ok (.invokevirtual 399, 3) := by decide +kernel
theorem dX10_settled_14 : decode cX10_settled 14 = .ok (.istore_n 1, 1) := by decide +kernel
theorem dX10_settled_15 : decode cX10_settled 15 = .ok (.iconst 0, 1) := by decide +kernel
theorem dX10_settled_16 : decode cX10_settled 16 = .ok (.istore_n 2, 1) := by decide +kernel
theorem dX10_settled_17 : decode cX10_settled 17 = .ok (.iload_n 1, 1) := by decide +kernel
theorem dX10_settled_18 : decode cX10_settled 18 = .ok (.ifCond .eq 36, 3) := by decide +kernel
theorem dX10_settled_21 : decode cX10_settled 21 = .ok (.iload_n 2, 1) := by decide +kernel
theorem dX10_settled_22 : decode cX10_settled 22 = .ok (.bipush 6, 2) := by decide +kernel
theorem dX10_settled_24 : decode cX10_settled 24 = .ok (.if_icmp .ge 30, 3) := by decide +kernel
theorem dX10_settled_27 : decode cX10_settled 27 = .ok (.aload_n 0, 1) := by decide +kernel
theorem dX10_settled_28 : decode cX10_settled 28 = .ok (.iload_n 1, 1) := by decide +kernel
theorem dX10_settled_29 : decode cX10_settled 29 = .ok (.invokevirtual 402, 3) := by decide +kernel
theorem dX10_settled_32 : decode cX10_settled 32 = .ok (.aload_n 0, 1) := by decide +kernel
theorem dX10_settled_33 : decode cX10_settled 33 = .ok (.getfield 31, 3) := by decide +kernel
theorem dX10_settled_36 : decode cX10_settled 36 = .ok (.iload_n 1, 1) := by decide +kernel
theorem dX10_settled_37 : decode cX10_settled 37 = .ok (.invokevirtual 405, 3) := by decide +kernel
theorem dX10_settled_40 : decode cX10_settled 40 = .ok (.aload_n 0, 1) := by decide +kernel
theorem dX10_settled_41 : decode cX10_settled 41 = .ok (.getfield 31, 3) := by decide +kernel
theorem dX10_settled_44 : decode cX10_settled 44 = .ok (.invokevirtual 399, 3) := by decide +kernel
theorem dX10_settled_47 : decode cX10_settled 47 = .ok (.istore_n 1, 1) := by decide +kernel
theorem dX10_settled_48 : decode cX10_settled 48 = .ok (.iinc 2 1, 3) := by decide +kernel
theorem dX10_settled_51 : decode cX10_settled 51 = .ok (.goto (-34), 3) := by decide +kernel
theorem dX10_settled_54 : decode cX10_settled 54 = .ok (.aload_n 0, 1) := by decide +kernel
theorem dX10_settled_55 : decode cX10_settled 55 = .ok (.getfield 31, 3) := by decide +kernel
theorem dX10_settled_58 : decode cX10_settled 58 = .ok (.iconst (-1), 1) := by decide +kernel
theorem dX10_settled_59 : decode cX10_settled 59 = .ok (.invokevirtual 244, 3) := by decide +kernel
theorem dX10_settled_62 : decode cX10_settled 62 = .ok (.ifCond .ne 7, 3) := by decide +kernel
theorem dX10_settled_65 : decode cX10_settled 65 = .ok (.aload_n 0, 1) := by decide +kernel
theorem dX10_settled_66 : decode cX10_settled 66 = .ok (.invokevirtual 408, 3) := by decide +kernel
theorem dX10_settled_69 : decode cX10_settled 69 = .ok (.aload_n 0, 1) := by decide +kernel
theorem dX10_settled_70 : decode cX10_settled 70 = .ok (.getfield 48, 3) := by decide +kernel
theorem dX10_settled_73 : decode cX10_settled 73 = .ok (.getfield 411, 3) := by decide +kernel
theorem dX10_settled_76 : decode cX10_settled 76 = .ok (.ireturn, 1) := by decide +kernel
theorem dX10_breakGround_0 : decode cX10_breakGround 0 = .ok (.iconst 0, 1) := by decide +kernel
theorem dX10_breakGround_1 : decode cX10_breakGround 1 = .ok (.istore_n 2, 1) := by decide +kernel
theorem dX10_breakGround_2 : decode cX10_breakGround 2 = .ok (.iload_n 2, 1) := by decide +kernel
theorem dX10_breakGround_3 : decode cX10_breakGround 3 = .ok (.bipush 6, 2) := by decide +kernel
theorem dX10_breakGround_5 : decode cX10_breakGround 5 = .ok (.if_icmp .ge 46, 3) := by decide +kernel
theorem dX10_breakGround_8 : decode cX10_breakGround 8 = .ok (.iload_n 1, 1) := by decide +kernel
theorem dX10_breakGround_9 : decode cX10_breakGround 9 = .ok (.iload_n 2, 1) := by decide +kernel
theorem dX10_breakGround_10 : decode cX10_breakGround 10 = .ok (.ishr, 1) := by decide +kernel
theorem dX10_breakGround_11 : decode cX10_breakGround 11 = .ok (.iconst 1, 1) := by decide +kernel
theorem dX10_breakGround_12 : decode cX10_breakGround 12 = .ok (.iand, 1) := by decide +kernel
theorem dX10_breakGround_13 : decode cX10_breakGround 13 = .ok (.ifCond .eq 32, 3) := by decide +kernel
theorem dX10_breakGround_16 : decode cX10_breakGround 16 = .ok (.aload_n 0, 1) := by decide +kernel
theorem dX10_breakGround_17 : decode cX10_breakGround 17 = .ok (.getfield 31, 3) := by decide +kernel
theorem dX10_breakGround_20 : decode cX10_breakGround 20 = .ok (.getfield 235, 3) := by decide +kernel
theorem dX10_breakGround_23 : decode cX10_breakGround 23 = .ok (.iload_n 2, 1) := by decide +kernel
theorem dX10_breakGround_24 : decode cX10_breakGround 24 = .ok (.invokevirtual 109, 3) := by decide +kernel
theorem dX10_breakGround_27 : decode cX10_breakGround 27 = .ok (.istore_n 3, 1) := by decide +kernel
theorem dX10_breakGround_28 : decode cX10_breakGround 28 = .ok (.aload_n 0, 1) := by decide +kernel
theorem dX10_breakGround_29 : decode cX10_breakGround 29 = .ok (.getfield 15, 3) := by decide +kernel
theorem dX10_breakGround_32 : decode cX10_breakGround 32 = .ok (.iload_n 3, 1) := by decide +kernel
theorem dX10_breakGround_33 : decode cX10_breakGround 33 = .ok (.invokevirtual 414, 3) := by decide +kernel
theorem dX10_breakGround_36 : decode cX10_breakGround 36 = .ok (.aload_n 0, 1) := by decide +kernel
theorem dX10_breakGround_37 : decode cX10_breakGround 37 = .ok (.getfield 48, 3) := by decide +kernel
theorem dX10_breakGround_40 : decode cX10_breakGround 40 = .ok (.iconst 2, 1) := by decide +kernel
theorem dX10_breakGround_41 : decode cX10_breakGround 41 = .ok (.iload_n 3, 1) := by decide +kernel
theorem dX10_breakGround_42 : decode cX10_breakGround 42 = .ok (.invokevirtual 393, 3) := by decide +kernel
theorem dX10_breakGround_45 : decode cX10_breakGround 45 = .ok (.iinc 2 1, 3) := by decide +kernel
theorem dX10_breakGround_48 : decode cX10_breakGround 48 = .ok (.goto (-46), 3) := by decide +kernel
theorem dX10_breakGround_51 : decode cX10_breakGround 51 = .ok (.return_, 1) := by decide +kernel
theorem dX10_toppleOver_0 : decode cX10_toppleOver 0 = .ok (.aload_n 0, 1) := by decide +kernel
theorem dX10_toppleOver_1 : decode cX10_toppleOver 1 = .ok (.getfield 55, 3) := by decide +kernel
theorem dX10_toppleOver_4 : decode cX10_toppleOver 4 = .ok (.aload_n 0, 1) := by decide +kernel
theorem dX10_toppleOver_5 : decode cX10_toppleOver 5 = .ok (.getfield 31, 3) := by decide +kernel
theorem dX10_toppleOver_8 : decode cX10_toppleOver 8 = .ok (.invokevirtual 417, 3) := by decide +kernel
theorem dX10_toppleOver_11 : decode cX10_toppleOver 11 = .ok (.aload_n 0, 1) := by decide +kernel
theorem dX10_toppleOver_12 : decode cX10_toppleOver 12 = .ok (.getfield 48, 3) := by decide +kernel
theorem dX10_toppleOver_15 : decode cX10_toppleOver 15 = .ok (.getfield 419, 3) := by decide +kernel
theorem dX10_toppleOver_18 : decode cX10_toppleOver 18 = .ok (.aload_n 0, 1) := by decide +kernel
theorem dX10_toppleOver_19 : decode cX10_toppleOver 19 = .ok (.getfield 48, 3) := by decide +kernel
theorem dX10_toppleOver_22 : decode cX10_toppleOver 22 = .ok (.getfield 422, 3) := by decide +kernel
theorem dX10_toppleOver_25 : decode cX10_toppleOver 25 = .ok (.invokevirtual 425, 3) := by decide +kernel
theorem dX10_toppleOver_28 : decode cX10_toppleOver 28 = .ok (.aload_n 0, 1) := by decide +kernel
theorem dX10_toppleOver_29 : decode cX10_toppleOver 29 = .ok (.iconst 0, 1) := by decide +kernel
theorem dX10_toppleOver_30 : decode cX10_toppleOver 30 = .ok (.putfield 73, 3) := by decide +kernel
theorem dX10_toppleOver_33 : decode cX10_toppleOver 33 = .ok (.aload_n 0, 1) := by decide +kernel
theorem dX10_toppleOver_34 : decode cX10_toppleOver 34 = .ok (.getfield 31, 3) := by decide +kernel
theorem dX10_toppleOver_37 : decode cX10_toppleOver 37 = .ok (.getfield 235, 3) := by decide +kernel
theorem dX10_toppleOver_40 : decode cX10_toppleOver 40 = .ok (.iconst (-1), 1) := by decide +kernel
theorem dX10_toppleOver_41 : decode cX10_toppleOver 41 = .ok (.invokevirtual 428, 3) := by decide +kernel
theorem dX10_toppleOver_44 : decode cX10_toppleOver 44 = .ok (.return_, 1) := by decide +kernel
theorem dX10_isLeg_0 : decode cX10_isLeg 0 = .ok (.iload_n 1, 1) := by decide +kernel
theorem dX10_isLeg_1 : decode cX10_isLeg 1 = .ok (.ifCond .lt 18, 3) := by decide +kernel
theorem dX10_isLeg_4 : decode cX10_isLeg 4 = .ok (.iload_n 1, 1) := by decide +kernel
theorem dX10_isLeg_5 : decode cX10_isLeg 5 = .ok (.aload_n 0, 1) := by decide +kernel
theorem dX10_isLeg_6 : decode cX10_isLeg 6 = .ok (.getfield 22, 3) := by decide +kernel
theorem dX10_isLeg_9 : decode cX10_isLeg 9 = .ok (.getfield 136, 3) := by decide +kernel
theorem dX10_isLeg_12 : decode cX10_isLeg 12 = .ok (.if_icmp .ge 7, 3) := by decide +kernel
theorem dX10_isLeg_15 : decode cX10_isLeg 15 = .ok (.iconst 1, 1) := by decide +kernel
theorem dX10_isLeg_16 : decode cX10_isLeg 16 = .ok (.goto 4, 3) := by decide +kernel
theorem dX10_isLeg_19 : decode cX10_isLeg 19 = .ok (.iconst 0, 1) := by decide +kernel
theorem dX10_isLeg_20 : decode cX10_isLeg 20 = .ok (.ireturn, 1) := by decide +kernel
theorem dX10_isWithin_0 : decode cX10_isWithin 0 = .ok (.iload_n 0, 1) := by decide +kernel
theorem dX10_isWithin_1 : decode cX10_isWithin 1 = .ok (.iload_n 1, 1) := by decide +kernel
theorem dX10_isWithin_2 : decode cX10_isWithin 2 = .ok (.if_icmp .lt 12, 3) := by decide +kernel
theorem dX10_isWithin_5 : decode cX10_isWithin 5 = .ok (.iload_n 0, 1) := by decide +kernel
theorem dX10_isWithin_6 : decode cX10_isWithin 6 = .ok (.iload_n 2, 1) := by decide +kernel
theorem dX10_isWithin_7 : decode cX10_isWithin 7 = .ok (.if_icmp .gt 7, 3) := by decide +kernel
theorem dX10_isWithin_10 : decode cX10_isWithin 10 = .ok (.iconst 1, 1) := by decide +kernel
theorem dX10_isWithin_11 : decode cX10_isWithin 11 = .ok (.goto 4, 3) := by decide +kernel
theorem dX10_isWithin_14 : decode cX10_isWithin 14 = .ok (.iconst 0, 1) := by decide +kernel
theorem dX10_isWithin_15 : decode cX10_isWithin 15 = .ok (.ireturn, 1) := by decide +kernel
theorem dX10_isAside_0 : decode cX10_isAside 0 = .ok (.iload_n 0, 1) := by decide +kernel
theorem dX10_isAside_1 : decode cX10_isAside 1 = .ok (.bipush (-5), 2) := by decide +kernel
theorem dX10_isAside_3 : decode cX10_isAside 3 = .ok (.iconst 5, 1) := by decide +kernel
theorem dX10_isAside_4 : decode cX10_isAside 4 = .ok (.invokestatic 85, 3) := by decide +kernel
theorem dX10_isAside_7 : decode cX10_isAside 7 = .ok (.ireturn, 1) := by decide +kernel
theorem dX10_pointAt_0 : decode cX10_pointAt 0 = .ok (.iload_n 0, 1) := by decide +kernel
theorem dX10_pointAt_1 : decode cX10_pointAt 1 = .ok (.ifCond .lt 28, 3) := by decide +kernel
theorem dX10_pointAt_4 : decode cX10_pointAt 4 = .ok (.iload_n 0, 1) := by decide +kernel
theorem dX10_pointAt_5 : decode cX10_pointAt 5 = .ok (.bipush 20, 2) := by decide +kernel
theorem dX10_pointAt_7 : decode cX10_pointAt 7 = .ok (.if_icmp .ge 22, 3) := by decide +kernel
theorem dX10_pointAt_10 : decode cX10_pointAt 10 = .ok (.iload_n 1, 1) := by decide +kernel
theorem dX10_pointAt_11 : decode cX10_pointAt 11 = .ok (.ifCond .lt 18, 3) := by decide +kernel
theorem dX10_pointAt_14 : decode cX10_pointAt 14 = .ok (.iload_n 1, 1) := by decide +kernel
theorem dX10_pointAt_15 : decode cX10_pointAt 15 = .ok (.bipush 20, 2) := by decide +kernel
theorem dX10_pointAt_17 : decode cX10_pointAt 17 = .ok (.if_icmp .ge 12, 3) := by decide +kernel
theorem dX10_pointAt_20 : decode cX10_pointAt 20 = .ok (.bipush 20, 2) := by decide +kernel
theorem dX10_pointAt_22 : decode cX10_pointAt 22 = .ok (.iload_n 1, 1) := by decide +kernel
theorem dX10_pointAt_23 : decode cX10_pointAt 23 = .ok (.imul, 1) := by decide +kernel
theorem dX10_pointAt_24 : decode cX10_pointAt 24 = .ok (.iload_n 0, 1) := by decide +kernel
theorem dX10_pointAt_25 : decode cX10_pointAt 25 = .ok (.iadd, 1) := by decide +kernel
theorem dX10_pointAt_26 : decode cX10_pointAt 26 = .ok (.goto 4, 3) := by decide +kernel
theorem dX10_pointAt_29 : decode cX10_pointAt 29 = .ok (.iconst (-1), 1) := by decide +kernel
theorem dX10_pointAt_30 : decode cX10_pointAt 30 = .ok (.ireturn, 1) := by decide +kernel
theorem dX10_xOf_0 : decode cX10_xOf 0 = .ok (.iload_n 0, 1) := by decide +kernel
theorem dX10_xOf_1 : decode cX10_xOf 1 = .ok (.bipush 20, 2) := by decide +kernel
theorem dX10_xOf_3 : decode cX10_xOf 3 = .ok (.irem, 1) := by decide +kernel
theorem dX10_xOf_4 : decode cX10_xOf 4 = .ok (.ireturn, 1) := by decide +kernel
theorem dX10_yOf_0 : decode cX10_yOf 0 = .ok (.iload_n 0, 1) := by decide +kernel
theorem dX10_yOf_1 : decode cX10_yOf 1 = .ok (.bipush 20, 2) := by decide +kernel
theorem dX10_yOf_3 : decode cX10_yOf 3 = .ok (.idiv, 1) := by decide +kernel
theorem dX10_yOf_4 : decode cX10_yOf 4 = .ok (.ireturn, 1) := by decide +kernel
theorem dX10_roundedUp_0 : decode cX10_roundedUp 0 = .ok (.iload_n 1, 1) := by decide +kernel
theorem dX10_roundedUp_1 : decode cX10_roundedUp 1 = .ok (.ifCond .gt 7, 3) := by decide +kernel
theorem dX10_roundedUp_4 : decode cX10_roundedUp 4 = .ok (.iconst 0, 1) := by decide +kernel
theorem dX10_roundedUp_5 : decode cX10_roundedUp 5 = .ok (.goto 10, 3) := by decide +kernel
theorem dX10_roundedUp_8 : decode cX10_roundedUp 8 = .ok (.iload_n 0, 1) := by decide +kernel
theorem dX10_roundedUp_9 : decode cX10_roundedUp 9 = .ok (.iload_n 1, 1) := by decide +kernel
theorem dX10_roundedUp_10 : decode cX10_roundedUp 10 = .ok (.iadd, 1) := by decide +kernel
theorem dX10_roundedUp_11 : decode cX10_roundedUp 11 = .ok (.iconst 1, 1) := by decide +kernel
theorem dX10_roundedUp_12 : decode cX10_roundedUp 12 = .ok (.isub, 1) := by decide +kernel
theorem dX10_roundedUp_13 : decode cX10_roundedUp 13 = .ok (.iload_n 1, 1) := by decide +kernel
theorem dX10_roundedUp_14 : decode cX10_roundedUp 14 = .ok (.idiv, 1) := by decide +kernel
theorem dX10_roundedUp_15 : decode cX10_roundedUp 15 = .ok (.ireturn, 1) := by decide +kernel
theorem dX10_bitsOf_0 : decode cX10_bitsOf 0 = .ok (.fload_n 0, 1) := by decide +kernel
theorem dX10_bitsOf_1 : decode cX10_bitsOf 1 = .ok (.fconst 0, 1) := by decide +kernel
theorem dX10_bitsOf_2 : decode cX10_bitsOf 2 = .ok (.fcmp .g, 1) := by decide +kernel
theorem dX10_bitsOf_3 : decode cX10_bitsOf 3 = .ok (.ifCond .gt 5, 3) := by decide +kernel
theorem dX10_bitsOf_6 : decode cX10_bitsOf 6 = .ok (.iconst 0, 1) := by decide +kernel
theorem dX10_bitsOf_7 : decode cX10_bitsOf 7 = .ok (.ireturn, 1) := by decide +kernel
theorem dX10_bitsOf_8 : decode cX10_bitsOf 8 = .ok (.bipush 127, 2) := by decide +kernel
theorem dX10_bitsOf_10 : decode cX10_bitsOf 10 = .ok (.istore_n 1, 1) := by decide +kernel
theorem dX10_bitsOf_11 : decode cX10_bitsOf 11 = .ok (.fload_n 0, 1) := by decide +kernel
theorem dX10_bitsOf_12 : decode cX10_bitsOf 12 = .ok (.fstore_n 2, 1) := by decide +kernel
theorem dX10_bitsOf_13 : decode cX10_bitsOf 13 = .ok (.iconst 0, 1) := by decide +kernel
theorem dX10_bitsOf_14 : decode cX10_bitsOf 14 = .ok (.istore_n 3, 1) := by decide +kernel
theorem dX10_bitsOf_15 : decode cX10_bitsOf 15 = .ok (.iload_n 3, 1) := by decide +kernel
theorem dX10_bitsOf_16 : decode cX10_bitsOf 16 = .ok (.bipush 126, 2) := by decide +kernel
theorem dX10_bitsOf_18 : decode cX10_bitsOf 18 = .ok (.if_icmp .ge 22, 3) := by decide +kernel
theorem dX10_bitsOf_21 : decode cX10_bitsOf 21 = .ok (.fload_n 2, 1) := by decide +kernel
theorem dX10_bitsOf_22 : decode cX10_bitsOf 22 = .ok (.fconst 2, 1) := by decide +kernel
theorem dX10_bitsOf_23 : decode cX10_bitsOf 23 = .ok (.fcmp .l, 1) := by decide +kernel
theorem dX10_bitsOf_24 : decode cX10_bitsOf 24 = .ok (.ifCond .lt 16, 3) := by decide +kernel
theorem dX10_bitsOf_27 : decode cX10_bitsOf 27 = .ok (.fload_n 2, 1) := by decide +kernel
theorem dX10_bitsOf_28 : decode cX10_bitsOf 28 = .ok (.fconst 2, 1) := by decide +kernel
theorem dX10_bitsOf_29 : decode cX10_bitsOf 29 = .ok (.fdiv, 1) := by decide +kernel
theorem dX10_bitsOf_30 : decode cX10_bitsOf 30 = .ok (.fstore_n 2, 1) := by decide +kernel
theorem dX10_bitsOf_31 : decode cX10_bitsOf 31 = .ok (.iinc 1 1, 3) := by decide +kernel
theorem dX10_bitsOf_34 : decode cX10_bitsOf 34 = .ok (.iinc 3 1, 3) := by decide +kernel
theorem dX10_bitsOf_37 : decode cX10_bitsOf 37 = .ok (.goto (-22), 3) := by decide +kernel
theorem dX10_bitsOf_40 : decode cX10_bitsOf 40 = .ok (.iconst 0, 1) := by decide +kernel
theorem dX10_bitsOf_41 : decode cX10_bitsOf 41 = .ok (.istore_n 3, 1) := by decide +kernel
theorem dX10_bitsOf_42 : decode cX10_bitsOf 42 = .ok (.iload_n 3, 1) := by decide +kernel
theorem dX10_bitsOf_43 : decode cX10_bitsOf 43 = .ok (.bipush 126, 2) := by decide +kernel
theorem dX10_bitsOf_45 : decode cX10_bitsOf 45 = .ok (.if_icmp .ge 22, 3) := by decide +kernel
theorem dX10_bitsOf_48 : decode cX10_bitsOf 48 = .ok (.fload_n 2, 1) := by decide +kernel
theorem dX10_bitsOf_49 : decode cX10_bitsOf 49 = .ok (.fconst 1, 1) := by decide +kernel
theorem dX10_bitsOf_50 : decode cX10_bitsOf 50 = .ok (.fcmp .g, 1) := by decide +kernel
theorem dX10_bitsOf_51 : decode cX10_bitsOf 51 = .ok (.ifCond .ge 16, 3) := by decide +kernel
theorem dX10_bitsOf_54 : decode cX10_bitsOf 54 = .ok (.fload_n 2, 1) := by decide +kernel
theorem dX10_bitsOf_55 : decode cX10_bitsOf 55 = .ok (.fconst 2, 1) := by decide +kernel
theorem dX10_bitsOf_56 : decode cX10_bitsOf 56 = .ok (.fmul, 1) := by decide +kernel
theorem dX10_bitsOf_57 : decode cX10_bitsOf 57 = .ok (.fstore_n 2, 1) := by decide +kernel
theorem dX10_bitsOf_58 : decode cX10_bitsOf 58 = .ok (.iinc 1 (-1), 3) := by decide +kernel
theorem dX10_bitsOf_61 : decode cX10_bitsOf 61 = .ok (.iinc 3 1, 3) := by decide +kernel
theorem dX10_bitsOf_64 : decode cX10_bitsOf 64 = .ok (.goto (-22), 3) := by decide +kernel
theorem dX10_bitsOf_67 : decode cX10_bitsOf 67 = .ok (.iload_n 1, 1) := by decide +kernel
theorem dX10_bitsOf_68 : decode cX10_bitsOf 68 = .ok (.bipush 23, 2) := by decide +kernel
theorem dX10_bitsOf_70 : decode cX10_bitsOf 70 = .ok (.ishl, 1) := by decide +kernel
theorem dX10_bitsOf_71 : decode cX10_bitsOf 71 = .ok (.fload_n 2, 1) := by decide +kernel
theorem dX10_bitsOf_72 : decode cX10_bitsOf 72 = .ok (.fconst 1, 1) := by decide +kernel
theorem dX10_bitsOf_73 : decode cX10_bitsOf 73 = .ok (.fsub, 1) := by decide +kernel
theorem dX10_bitsOf_74 : decode cX10_bitsOf 74 = .ok (.ldc_w 431, 3) := by decide +kernel
theorem dX10_bitsOf_77 : decode cX10_bitsOf 77 = .ok (.fmul, 1) := by decide +kernel
theorem dX10_bitsOf_78 : decode cX10_bitsOf 78 = .ok (.f2i, 1) := by decide +kernel
theorem dX10_bitsOf_79 : decode cX10_bitsOf 79 = .ok (.ior, 1) := by decide +kernel
theorem dX10_bitsOf_80 : decode cX10_bitsOf 80 = .ok (.ireturn, 1) := by decide +kernel
theorem dX10_isReachedBy_0 : decode cX10_isReachedBy 0 = .ok (.aload_n 0, 1) := by decide +kernel
theorem dX10_isReachedBy_1 : decode cX10_isReachedBy 1 = .ok (.iload_n 1, 1) := by decide +kernel
theorem dX10_isReachedBy_2 : decode cX10_isReachedBy 2 = .ok (.invokevirtual 305, 3) := by decide +kernel
theorem dX10_isReachedBy_5 : decode cX10_isReachedBy 5 = .ok (.istore_n 3, 1) := by decide +kernel
theorem dX10_isReachedBy_6 : decode cX10_isReachedBy 6 = .ok (.iload_n 3, 1) := by decide +kernel
theorem dX10_isReachedBy_7 : decode cX10_isReachedBy 7 = .ok (.ifCond .ne 5, 3) := by decide +kernel
theorem dX10_isReachedBy_10 : decode cX10_isReachedBy 10 = .ok (.iconst 1, 1) := by decide +kernel
theorem dX10_isReachedBy_11 : decode cX10_isReachedBy 11 = .ok (.ireturn, 1) := by decide +kernel
theorem dX10_isReachedBy_12 : decode cX10_isReachedBy 12 = .ok (.iload_n 3, 1) := by decide +kernel
theorem dX10_isReachedBy_13 : decode cX10_isReachedBy 13 = .ok (.iload_n 2, 1) := by decide +kernel
theorem dX10_isReachedBy_14 : decode cX10_isReachedBy 14 = .ok (.if_icmp .gt 8, 3) := by decide +kernel
theorem dX10_isReachedBy_17 : decode cX10_isReachedBy 17 = .ok (.iload_n 1, 1) := by decide +kernel
theorem dX10_isReachedBy_18 : decode cX10_isReachedBy 18 = .ok (.iconst 3, 1) := by decide +kernel
theorem dX10_isReachedBy_19 : decode cX10_isReachedBy 19 = .ok (.if_icmp .lt 5, 3) := by decide +kernel
theorem dX10_isReachedBy_22 : decode cX10_isReachedBy 22 = .ok (.iconst 0, 1) := by decide +kernel
theorem dX10_isReachedBy_23 : decode cX10_isReachedBy 23 = .ok (.ireturn, 1) := by decide +kernel
theorem dX10_isReachedBy_24 : decode cX10_isReachedBy 24 = .ok (.iconst 0, 1) := by decide +kernel
theorem dX10_isReachedBy_25 : decode cX10_isReachedBy 25 = .ok (.istore 4, 2) := by decide +kernel
theorem dX10_isReachedBy_27 : decode cX10_isReachedBy 27 = .ok (.iload 4, 2) := by decide +kernel
theorem dX10_isReachedBy_29 : decode cX10_isReachedBy 29 = .ok (.bipush 10, 2) := by decide +kernel
theorem dX10_isReachedBy_31 : decode cX10_isReachedBy 31 = .ok (.if_icmp .ge 34, 3) := by decide +kernel
theorem dX10_isReachedBy_34 : decode cX10_isReachedBy 34 = .ok (.aload_n 0, 1) := by decide +kernel
theorem dX10_isReachedBy_35 : decode cX10_isReachedBy 35 = .ok (.iload_n 1, 1) := by decide +kernel
theorem dX10_isReachedBy_36 : decode cX10_isReachedBy 36 = .ok (.iload 4, 2) := by decide +kernel
theorem dX10_isReachedBy_38 : decode cX10_isReachedBy 38 = .ok (.invokevirtual 432, 3) := by decide +kernel
theorem dX10_isReachedBy_41 : decode cX10_isReachedBy 41 = .ok (.ifCond .eq 18, 3) := by decide +kernel
theorem dX10_isReachedBy_44 : decode cX10_isReachedBy 44 = .ok (.aload_n 0, 1) := by decide +kernel
theorem dX10_isReachedBy_45 : decode cX10_isReachedBy 45 = .ok (.iload_n 1, 1) := by decide +kernel
theorem dX10_isReachedBy_46 : decode cX10_isReachedBy 46 = .ok (.iconst 1, 1) := by decide +kernel
theorem dX10_isReachedBy_47 : decode cX10_isReachedBy 47 = .ok (.iadd, 1) := by decide +kernel
theorem dX10_isReachedBy_48 : decode cX10_isReachedBy 48 = .ok (.iload_n 2, 1) := by decide +kernel
theorem dX10_isReachedBy_49 : decode cX10_isReachedBy 49 = .ok (.iconst 1, 1) := by decide +kernel
theorem dX10_isReachedBy_50 : decode cX10_isReachedBy 50 = .ok (.isub, 1) := by decide +kernel
theorem dX10_isReachedBy_51 : decode cX10_isReachedBy 51 = .ok (.invokestatic 308, 3) := by decide +kernel
theorem dX10_isReachedBy_54 : decode cX10_isReachedBy 54 = .ok (.ifCond .eq 5, 3) := by decide +kernel
theorem dX10_isReachedBy_57 : decode cX10_isReachedBy 57 = .ok (.iconst 1, 1) := by decide +kernel
theorem dX10_isReachedBy_58 : decode cX10_isReachedBy 58 = .ok (.ireturn, 1) := by decide +kernel
theorem dX10_isReachedBy_59 : decode cX10_isReachedBy 59 = .ok (.iinc 4 1, 3) := by decide +kernel
theorem dX10_isReachedBy_62 : decode cX10_isReachedBy 62 = .ok (.goto (-35), 3) := by decide +kernel
theorem dX10_isReachedBy_65 : decode cX10_isReachedBy 65 = .ok (.iconst 0, 1) := by decide +kernel
theorem dX10_isReachedBy_66 : decode cX10_isReachedBy 66 = .ok (.ireturn, 1) := by decide +kernel
theorem dX10_shortestRow_0 : decode cX10_shortestRow 0 = .ok (.aload_n 0, 1) := by decide +kernel
theorem dX10_shortestRow_1 : decode cX10_shortestRow 1 = .ok (.iload_n 1, 1) := by decide +kernel
theorem dX10_shortestRow_2 : decode cX10_shortestRow 2 = .ok (.invokevirtual 305, 3) := by decide +kernel
theorem dX10_shortestRow_5 : decode cX10_shortestRow 5 = .ok (.ifCond .ne 7, 3) := by decide +kernel
theorem dX10_shortestRow_8 : decode cX10_shortestRow 8 = .ok (.iload_n 1, 1) := by decide +kernel
theorem dX10_shortestRow_9 : decode cX10_shortestRow 9 = .ok (.goto 4, 3) := by decide +kernel
theorem dX10_shortestRow_12 : decode cX10_shortestRow 12 = .ok (.iconst 4, 1) := by decide +kernel
theorem dX10_shortestRow_13 : decode cX10_shortestRow 13 = .ok (.istore_n 2, 1) := by decide +kernel
theorem dX10_shortestRow_14 : decode cX10_shortestRow 14 = .ok (.iload_n 1, 1) := by decide +kernel
theorem dX10_shortestRow_15 : decode cX10_shortestRow 15 = .ok (.iconst 3, 1) := by decide +kernel
theorem dX10_shortestRow_16 : decode cX10_shortestRow 16 = .ok (.if_icmp .lt 5, 3) := by decide +kernel
theorem dX10_shortestRow_19 : decode cX10_shortestRow 19 = .ok (.iload_n 2, 1) := by decide +kernel
theorem dX10_shortestRow_20 : decode cX10_shortestRow 20 = .ok (.ireturn, 1) := by decide +kernel
theorem dX10_shortestRow_21 : decode cX10_shortestRow 21 = .ok (.iconst 0, 1) := by decide +kernel
theorem dX10_shortestRow_22 : decode cX10_shortestRow 22 = .ok (.istore_n 3, 1) := by decide +kernel
theorem dX10_shortestRow_23 : decode cX10_shortestRow 23 = .ok (.iload_n 3, 1) := by decide +kernel
theorem dX10_shortestRow_24 : decode cX10_shortestRow 24 = .ok (.bipush 10, 2) := by decide +kernel
theorem dX10_shortestRow_26 : decode cX10_shortestRow 26 = .ok (.if_icmp .ge 30, 3) := by decide +kernel
theorem dX10_shortestRow_29 : decode cX10_shortestRow 29 = .ok (.aload_n 0, 1) := by decide +kernel
theorem dX10_shortestRow_30 : decode cX10_shortestRow 30 = .ok (.iload_n 1, 1) := by decide +kernel
theorem dX10_shortestRow_31 : decode cX10_shortestRow 31 = .ok (.iload_n 3, 1) := by decide +kernel
theorem dX10_shortestRow_32 : decode cX10_shortestRow 32 = .ok (.invokevirtual 432, 3) := by decide +kernel
theorem dX10_shortestRow_35 : decode cX10_shortestRow 35 = .ok (.ifCond .eq 15, 3) := by decide +kernel
theorem dX10_shortestRow_38 : decode cX10_shortestRow 38 = .ok (.iload_n 2, 1) := by decide +kernel
theorem dX10_shortestRow_39 : decode cX10_shortestRow 39 = .ok (.aload_n 0, 1) := by decide +kernel
theorem dX10_shortestRow_40 : decode cX10_shortestRow 40 = .ok (.iload_n 1, 1) := by decide +kernel
theorem dX10_shortestRow_41 : decode cX10_shortestRow 41 = .ok (.iconst 1, 1) := by decide +kernel
theorem dX10_shortestRow_42 : decode cX10_shortestRow 42 = .ok (.iadd, 1) := by decide +kernel
theorem dX10_shortestRow_43 : decode cX10_shortestRow 43 = .ok (.invokestatic 312, 3) := by decide +kernel
theorem dX10_shortestRow_46 : decode cX10_shortestRow 46 = .ok (.invokestatic 147, 3) := by decide +kernel
theorem dX10_shortestRow_49 : decode cX10_shortestRow 49 = .ok (.istore_n 2, 1) := by decide +kernel
theorem dX10_shortestRow_50 : decode cX10_shortestRow 50 = .ok (.iinc 3 1, 3) := by decide +kernel
theorem dX10_shortestRow_53 : decode cX10_shortestRow 53 = .ok (.goto (-30), 3) := by decide +kernel
theorem dX10_shortestRow_56 : decode cX10_shortestRow 56 = .ok (.iload_n 2, 1) := by decide +kernel
theorem dX10_shortestRow_57 : decode cX10_shortestRow 57 = .ok (.ireturn, 1) := by decide +kernel
theorem dJ6_signum_0f7a4_0 : decode cJ6_signum_0f7a4 0 = .ok (.iload_n 0, 1) := by decide +kernel
theorem dJ6_signum_0f7a4_1 : decode cJ6_signum_0f7a4 1 = .ok (.bipush 31, 2) := by decide +kernel
theorem dJ6_signum_0f7a4_3 : decode cJ6_signum_0f7a4 3 = .ok (.ishr, 1) := by decide +kernel
theorem dJ6_signum_0f7a4_4 : decode cJ6_signum_0f7a4 4 = .ok (.iload_n 0, 1) := by decide +kernel
theorem dJ6_signum_0f7a4_5 : decode cJ6_signum_0f7a4 5 = .ok (.ineg, 1) := by decide +kernel
theorem dJ6_signum_0f7a4_6 : decode cJ6_signum_0f7a4 6 = .ok (.bipush 31, 2) := by decide +kernel
theorem dJ6_signum_0f7a4_8 : decode cJ6_signum_0f7a4 8 = .ok (.iushr, 1) := by decide +kernel
theorem dJ6_signum_0f7a4_9 : decode cJ6_signum_0f7a4 9 = .ok (.ior, 1) := by decide +kernel
theorem dJ6_signum_0f7a4_10 : decode cJ6_signum_0f7a4 10 = .ok (.ireturn, 1) := by decide +kernel
theorem dJ9_abs_0f7a4_0 : decode cJ9_abs_0f7a4 0 = .ok (.iload_n 0, 1) := by decide +kernel
theorem dJ9_abs_0f7a4_1 : decode cJ9_abs_0f7a4 1 = .ok (.ifCond .ge 8, 3) := by decide +kernel
theorem dJ9_abs_0f7a4_4 : decode cJ9_abs_0f7a4 4 = .ok (.iload_n 0, 1) := by decide +kernel
theorem dJ9_abs_0f7a4_5 : decode cJ9_abs_0f7a4 5 = .ok (.ineg, 1) := by decide +kernel
theorem dJ9_abs_0f7a4_6 : decode cJ9_abs_0f7a4 6 = .ok (.goto 4, 3) := by decide +kernel
theorem dJ9_abs_0f7a4_9 : decode cJ9_abs_0f7a4 9 = .ok (.iload_n 0, 1) := by decide +kernel
theorem dJ9_abs_0f7a4_10 : decode cJ9_abs_0f7a4 10 = .ok (.ireturn, 1) := by decide +kernel
theorem dJ9_max_7cf53_0 : decode cJ9_max_7cf53 0 = .ok (.iload_n 0, 1) := by decide +kernel
theorem dJ9_max_7cf53_1 : decode cJ9_max_7cf53 1 = .ok (.iload_n 1, 1) := by decide +kernel
theorem dJ9_max_7cf53_2 : decode cJ9_max_7cf53 2 = .ok (.if_icmp .lt 7, 3) := by decide +kernel
theorem dJ9_max_7cf53_5 : decode cJ9_max_7cf53 5 = .ok (.iload_n 0, 1) := by decide +kernel
theorem dJ9_max_7cf53_6 : decode cJ9_max_7cf53 6 = .ok (.goto 4, 3) := by decide +kernel
theorem dJ9_max_7cf53_9 : decode cJ9_max_7cf53 9 = .ok (.iload_n 1, 1) := by decide +kernel
theorem dJ9_max_7cf53_10 : decode cJ9_max_7cf53 10 = .ok (.ireturn, 1) := by decide +kernel
theorem dJ9_min_7cf53_0 : decode cJ9_min_7cf53 0 = .ok (.iload_n 0, 1) := by decide +kernel
theorem dJ9_min_7cf53_1 : decode cJ9_min_7cf53 1 = .ok (.iload_n 1, 1) := by decide +kernel
theorem dJ9_min_7cf53_2 : decode cJ9_min_7cf53 2 = .ok (.if_icmp .gt 7, 3) := by decide +kernel
theorem dJ9_min_7cf53_5 : decode cJ9_min_7cf53 5 = .ok (.iload_n 0, 1) := by decide +kernel
theorem dJ9_min_7cf53_6 : decode cJ9_min_7cf53 6 = .ok (.goto 4, 3) := by decide +kernel
theorem dJ9_min_7cf53_9 : decode cJ9_min_7cf53 9 = .ok (.iload_n 1, 1) := by decide +kernel
theorem dJ9_min_7cf53_10 : decode cJ9_min_7cf53 10 = .ok (.ireturn, 1) := by decide +kernel
theorem dJ7_fill_53178_0 : decode cJ7_fill_53178 0 = .ok (.iconst 0, 1) := by decide +kernel
theorem dJ7_fill_53178_1 : decode cJ7_fill_53178 1 = .ok (.istore_n 2, 1) := by decide +kernel
theorem dJ7_fill_53178_2 : decode cJ7_fill_53178 2 = .ok (.aload_n 0, 1) := by decide +kernel
theorem dJ7_fill_53178_3 : decode cJ7_fill_53178 3 = .ok (.arraylength, 1) := by decide +kernel
theorem dJ7_fill_53178_4 : decode cJ7_fill_53178 4 = .ok (.istore_n 3, 1) := by decide +kernel
theorem dJ7_fill_53178_5 : decode cJ7_fill_53178 5 = .ok (.iload_n 2, 1) := by decide +kernel
theorem dJ7_fill_53178_6 : decode cJ7_fill_53178 6 = .ok (.iload_n 3, 1) := by decide +kernel
theorem dJ7_fill_53178_7 : decode cJ7_fill_53178 7 = .ok (.if_icmp .ge 13, 3) := by decide +kernel
theorem dJ7_fill_53178_10 : decode cJ7_fill_53178 10 = .ok (.aload_n 0, 1) := by decide +kernel
theorem dJ7_fill_53178_11 : decode cJ7_fill_53178 11 = .ok (.iload_n 2, 1) := by decide +kernel
theorem dJ7_fill_53178_12 : decode cJ7_fill_53178 12 = .ok (.iload_n 1, 1) := by decide +kernel
theorem dJ7_fill_53178_13 : decode cJ7_fill_53178 13 = .ok (.iastore, 1) := by decide +kernel
theorem dJ7_fill_53178_14 : decode cJ7_fill_53178 14 = .ok (.iinc 2 1, 3) := by decide +kernel
theorem dJ7_fill_53178_17 : decode cJ7_fill_53178 17 = .ok (.goto (-12), 3) := by decide +kernel
theorem dJ7_fill_53178_20 : decode cJ7_fill_53178 20 = .ok (.return_, 1) := by decide +kernel
