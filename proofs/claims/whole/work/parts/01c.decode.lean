theorem dX0_init_0 : decode cX0_init 0 = .ok (.aload_n 0, 1) := by decide +kernel
theorem dX0_init_1 : decode cX0_init 1 = .ok (.invokespecial 3, 3) := by decide +kernel
theorem dX0_init_4 : decode cX0_init 4 = .ok (.aload_n 0, 1) := by decide +kernel
theorem dX0_init_5 : decode cX0_init 5 = .ok (.iconst 0, 1) := by decide +kernel
theorem dX0_init_6 : decode cX0_init 6 = .ok (.putfield 9, 3) := by decide +kernel
theorem dX0_init_9 : decode cX0_init 9 = .ok (.aload_n 0, 1) := by decide +kernel
theorem dX0_init_10 : decode cX0_init 10 = .ok (.iconst 0, 1) := by decide +kernel
theorem dX0_init_11 : decode cX0_init 11 = .ok (.putfield 15, 3) := by decide +kernel
theorem dX0_init_14 : decode cX0_init 14 = .ok (.aload_n 0, 1) := by decide +kernel
theorem dX0_init_15 : decode cX0_init 15 = .ok (.iconst (-1), 1) := by decide +kernel
theorem dX0_init_16 : decode cX0_init 16 = .ok (.putfield 18, 3) := by decide +kernel
theorem dX0_init_19 : decode cX0_init 19 = .ok (.aload_n 0, 1) := by decide +kernel
theorem dX0_init_20 : decode cX0_init 20 = .ok (.iconst 0, 1) := by decide +kernel
theorem dX0_init_21 : decode cX0_init 21 = .ok (.putfield 21, 3) := by decide +kernel
theorem dX0_init_24 : decode cX0_init 24 = .ok (.return_, 1) := by decide +kernel
theorem dX0_forget_0 : decode cX0_forget 0 = .ok (.aload_n 0, 1) := by decide +kernel
theorem dX0_forget_1 : decode cX0_forget 1 = .ok (.iconst 0, 1) := by decide +kernel
theorem dX0_forget_2 : decode cX0_forget 2 = .ok (.putfield 9, 3) := by decide +kernel
theorem dX0_forget_5 : decode cX0_forget 5 = .ok (.aload_n 0, 1) := by decide +kernel
theorem dX0_forget_6 : decode cX0_forget 6 = .ok (.iconst 0, 1) := by decide +kernel
theorem dX0_forget_7 : decode cX0_forget 7 = .ok (.putfield 15, 3) := by decide +kernel
theorem dX0_forget_10 : decode cX0_forget 10 = .ok (.aload_n 0, 1) := by decide +kernel
theorem dX0_forget_11 : decode cX0_forget 11 = .ok (.iconst (-1), 1) := by decide +kernel
theorem dX0_forget_12 : decode cX0_forget 12 = .ok (.putfield 18, 3) := by decide +kernel
theorem dX0_forget_15 : decode cX0_forget 15 = .ok (.aload_n 0, 1) := by decide +kernel
theorem dX0_forget_16 : decode cX0_forget 16 = .ok (.iconst 0, 1) := by decide +kernel
theorem dX0_forget_17 : decode cX0_forget 17 = .ok (.putfield 21, 3) := by decide +kernel
theorem dX0_forget_20 : decode cX0_forget 20 = .ok (.return_, 1) := by decide +kernel
theorem dX0_beginAct_0 : decode cX0_beginAct 0 = .ok (.aload_n 0, 1) := by decide +kernel
theorem dX0_beginAct_1 : decode cX0_beginAct 1 = .ok (.iconst 0, 1) := by decide +kernel
theorem dX0_beginAct_2 : decode cX0_beginAct 2 = .ok (.putfield 21, 3) := by decide +kernel
theorem dX0_beginAct_5 : decode cX0_beginAct 5 = .ok (.return_, 1) := by decide +kernel
theorem dX0_tell_0 : decode cX0_tell 0 = .ok (.aload_n 0, 1) := by decide +kernel
theorem dX0_tell_1 : decode cX0_tell 1 = .ok (.getfield 9, 3) := by decide +kernel
theorem dX0_tell_4 : decode cX0_tell 4 = .ok (.ifCond .ne 13, 3) := by decide +kernel
theorem dX0_tell_7 : decode cX0_tell 7 = .ok (.aload_n 0, 1) := by decide +kernel
theorem dX0_tell_8 : decode cX0_tell 8 = .ok (.iload_n 1, 1) := by decide +kernel
theorem dX0_tell_9 : decode cX0_tell 9 = .ok (.putfield 15, 3) := by decide +kernel
theorem dX0_tell_12 : decode cX0_tell 12 = .ok (.aload_n 0, 1) := by decide +kernel
theorem dX0_tell_13 : decode cX0_tell 13 = .ok (.iload_n 2, 1) := by decide +kernel
theorem dX0_tell_14 : decode cX0_tell 14 = .ok (.putfield 18, 3) := by decide +kernel
theorem dX0_tell_17 : decode cX0_tell 17 = .ok (.aload_n 0, 1) := by decide +kernel
theorem dX0_tell_18 : decode cX0_tell 18 = .ok (.getfield 21, 3) := by decide +kernel
theorem dX0_tell_21 : decode cX0_tell 21 = .ok (.ifCond .ne 8, 3) := by decide +kernel
theorem dX0_tell_24 : decode cX0_tell 24 = .ok (.aload_n 0, 1) := by decide +kernel
theorem dX0_tell_25 : decode cX0_tell 25 = .ok (.iload_n 1, 1) := by decide +kernel
theorem dX0_tell_26 : decode cX0_tell 26 = .ok (.putfield 21, 3) := by decide +kernel
theorem dX0_tell_29 : decode cX0_tell 29 = .ok (.aload_n 0, 1) := by decide +kernel
theorem dX0_tell_30 : decode cX0_tell 30 = .ok (.dup, 1) := by decide +kernel
theorem dX0_tell_31 : decode cX0_tell 31 = .ok (.getfield 9, 3) := by decide +kernel
theorem dX0_tell_34 : decode cX0_tell 34 = .ok (.iconst 1, 1) := by decide +kernel
theorem dX0_tell_35 : decode cX0_tell 35 = .ok (.iadd, 1) := by decide +kernel
theorem dX0_tell_36 : decode cX0_tell 36 = .ok (.putfield 9, 3) := by decide +kernel
theorem dX0_tell_39 : decode cX0_tell 39 = .ok (.return_, 1) := by decide +kernel
theorem dX1_init_0 : decode cX1_init 0 = .ok (.aload_n 0, 1) := by decide +kernel
theorem dX1_init_1 : decode cX1_init 1 = .ok (.invokespecial 3, 3) := by decide +kernel
theorem dX1_init_4 : decode cX1_init 4 = .ok (.aload_n 0, 1) := by decide +kernel
theorem dX1_init_5 : decode cX1_init 5 = .ok (.new 9, 3) := by decide +kernel
theorem dX1_init_8 : decode cX1_init 8 = .ok (.dup, 1) := by decide +kernel
theorem dX1_init_9 : decode cX1_init 9 = .ok (.bipush 40, 2) := by decide +kernel
theorem dX1_init_11 : decode cX1_init 11 = .ok (.iconst 0, 1) := by decide +kernel
theorem dX1_init_12 : decode cX1_init 12 = .ok (.invokespecial 11, 3) := by decide +kernel
theorem dX1_init_15 : decode cX1_init 15 = .ok (.putfield 14, 3) := by decide +kernel
theorem dX1_init_18 : decode cX1_init 18 = .ok (.aload_n 0, 1) := by decide +kernel
theorem dX1_init_19 : decode cX1_init 19 = .ok (.new 9, 3) := by decide +kernel
theorem dX1_init_22 : decode cX1_init 22 = .ok (.dup, 1) := by decide +kernel
theorem dX1_init_23 : decode cX1_init 23 = .ok (.bipush 40, 2) := by decide +kernel
theorem dX1_init_25 : decode cX1_init 25 = .ok (.iconst 0, 1) := by decide +kernel
theorem dX1_init_26 : decode cX1_init 26 = .ok (.invokespecial 11, 3) := by decide +kernel
theorem dX1_init_29 : decode cX1_init 29 = .ok (.putfield 20, 3) := by decide +kernel
theorem dX1_init_32 : decode cX1_init 32 = .ok (.aload_n 0, 1) := by decide +kernel
theorem dX1_init_33 : decode cX1_init 33 = .ok (.new 9, 3) := by decide +kernel
theorem dX1_init_36 : decode cX1_init 36 = .ok (.dup, 1) := by decide +kernel
theorem dX1_init_37 : decode cX1_init 37 = .ok (.bipush 40, 2) := by decide +kernel
theorem dX1_init_39 : decode cX1_init 39 = .ok (.iconst (-1), 1) := by decide +kernel
theorem dX1_init_40 : decode cX1_init 40 = .ok (.invokespecial 11, 3) := by decide +kernel
theorem dX1_init_43 : decode cX1_init 43 = .ok (.putfield 23, 3) := by decide +kernel
theorem dX1_init_46 : decode cX1_init 46 = .ok (.aload_n 0, 1) := by decide +kernel
theorem dX1_init_47 : decode cX1_init 47 = .ok (.iconst 0, 1) := by decide +kernel
theorem dX1_init_48 : decode cX1_init 48 = .ok (.putfield 26, 3) := by decide +kernel
theorem dX1_init_51 : decode cX1_init 51 = .ok (.return_, 1) := by decide +kernel
theorem dX1_kept_0 : decode cX1_kept 0 = .ok (.aload_n 0, 1) := by decide +kernel
theorem dX1_kept_1 : decode cX1_kept 1 = .ok (.getfield 26, 3) := by decide +kernel
theorem dX1_kept_4 : decode cX1_kept 4 = .ok (.bipush 40, 2) := by decide +kernel
theorem dX1_kept_6 : decode cX1_kept 6 = .ok (.invokestatic 30, 3) := by decide +kernel
theorem dX1_kept_9 : decode cX1_kept 9 = .ok (.ireturn, 1) := by decide +kernel
theorem dX1_keep_0 : decode cX1_keep 0 = .ok (.aload_n 0, 1) := by decide +kernel
theorem dX1_keep_1 : decode cX1_keep 1 = .ok (.getfield 14, 3) := by decide +kernel
theorem dX1_keep_4 : decode cX1_keep 4 = .ok (.aload_n 0, 1) := by decide +kernel
theorem dX1_keep_5 : decode cX1_keep 5 = .ok (.getfield 26, 3) := by decide +kernel
theorem dX1_keep_8 : decode cX1_keep 8 = .ok (.iload_n 1, 1) := by decide +kernel
theorem dX1_keep_9 : decode cX1_keep 9 = .ok (.invokevirtual 36, 3) := by decide +kernel
theorem dX1_keep_12 : decode cX1_keep 12 = .ok (.aload_n 0, 1) := by decide +kernel
theorem dX1_keep_13 : decode cX1_keep 13 = .ok (.getfield 20, 3) := by decide +kernel
theorem dX1_keep_16 : decode cX1_keep 16 = .ok (.aload_n 0, 1) := by decide +kernel
theorem dX1_keep_17 : decode cX1_keep 17 = .ok (.getfield 26, 3) := by decide +kernel
theorem dX1_keep_20 : decode cX1_keep 20 = .ok (.iload_n 2, 1) := by decide +kernel
theorem dX1_keep_21 : decode cX1_keep 21 = .ok (.invokevirtual 36, 3) := by decide +kernel
theorem dX1_keep_24 : decode cX1_keep 24 = .ok (.aload_n 0, 1) := by decide +kernel
theorem dX1_keep_25 : decode cX1_keep 25 = .ok (.getfield 23, 3) := by decide +kernel
theorem dX1_keep_28 : decode cX1_keep 28 = .ok (.aload_n 0, 1) := by decide +kernel
theorem dX1_keep_29 : decode cX1_keep 29 = .ok (.getfield 26, 3) := by decide +kernel
theorem dX1_keep_32 : decode cX1_keep 32 = .ok (.iload_n 3, 1) := by decide +kernel
theorem dX1_keep_33 : decode cX1_keep 33 = .ok (.invokevirtual 36, 3) := by decide +kernel
theorem dX1_keep_36 : decode cX1_keep 36 = .ok (.aload_n 0, 1) := by decide +kernel
theorem dX1_keep_37 : decode cX1_keep 37 = .ok (.dup, 1) := by decide +kernel
theorem dX1_keep_38 : decode cX1_keep 38 = .ok (.getfield 26, 3) := by decide +kernel
theorem dX1_keep_41 : decode cX1_keep 41 = .ok (.iconst 1, 1) := by decide +kernel
theorem dX1_keep_42 : decode cX1_keep 42 = .ok (.iadd, 1) := by decide +kernel
theorem dX1_keep_43 : decode cX1_keep 43 = .ok (.putfield 26, 3) := by decide +kernel
theorem dX1_keep_46 : decode cX1_keep 46 = .ok (.return_, 1) := by decide +kernel
theorem dX2_init_0 : decode cX2_init 0 = .ok (.aload_n 0, 1) := by decide +kernel
theorem dX2_init_1 : decode cX2_init 1 = .ok (.invokespecial 3, 3) := by decide +kernel
theorem dX2_init_4 : decode cX2_init 4 = .ok (.aload_n 0, 1) := by decide +kernel
theorem dX2_init_5 : decode cX2_init 5 = .ok (.new 9, 3) := by decide +kernel
theorem dX2_init_8 : decode cX2_init 8 = .ok (.dup, 1) := by decide +kernel
theorem dX2_init_9 : decode cX2_init 9 = .ok (.bipush 6, 2) := by decide +kernel
theorem dX2_init_11 : decode cX2_init 11 = .ok (.iconst 0, 1) := by decide +kernel
theorem dX2_init_12 : decode cX2_init 12 = .ok (.invokespecial 11, 3) := by decide +kernel
theorem dX2_init_15 : decode cX2_init 15 = .ok (.putfield 14, 3) := by decide +kernel
theorem dX2_init_18 : decode cX2_init 18 = .ok (.aload_n 0, 1) := by decide +kernel
theorem dX2_init_19 : decode cX2_init 19 = .ok (.new 9, 3) := by decide +kernel
theorem dX2_init_22 : decode cX2_init 22 = .ok (.dup, 1) := by decide +kernel
theorem dX2_init_23 : decode cX2_init 23 = .ok (.bipush 6, 2) := by decide +kernel
theorem dX2_init_25 : decode cX2_init 25 = .ok (.iconst 0, 1) := by decide +kernel
theorem dX2_init_26 : decode cX2_init 26 = .ok (.invokespecial 11, 3) := by decide +kernel
theorem dX2_init_29 : decode cX2_init 29 = .ok (.putfield 20, 3) := by decide +kernel
theorem dX2_init_32 : decode cX2_init 32 = .ok (.aload_n 0, 1) := by decide +kernel
theorem dX2_init_33 : decode cX2_init 33 = .ok (.new 9, 3) := by decide +kernel
theorem dX2_init_36 : decode cX2_init 36 = .ok (.dup, 1) := by decide +kernel
theorem dX2_init_37 : decode cX2_init 37 = .ok (.bipush 6, 2) := by decide +kernel
theorem dX2_init_39 : decode cX2_init 39 = .ok (.iconst 0, 1) := by decide +kernel
theorem dX2_init_40 : decode cX2_init 40 = .ok (.invokespecial 11, 3) := by decide +kernel
theorem dX2_init_43 : decode cX2_init 43 = .ok (.putfield 23, 3) := by decide +kernel
theorem dX2_init_46 : decode cX2_init 46 = .ok (.aload_n 0, 1) := by decide +kernel
theorem dX2_init_47 : decode cX2_init 47 = .ok (.iconst 0, 1) := by decide +kernel
theorem dX2_init_48 : decode cX2_init 48 = .ok (.putfield 26, 3) := by decide +kernel
theorem dX2_init_51 : decode cX2_init 51 = .ok (.aload_n 0, 1) := by decide +kernel
theorem dX2_init_52 : decode cX2_init 52 = .ok (.iconst 0, 1) := by decide +kernel
theorem dX2_init_53 : decode cX2_init 53 = .ok (.putfield 30, 3) := by decide +kernel
theorem dX2_init_56 : decode cX2_init 56 = .ok (.aload_n 0, 1) := by decide +kernel
theorem dX2_init_57 : decode cX2_init 57 = .ok (.iconst 0, 1) := by decide +kernel
theorem dX2_init_58 : decode cX2_init 58 = .ok (.putfield 33, 3) := by decide +kernel
theorem dX2_init_61 : decode cX2_init 61 = .ok (.aload_n 0, 1) := by decide +kernel
theorem dX2_init_62 : decode cX2_init 62 = .ok (.iconst 0, 1) := by decide +kernel
theorem dX2_init_63 : decode cX2_init 63 = .ok (.putfield 36, 3) := by decide +kernel
theorem dX2_init_66 : decode cX2_init 66 = .ok (.return_, 1) := by decide +kernel
theorem dX2_join_0 : decode cX2_join 0 = .ok (.aload_n 0, 1) := by decide +kernel
theorem dX2_join_1 : decode cX2_join 1 = .ok (.getfield 26, 3) := by decide +kernel
theorem dX2_join_4 : decode cX2_join 4 = .ok (.istore 4, 2) := by decide +kernel
theorem dX2_join_6 : decode cX2_join 6 = .ok (.aload_n 0, 1) := by decide +kernel
theorem dX2_join_7 : decode cX2_join 7 = .ok (.getfield 14, 3) := by decide +kernel
theorem dX2_join_10 : decode cX2_join 10 = .ok (.iload 4, 2) := by decide +kernel
theorem dX2_join_12 : decode cX2_join 12 = .ok (.iload_n 1, 1) := by decide +kernel
theorem dX2_join_13 : decode cX2_join 13 = .ok (.invokevirtual 39, 3) := by decide +kernel
theorem dX2_join_16 : decode cX2_join 16 = .ok (.aload_n 0, 1) := by decide +kernel
theorem dX2_join_17 : decode cX2_join 17 = .ok (.getfield 20, 3) := by decide +kernel
theorem dX2_join_20 : decode cX2_join 20 = .ok (.iload 4, 2) := by decide +kernel
theorem dX2_join_22 : decode cX2_join 22 = .ok (.iload_n 2, 1) := by decide +kernel
theorem dX2_join_23 : decode cX2_join 23 = .ok (.invokevirtual 39, 3) := by decide +kernel
theorem dX2_join_26 : decode cX2_join 26 = .ok (.aload_n 0, 1) := by decide +kernel
theorem dX2_join_27 : decode cX2_join 27 = .ok (.getfield 23, 3) := by decide +kernel
theorem dX2_join_30 : decode cX2_join 30 = .ok (.iload 4, 2) := by decide +kernel
theorem dX2_join_32 : decode cX2_join 32 = .ok (.iload_n 3, 1) := by decide +kernel
theorem dX2_join_33 : decode cX2_join 33 = .ok (.invokevirtual 39, 3) := by decide +kernel
theorem dX2_join_36 : decode cX2_join 36 = .ok (.aload_n 0, 1) := by decide +kernel
theorem dX2_join_37 : decode cX2_join 37 = .ok (.dup, 1) := by decide +kernel
theorem dX2_join_38 : decode cX2_join 38 = .ok (.getfield 26, 3) := by decide +kernel
theorem dX2_join_41 : decode cX2_join 41 = .ok (.iconst 1, 1) := by decide +kernel
theorem dX2_join_42 : decode cX2_join 42 = .ok (.iadd, 1) := by decide +kernel
theorem dX2_join_43 : decode cX2_join 43 = .ok (.putfield 26, 3) := by decide +kernel
theorem dX2_join_46 : decode cX2_join 46 = .ok (.iload 4, 2) := by decide +kernel
theorem dX2_join_48 : decode cX2_join 48 = .ok (.ireturn, 1) := by decide +kernel
theorem dX2_carry_0 : decode cX2_carry 0 = .ok (.aload_n 0, 1) := by decide +kernel
theorem dX2_carry_1 : decode cX2_carry 1 = .ok (.iload_n 1, 1) := by decide +kernel
theorem dX2_carry_2 : decode cX2_carry 2 = .ok (.putfield 30, 3) := by decide +kernel
theorem dX2_carry_5 : decode cX2_carry 5 = .ok (.aload_n 0, 1) := by decide +kernel
theorem dX2_carry_6 : decode cX2_carry 6 = .ok (.iload_n 2, 1) := by decide +kernel
theorem dX2_carry_7 : decode cX2_carry 7 = .ok (.putfield 33, 3) := by decide +kernel
theorem dX2_carry_10 : decode cX2_carry 10 = .ok (.aload_n 0, 1) := by decide +kernel
theorem dX2_carry_11 : decode cX2_carry 11 = .ok (.iload_n 3, 1) := by decide +kernel
theorem dX2_carry_12 : decode cX2_carry 12 = .ok (.putfield 36, 3) := by decide +kernel
theorem dX2_carry_15 : decode cX2_carry 15 = .ok (.return_, 1) := by decide +kernel
theorem dX2_weight_0 : decode cX2_weight 0 = .ok (.bipush 10, 2) := by decide +kernel
theorem dX2_weight_2 : decode cX2_weight 2 = .ok (.aload_n 0, 1) := by decide +kernel
theorem dX2_weight_3 : decode cX2_weight 3 = .ok (.getfield 30, 3) := by decide +kernel
theorem dX2_weight_6 : decode cX2_weight 6 = .ok (.iadd, 1) := by decide +kernel
theorem dX2_weight_7 : decode cX2_weight 7 = .ok (.ireturn, 1) := by decide +kernel
theorem dX3_init_0 : decode cX3_init 0 = .ok (.aload_n 0, 1) := by decide +kernel
theorem dX3_init_1 : decode cX3_init 1 = .ok (.invokespecial 3, 3) := by decide +kernel
theorem dX3_init_4 : decode cX3_init 4 = .ok (.aload_n 0, 1) := by decide +kernel
theorem dX3_init_5 : decode cX3_init 5 = .ok (.new 9, 3) := by decide +kernel
theorem dX3_init_8 : decode cX3_init 8 = .ok (.dup, 1) := by decide +kernel
theorem dX3_init_9 : decode cX3_init 9 = .ok (.bipush 8, 2) := by decide +kernel
theorem dX3_init_11 : decode cX3_init 11 = .ok (.iconst 0, 1) := by decide +kernel
theorem dX3_init_12 : decode cX3_init 12 = .ok (.invokespecial 11, 3) := by decide +kernel
theorem dX3_init_15 : decode cX3_init 15 = .ok (.putfield 14, 3) := by decide +kernel
theorem dX3_init_18 : decode cX3_init 18 = .ok (.aload_n 0, 1) := by decide +kernel
theorem dX3_init_19 : decode cX3_init 19 = .ok (.new 9, 3) := by decide +kernel
theorem dX3_init_22 : decode cX3_init 22 = .ok (.dup, 1) := by decide +kernel
theorem dX3_init_23 : decode cX3_init 23 = .ok (.bipush 8, 2) := by decide +kernel
theorem dX3_init_25 : decode cX3_init 25 = .ok (.iconst 0, 1) := by decide +kernel
theorem dX3_init_26 : decode cX3_init 26 = .ok (.invokespecial 11, 3) := by decide +kernel
theorem dX3_init_29 : decode cX3_init 29 = .ok (.putfield 20, 3) := by decide +kernel
theorem dX3_init_32 : decode cX3_init 32 = .ok (.aload_n 0, 1) := by decide +kernel
theorem dX3_init_33 : decode cX3_init 33 = .ok (.new 9, 3) := by decide +kernel
theorem dX3_init_36 : decode cX3_init 36 = .ok (.dup, 1) := by decide +kernel
theorem dX3_init_37 : decode cX3_init 37 = .ok (.bipush 8, 2) := by decide +kernel
theorem dX3_init_39 : decode cX3_init 39 = .ok (.iconst 0, 1) := by decide +kernel
theorem dX3_init_40 : decode cX3_init 40 = .ok (.invokespecial 11, 3) := by decide +kernel
theorem dX3_init_43 : decode cX3_init 43 = .ok (.putfield 23, 3) := by decide +kernel
theorem dX3_init_46 : decode cX3_init 46 = .ok (.aload_n 0, 1) := by decide +kernel
theorem dX3_init_47 : decode cX3_init 47 = .ok (.new 9, 3) := by decide +kernel
theorem dX3_init_50 : decode cX3_init 50 = .ok (.dup, 1) := by decide +kernel
theorem dX3_init_51 : decode cX3_init 51 = .ok (.bipush 8, 2) := by decide +kernel
theorem dX3_init_53 : decode cX3_init 53 = .ok (.iconst 0, 1) := by decide +kernel
theorem dX3_init_54 : decode cX3_init 54 = .ok (.invokespecial 11, 3) := by decide +kernel
theorem dX3_init_57 : decode cX3_init 57 = .ok (.putfield 26, 3) := by decide +kernel
theorem dX3_init_60 : decode cX3_init 60 = .ok (.aload_n 0, 1) := by decide +kernel
theorem dX3_init_61 : decode cX3_init 61 = .ok (.new 9, 3) := by decide +kernel
theorem dX3_init_64 : decode cX3_init 64 = .ok (.dup, 1) := by decide +kernel
theorem dX3_init_65 : decode cX3_init 65 = .ok (.bipush 8, 2) := by decide +kernel
theorem dX3_init_67 : decode cX3_init 67 = .ok (.iconst 0, 1) := by decide +kernel
theorem dX3_init_68 : decode cX3_init 68 = .ok (.invokespecial 11, 3) := by decide +kernel
theorem dX3_init_71 : decode cX3_init 71 = .ok (.putfield 29, 3) := by decide +kernel
theorem dX3_init_74 : decode cX3_init 74 = .ok (.aload_n 0, 1) := by decide +kernel
theorem dX3_init_75 : decode cX3_init 75 = .ok (.iconst 0, 1) := by decide +kernel
theorem dX3_init_76 : decode cX3_init 76 = .ok (.putfield 32, 3) := by decide +kernel
theorem dX3_init_79 : decode cX3_init 79 = .ok (.aload_n 0, 1) := by decide +kernel
theorem dX3_init_80 : decode cX3_init 80 = .ok (.iconst 0, 1) := by decide +kernel
theorem dX3_init_81 : decode cX3_init 81 = .ok (.putfield 36, 3) := by decide +kernel
theorem dX3_init_84 : decode cX3_init 84 = .ok (.return_, 1) := by decide +kernel
theorem dX3_add_0 : decode cX3_add 0 = .ok (.aload_n 0, 1) := by decide +kernel
theorem dX3_add_1 : decode cX3_add 1 = .ok (.getfield 14, 3) := by decide +kernel
theorem dX3_add_4 : decode cX3_add 4 = .ok (.aload_n 0, 1) := by decide +kernel
theorem dX3_add_5 : decode cX3_add 5 = .ok (.getfield 32, 3) := by decide +kernel
theorem dX3_add_8 : decode cX3_add 8 = .ok (.iload_n 1, 1) := by decide +kernel
theorem dX3_add_9 : decode cX3_add 9 = .ok (.invokevirtual 39, 3) := by decide +kernel
theorem dX3_add_12 : decode cX3_add 12 = .ok (.aload_n 0, 1) := by decide +kernel
theorem dX3_add_13 : decode cX3_add 13 = .ok (.getfield 20, 3) := by decide +kernel
theorem dX3_add_16 : decode cX3_add 16 = .ok (.aload_n 0, 1) := by decide +kernel
theorem dX3_add_17 : decode cX3_add 17 = .ok (.getfield 32, 3) := by decide +kernel
theorem dX3_add_20 : decode cX3_add 20 = .ok (.iload_n 2, 1) := by decide +kernel
theorem dX3_add_21 : decode cX3_add 21 = .ok (.invokevirtual 39, 3) := by decide +kernel
theorem dX3_add_24 : decode cX3_add 24 = .ok (.aload_n 0, 1) := by decide +kernel
theorem dX3_add_25 : decode cX3_add 25 = .ok (.getfield 23, 3) := by decide +kernel
theorem dX3_add_28 : decode cX3_add 28 = .ok (.aload_n 0, 1) := by decide +kernel
theorem dX3_add_29 : decode cX3_add 29 = .ok (.getfield 32, 3) := by decide +kernel
theorem dX3_add_32 : decode cX3_add 32 = .ok (.iload_n 3, 1) := by decide +kernel
theorem dX3_add_33 : decode cX3_add 33 = .ok (.invokevirtual 39, 3) := by decide +kernel
theorem dX3_add_36 : decode cX3_add 36 = .ok (.aload_n 0, 1) := by decide +kernel
theorem dX3_add_37 : decode cX3_add 37 = .ok (.getfield 26, 3) := by decide +kernel
theorem dX3_add_40 : decode cX3_add 40 = .ok (.aload_n 0, 1) := by decide +kernel
theorem dX3_add_41 : decode cX3_add 41 = .ok (.getfield 32, 3) := by decide +kernel
theorem dX3_add_44 : decode cX3_add 44 = .ok (.iload 4, 2) := by decide +kernel
theorem dX3_add_46 : decode cX3_add 46 = .ok (.invokevirtual 39, 3) := by decide +kernel
theorem dX3_add_49 : decode cX3_add 49 = .ok (.aload_n 0, 1) := by decide +kernel
theorem dX3_add_50 : decode cX3_add 50 = .ok (.getfield 29, 3) := by decide +kernel
theorem dX3_add_53 : decode cX3_add 53 = .ok (.aload_n 0, 1) := by decide +kernel
theorem dX3_add_54 : decode cX3_add 54 = .ok (.getfield 32, 3) := by decide +kernel
theorem dX3_add_57 : decode cX3_add 57 = .ok (.iload 5, 2) := by decide +kernel
theorem dX3_add_59 : decode cX3_add 59 = .ok (.invokevirtual 39, 3) := by decide +kernel
theorem dX3_add_62 : decode cX3_add 62 = .ok (.aload_n 0, 1) := by decide +kernel
theorem dX3_add_63 : decode cX3_add 63 = .ok (.dup, 1) := by decide +kernel
theorem dX3_add_64 : decode cX3_add 64 = .ok (.getfield 32, 3) := by decide +kernel
theorem dX3_add_67 : decode cX3_add 67 = .ok (.iconst 1, 1) := by decide +kernel
theorem dX3_add_68 : decode cX3_add 68 = .ok (.iadd, 1) := by decide +kernel
theorem dX3_add_69 : decode cX3_add 69 = .ok (.putfield 32, 3) := by decide +kernel
theorem dX3_add_72 : decode cX3_add 72 = .ok (.aload_n 0, 1) := by decide +kernel
theorem dX3_add_73 : decode cX3_add 73 = .ok (.getfield 32, 3) := by decide +kernel
theorem dX3_add_76 : decode cX3_add 76 = .ok (.ireturn, 1) := by decide +kernel
theorem dX3_clear_0 : decode cX3_clear 0 = .ok (.aload_n 0, 1) := by decide +kernel
theorem dX3_clear_1 : decode cX3_clear 1 = .ok (.iconst 0, 1) := by decide +kernel
theorem dX3_clear_2 : decode cX3_clear 2 = .ok (.putfield 32, 3) := by decide +kernel
theorem dX3_clear_5 : decode cX3_clear 5 = .ok (.aload_n 0, 1) := by decide +kernel
theorem dX3_clear_6 : decode cX3_clear 6 = .ok (.iconst 0, 1) := by decide +kernel
theorem dX3_clear_7 : decode cX3_clear 7 = .ok (.putfield 36, 3) := by decide +kernel
theorem dX3_clear_10 : decode cX3_clear 10 = .ok (.return_, 1) := by decide +kernel
theorem dX3_goOn_0 : decode cX3_goOn 0 = .ok (.aload_n 0, 1) := by decide +kernel
theorem dX3_goOn_1 : decode cX3_goOn 1 = .ok (.aload_n 0, 1) := by decide +kernel
theorem dX3_goOn_2 : decode cX3_goOn 2 = .ok (.getfield 36, 3) := by decide +kernel
theorem dX3_goOn_5 : decode cX3_goOn 5 = .ok (.iconst 1, 1) := by decide +kernel
theorem dX3_goOn_6 : decode cX3_goOn 6 = .ok (.iadd, 1) := by decide +kernel
theorem dX3_goOn_7 : decode cX3_goOn 7 = .ok (.aload_n 0, 1) := by decide +kernel
theorem dX3_goOn_8 : decode cX3_goOn 8 = .ok (.getfield 32, 3) := by decide +kernel
theorem dX3_goOn_11 : decode cX3_goOn 11 = .ok (.if_icmp .ge 12, 3) := by decide +kernel
theorem dX3_goOn_14 : decode cX3_goOn 14 = .ok (.aload_n 0, 1) := by decide +kernel
theorem dX3_goOn_15 : decode cX3_goOn 15 = .ok (.getfield 36, 3) := by decide +kernel
theorem dX3_goOn_18 : decode cX3_goOn 18 = .ok (.iconst 1, 1) := by decide +kernel
theorem dX3_goOn_19 : decode cX3_goOn 19 = .ok (.iadd, 1) := by decide +kernel
theorem dX3_goOn_20 : decode cX3_goOn 20 = .ok (.goto 4, 3) := by decide +kernel
theorem dX3_goOn_23 : decode cX3_goOn 23 = .ok (.iconst 0, 1) := by decide +kernel
theorem dX3_goOn_24 : decode cX3_goOn 24 = .ok (.putfield 36, 3) := by decide +kernel
theorem dX3_goOn_27 : decode cX3_goOn 27 = .ok (.return_, 1) := by decide +kernel
theorem dX4_init_0 : decode cX4_init 0 = .ok (.aload_n 0, 1) := by decide +kernel
theorem dX4_init_1 : decode cX4_init 1 = .ok (.invokespecial 3, 3) := by decide +kernel
theorem dX4_init_4 : decode cX4_init 4 = .ok (.aload_n 0, 1) := by decide +kernel
theorem dX4_init_5 : decode cX4_init 5 = .ok (.new 9, 3) := by decide +kernel
theorem dX4_init_8 : decode cX4_init 8 = .ok (.dup, 1) := by decide +kernel
theorem dX4_init_9 : decode cX4_init 9 = .ok (.bipush 7, 2) := by decide +kernel
theorem dX4_init_11 : decode cX4_init 11 = .ok (.iconst (-1), 1) := by decide +kernel
theorem dX4_init_12 : decode cX4_init 12 = .ok (.invokespecial 11, 3) := by decide +kernel
theorem dX4_init_15 : decode cX4_init 15 = .ok (.putfield 14, 3) := by decide +kernel
theorem dX4_init_18 : decode cX4_init 18 = .ok (.aload_n 0, 1) := by decide +kernel
theorem dX4_init_19 : decode cX4_init 19 = .ok (.new 9, 3) := by decide +kernel
theorem dX4_init_22 : decode cX4_init 22 = .ok (.dup, 1) := by decide +kernel
theorem dX4_init_23 : decode cX4_init 23 = .ok (.bipush 6, 2) := by decide +kernel
theorem dX4_init_25 : decode cX4_init 25 = .ok (.iconst (-1), 1) := by decide +kernel
theorem dX4_init_26 : decode cX4_init 26 = .ok (.invokespecial 11, 3) := by decide +kernel
theorem dX4_init_29 : decode cX4_init 29 = .ok (.putfield 20, 3) := by decide +kernel
theorem dX4_init_32 : decode cX4_init 32 = .ok (.aload_n 0, 1) := by decide +kernel
theorem dX4_init_33 : decode cX4_init 33 = .ok (.iconst 0, 1) := by decide +kernel
theorem dX4_init_34 : decode cX4_init 34 = .ok (.putfield 23, 3) := by decide +kernel
theorem dX4_init_37 : decode cX4_init 37 = .ok (.return_, 1) := by decide +kernel
theorem dX4_wrap_0 : decode cX4_wrap 0 = .ok (.iconst 0, 1) := by decide +kernel
theorem dX4_wrap_1 : decode cX4_wrap 1 = .ok (.istore_n 3, 1) := by decide +kernel
theorem dX4_wrap_2 : decode cX4_wrap 2 = .ok (.sipush 400, 3) := by decide +kernel
theorem dX4_wrap_5 : decode cX4_wrap 5 = .ok (.istore 4, 2) := by decide +kernel
theorem dX4_wrap_7 : decode cX4_wrap 7 = .ok (.iconst 0, 1) := by decide +kernel
theorem dX4_wrap_8 : decode cX4_wrap 8 = .ok (.istore 5, 2) := by decide +kernel
theorem dX4_wrap_10 : decode cX4_wrap 10 = .ok (.iload 5, 2) := by decide +kernel
theorem dX4_wrap_12 : decode cX4_wrap 12 = .ok (.bipush 6, 2) := by decide +kernel
theorem dX4_wrap_14 : decode cX4_wrap 14 = .ok (.if_icmp .ge 51, 3) := by decide +kernel
theorem dX4_wrap_17 : decode cX4_wrap 17 = .ok (.aload_n 1, 1) := by decide +kernel
theorem dX4_wrap_18 : decode cX4_wrap 18 = .ok (.iload 5, 2) := by decide +kernel
theorem dX4_wrap_20 : decode cX4_wrap 20 = .ok (.invokevirtual 27, 3) := by decide +kernel
theorem dX4_wrap_23 : decode cX4_wrap 23 = .ok (.istore 6, 2) := by decide +kernel
theorem dX4_wrap_25 : decode cX4_wrap 25 = .ok (.iload 5, 2) := by decide +kernel
theorem dX4_wrap_27 : decode cX4_wrap 27 = .ok (.iload_n 2, 1) := by decide +kernel
theorem dX4_wrap_28 : decode cX4_wrap 28 = .ok (.if_icmp .eq 31, 3) := by decide +kernel
theorem dX4_wrap_31 : decode cX4_wrap 31 = .ok (.iload 6, 2) := by decide +kernel
theorem dX4_wrap_33 : decode cX4_wrap 33 = .ok (.iconst (-1), 1) := by decide +kernel
theorem dX4_wrap_34 : decode cX4_wrap 34 = .ok (.if_icmp .eq 25, 3) := by decide +kernel
theorem dX4_wrap_37 : decode cX4_wrap 37 = .ok (.aload_n 0, 1) := by decide +kernel
theorem dX4_wrap_38 : decode cX4_wrap 38 = .ok (.getfield 20, 3) := by decide +kernel
theorem dX4_wrap_41 : decode cX4_wrap 41 = .ok (.iload_n 3, 1) := by decide +kernel
theorem dX4_wrap_42 : decode cX4_wrap 42 = .ok (.iload 6, 2) := by decide +kernel
theorem dX4_wrap_44 : decode cX4_wrap 44 = .ok (.invokevirtual 31, 3) := by decide +kernel
theorem dX4_wrap_47 : decode cX4_wrap 47 = .ok (.iinc 3 1, 3) := by decide +kernel
theorem dX4_wrap_50 : decode cX4_wrap 50 = .ok (.iload 4, 2) := by decide +kernel
theorem dX4_wrap_52 : decode cX4_wrap 52 = .ok (.iload 6, 2) := by decide +kernel
theorem dX4_wrap_54 : decode cX4_wrap 54 = .ok (.invokestatic 34, 3) := by decide +kernel
theorem dX4_wrap_57 : decode cX4_wrap 57 = .ok (.istore 4, 2) := by decide +kernel
theorem dX4_wrap_59 : decode cX4_wrap 59 = .ok (.iinc 5 1, 3) := by decide +kernel
theorem dX4_wrap_62 : decode cX4_wrap 62 = .ok (.goto (-52), 3) := by decide +kernel
theorem dX4_wrap_65 : decode cX4_wrap 65 = .ok (.iload 4, 2) := by decide +kernel
theorem dX4_wrap_67 : decode cX4_wrap 67 = .ok (.istore 5, 2) := by decide +kernel
theorem dX4_wrap_69 : decode cX4_wrap 69 = .ok (.aload_n 0, 1) := by decide +kernel
theorem dX4_wrap_70 : decode cX4_wrap 70 = .ok (.iconst 0, 1) := by decide +kernel
theorem dX4_wrap_71 : decode cX4_wrap 71 = .ok (.putfield 23, 3) := by decide +kernel
theorem dX4_wrap_74 : decode cX4_wrap 74 = .ok (.aload_n 0, 1) := by decide +kernel
theorem dX4_wrap_75 : decode cX4_wrap 75 = .ok (.getfield 23, 3) := by decide +kernel
theorem dX4_wrap_78 : decode cX4_wrap 78 = .ok (.iload_n 3, 1) := by decide +kernel
theorem dX4_wrap_79 : decode cX4_wrap 79 = .ok (.if_icmp .ge 96, 3) := by decide +kernel
theorem dX4_wrap_82 : decode cX4_wrap 82 = .ok (.aload_n 0, 1) := by decide +kernel
theorem dX4_wrap_83 : decode cX4_wrap 83 = .ok (.getfield 23, 3) := by decide +kernel
theorem dX4_wrap_86 : decode cX4_wrap 86 = .ok (.ifCond .eq 10, 3) := by decide +kernel
theorem dX4_wrap_89 : decode cX4_wrap 89 = .ok (.iload 5, 2) := by decide +kernel
theorem dX4_wrap_91 : decode cX4_wrap 91 = .ok (.iload 4, 2) := by decide +kernel
theorem dX4_wrap_93 : decode cX4_wrap 93 = .ok (.if_icmp .eq 82, 3) := by decide +kernel
theorem dX4_wrap_96 : decode cX4_wrap 96 = .ok (.aload_n 0, 1) := by decide +kernel
theorem dX4_wrap_97 : decode cX4_wrap 97 = .ok (.getfield 14, 3) := by decide +kernel
theorem dX4_wrap_100 : decode cX4_wrap 100 = .ok (.aload_n 0, 1) := by decide +kernel
theorem dX4_wrap_101 : decode cX4_wrap 101 = .ok (.getfield 23, 3) := by decide +kernel
theorem dX4_wrap_104 : decode cX4_wrap 104 = .ok (.iload 5, 2) := by decide +kernel
theorem dX4_wrap_106 : decode cX4_wrap 106 = .ok (.invokevirtual 31, 3) := by decide +kernel
theorem dX4_wrap_109 : decode cX4_wrap 109 = .ok (.iload 5, 2) := by decide +kernel
theorem dX4_wrap_111 : decode cX4_wrap 111 = .ok (.istore 6, 2) := by decide +kernel
theorem dX4_wrap_113 : decode cX4_wrap 113 = .ok (.iconst 0, 1) := by decide +kernel
theorem dX4_wrap_114 : decode cX4_wrap 114 = .ok (.istore 7, 2) := by decide +kernel
theorem dX4_wrap_116 : decode cX4_wrap 116 = .ok (.iload 7, 2) := by decide +kernel
theorem dX4_wrap_118 : decode cX4_wrap 118 = .ok (.iload_n 3, 1) := by decide +kernel
theorem dX4_wrap_119 : decode cX4_wrap 119 = .ok (.if_icmp .ge 39, 3) := by decide +kernel
theorem dX4_wrap_122 : decode cX4_wrap 122 = .ok (.iload 5, 2) := by decide +kernel
theorem dX4_wrap_124 : decode cX4_wrap 124 = .ok (.iload 6, 2) := by decide +kernel
theorem dX4_wrap_126 : decode cX4_wrap 126 = .ok (.aload_n 0, 1) := by decide +kernel
theorem dX4_wrap_127 : decode cX4_wrap 127 = .ok (.getfield 20, 3) := by decide +kernel
theorem dX4_wrap_130 : decode cX4_wrap 130 = .ok (.iload 7, 2) := by decide +kernel
theorem dX4_wrap_132 : decode cX4_wrap 132 = .ok (.invokevirtual 27, 3) := by decide +kernel
theorem dX4_wrap_135 : decode cX4_wrap 135 = .ok (.invokestatic 40, 3) := by decide +kernel
theorem dX4_wrap_138 : decode cX4_wrap 138 = .ok (.ifCond .eq 14, 3) := by decide +kernel
theorem dX4_wrap_141 : decode cX4_wrap 141 = .ok (.aload_n 0, 1) := by decide +kernel
theorem dX4_wrap_142 : decode cX4_wrap 142 = .ok (.getfield 20, 3) := by decide +kernel
theorem dX4_wrap_145 : decode cX4_wrap 145 = .ok (.iload 7, 2) := by decide +kernel
theorem dX4_wrap_147 : decode cX4_wrap 147 = .ok (.invokevirtual 27, 3) := by decide +kernel
theorem dX4_wrap_150 : decode cX4_wrap 150 = .ok (.istore 6, 2) := by decide +kernel
theorem dX4_wrap_152 : decode cX4_wrap 152 = .ok (.iinc 7 1, 3) := by decide +kernel
theorem dX4_wrap_155 : decode cX4_wrap 155 = .ok (.goto (-39), 3) := by decide +kernel
theorem dX4_wrap_158 : decode cX4_wrap 158 = .ok (.iload 6, 2) := by decide +kernel
theorem dX4_wrap_160 : decode cX4_wrap 160 = .ok (.istore 5, 2) := by decide +kernel
theorem dX4_wrap_162 : decode cX4_wrap 162 = .ok (.aload_n 0, 1) := by decide +kernel
theorem dX4_wrap_163 : decode cX4_wrap 163 = .ok (.dup, 1) := by decide +kernel
theorem dX4_wrap_164 : decode cX4_wrap 164 = .ok (.getfield 23, 3) := by decide +kernel
theorem dX4_wrap_167 : decode cX4_wrap 167 = .ok (.iconst 1, 1) := by decide +kernel
theorem dX4_wrap_168 : decode cX4_wrap 168 = .ok (.iadd, 1) := by decide +kernel
theorem dX4_wrap_169 : decode cX4_wrap 169 = .ok (.putfield 23, 3) := by decide +kernel
theorem dX4_wrap_172 : decode cX4_wrap 172 = .ok (.goto (-98), 3) := by decide +kernel
theorem dX4_wrap_175 : decode cX4_wrap 175 = .ok (.aload_n 0, 1) := by decide +kernel
theorem dX4_wrap_176 : decode cX4_wrap 176 = .ok (.getfield 14, 3) := by decide +kernel
theorem dX4_wrap_179 : decode cX4_wrap 179 = .ok (.aload_n 0, 1) := by decide +kernel
theorem dX4_wrap_180 : decode cX4_wrap 180 = .ok (.getfield 23, 3) := by decide +kernel
theorem dX4_wrap_183 : decode cX4_wrap 183 = .ok (.iload 4, 2) := by decide +kernel
theorem dX4_wrap_185 : decode cX4_wrap 185 = .ok (.invokevirtual 31, 3) := by decide +kernel
theorem dX4_wrap_188 : decode cX4_wrap 188 = .ok (.return_, 1) := by decide +kernel
theorem dX4_isFurtherOut_0 : decode cX4_isFurtherOut 0 = .ok (.iload_n 1, 1) := by decide +kernel
theorem dX4_isFurtherOut_1 : decode cX4_isFurtherOut 1 = .ok (.bipush 20, 2) := by decide +kernel
theorem dX4_isFurtherOut_3 : decode cX4_isFurtherOut 3 = .ok (.irem, 1) := by decide +kernel
theorem dX4_isFurtherOut_4 : decode cX4_isFurtherOut 4 = .ok (.iload_n 0, 1) := by decide +kernel
theorem dX4_isFurtherOut_5 : decode cX4_isFurtherOut 5 = .ok (.bipush 20, 2) := by decide +kernel
theorem dX4_isFurtherOut_7 : decode cX4_isFurtherOut 7 = .ok (.irem, 1) := by decide +kernel
theorem dX4_isFurtherOut_8 : decode cX4_isFurtherOut 8 = .ok (.isub, 1) := by decide +kernel
theorem dX4_isFurtherOut_9 : decode cX4_isFurtherOut 9 = .ok (.istore_n 3, 1) := by decide +kernel
theorem dX4_isFurtherOut_10 : decode cX4_isFurtherOut 10 = .ok (.iload_n 1, 1) := by decide +kernel
theorem dX4_isFurtherOut_11 : decode cX4_isFurtherOut 11 = .ok (.bipush 20, 2) := by decide +kernel
theorem dX4_isFurtherOut_13 : decode cX4_isFurtherOut 13 = .ok (.idiv, 1) := by decide +kernel
theorem dX4_isFurtherOut_14 : decode cX4_isFurtherOut 14 = .ok (.iload_n 0, 1) := by decide +kernel
theorem dX4_isFurtherOut_15 : decode cX4_isFurtherOut 15 = .ok (.bipush 20, 2) := by decide +kernel
theorem dX4_isFurtherOut_17 : decode cX4_isFurtherOut 17 = .ok (.idiv, 1) := by decide +kernel
theorem dX4_isFurtherOut_18 : decode cX4_isFurtherOut 18 = .ok (.isub, 1) := by decide +kernel
theorem dX4_isFurtherOut_19 : decode cX4_isFurtherOut 19 = .ok (.istore 4, 2) := by decide +kernel
theorem dX4_isFurtherOut_21 : decode cX4_isFurtherOut 21 = .ok (.iload_n 2, 1) := by decide +kernel
theorem dX4_isFurtherOut_22 : decode cX4_isFurtherOut 22 = .ok (.bipush 20, 2) := by decide +kernel
theorem dX4_isFurtherOut_24 : decode cX4_isFurtherOut 24 = .ok (.irem, 1) := by decide +kernel
theorem dX4_isFurtherOut_25 : decode cX4_isFurtherOut 25 = .ok (.iload_n 0, 1) := by decide +kernel
theorem dX4_isFurtherOut_26 : decode cX4_isFurtherOut 26 = .ok (.bipush 20, 2) := by decide +kernel
theorem dX4_isFurtherOut_28 : decode cX4_isFurtherOut 28 = .ok (.irem, 1) := by decide +kernel
theorem dX4_isFurtherOut_29 : decode cX4_isFurtherOut 29 = .ok (.isub, 1) := by decide +kernel
theorem dX4_isFurtherOut_30 : decode cX4_isFurtherOut 30 = .ok (.istore 5, 2) := by decide +kernel
theorem dX4_isFurtherOut_32 : decode cX4_isFurtherOut 32 = .ok (.iload_n 2, 1) := by decide +kernel
theorem dX4_isFurtherOut_33 : decode cX4_isFurtherOut 33 = .ok (.bipush 20, 2) := by decide +kernel
theorem dX4_isFurtherOut_35 : decode cX4_isFurtherOut 35 = .ok (.idiv, 1) := by decide +kernel
theorem dX4_isFurtherOut_36 : decode cX4_isFurtherOut 36 = .ok (.iload_n 0, 1) := by decide +kernel
theorem dX4_isFurtherOut_37 : decode cX4_isFurtherOut 37 = .ok (.bipush 20, 2) := by decide +kernel
theorem dX4_isFurtherOut_39 : decode cX4_isFurtherOut 39 = .ok (.idiv, 1) := by decide +kernel
theorem dX4_isFurtherOut_40 : decode cX4_isFurtherOut 40 = .ok (.isub, 1) := by decide +kernel
theorem dX4_isFurtherOut_41 : decode cX4_isFurtherOut 41 = .ok (.istore 6, 2) := by decide +kernel
theorem dX4_isFurtherOut_43 : decode cX4_isFurtherOut 43 = .ok (.iload_n 3, 1) := by decide +kernel
theorem dX4_isFurtherOut_44 : decode cX4_isFurtherOut 44 = .ok (.iload 6, 2) := by decide +kernel
theorem dX4_isFurtherOut_46 : decode cX4_isFurtherOut 46 = .ok (.imul, 1) := by decide +kernel
theorem dX4_isFurtherOut_47 : decode cX4_isFurtherOut 47 = .ok (.iload 4, 2) := by decide +kernel
theorem dX4_isFurtherOut_49 : decode cX4_isFurtherOut 49 = .ok (.iload 5, 2) := by decide +kernel
theorem dX4_isFurtherOut_51 : decode cX4_isFurtherOut 51 = .ok (.imul, 1) := by decide +kernel
theorem dX4_isFurtherOut_52 : decode cX4_isFurtherOut 52 = .ok (.isub, 1) := by decide +kernel
theorem dX4_isFurtherOut_53 : decode cX4_isFurtherOut 53 = .ok (.istore 7, 2) := by decide +kernel
theorem dX4_isFurtherOut_55 : decode cX4_isFurtherOut 55 = .ok (.iload 7, 2) := by decide +kernel
theorem dX4_isFurtherOut_57 : decode cX4_isFurtherOut 57 = .ok (.ifCond .lt 31, 3) := by decide +kernel
theorem dX4_isFurtherOut_60 : decode cX4_isFurtherOut 60 = .ok (.iload 7, 2) := by decide +kernel
theorem dX4_isFurtherOut_62 : decode cX4_isFurtherOut 62 = .ok (.ifCond .ne 30, 3) := by decide +kernel
theorem dX4_isFurtherOut_65 : decode cX4_isFurtherOut 65 = .ok (.iload 5, 2) := by decide +kernel
theorem dX4_isFurtherOut_67 : decode cX4_isFurtherOut 67 = .ok (.iload 5, 2) := by decide +kernel
theorem dX4_isFurtherOut_69 : decode cX4_isFurtherOut 69 = .ok (.imul, 1) := by decide +kernel
theorem dX4_isFurtherOut_70 : decode cX4_isFurtherOut 70 = .ok (.iload 6, 2) := by decide +kernel
theorem dX4_isFurtherOut_72 : decode cX4_isFurtherOut 72 = .ok (.iload 6, 2) := by decide +kernel
theorem dX4_isFurtherOut_74 : decode cX4_isFurtherOut 74 = .ok (.imul, 1) := by decide +kernel
theorem dX4_isFurtherOut_75 : decode cX4_isFurtherOut 75 = .ok (.iadd, 1) := by decide +kernel
theorem dX4_isFurtherOut_76 : decode cX4_isFurtherOut 76 = .ok (.iload_n 3, 1) := by decide +kernel
theorem dX4_isFurtherOut_77 : decode cX4_isFurtherOut 77 = .ok (.iload_n 3, 1) := by decide +kernel
theorem dX4_isFurtherOut_78 : decode cX4_isFurtherOut 78 = .ok (.imul, 1) := by decide +kernel
theorem dX4_isFurtherOut_79 : decode cX4_isFurtherOut 79 = .ok (.iload 4, 2) := by decide +kernel
theorem dX4_isFurtherOut_81 : decode cX4_isFurtherOut 81 = .ok (.iload 4, 2) := by decide +kernel
theorem dX4_isFurtherOut_83 : decode cX4_isFurtherOut 83 = .ok (.imul, 1) := by decide +kernel
theorem dX4_isFurtherOut_84 : decode cX4_isFurtherOut 84 = .ok (.iadd, 1) := by decide +kernel
theorem dX4_isFurtherOut_85 : decode cX4_isFurtherOut 85 = .ok (.if_icmp .le 7, 3) := by decide +kernel
theorem dX4_isFurtherOut_88 : decode cX4_isFurtherOut 88 = .ok (.iconst 1, 1) := by decide +kernel
theorem dX4_isFurtherOut_89 : decode cX4_isFurtherOut 89 = .ok (.goto 4, 3) := by decide +kernel
theorem dX4_isFurtherOut_92 : decode cX4_isFurtherOut 92 = .ok (.iconst 0, 1) := by decide +kernel
theorem dX4_isFurtherOut_93 : decode cX4_isFurtherOut 93 = .ok (.ireturn, 1) := by decide +kernel
theorem dX4_edgeByWay_0 : decode cX4_edgeByWay 0 = .ok (.iload_n 1, 1) := by decide +kernel
theorem dX4_edgeByWay_1 : decode cX4_edgeByWay 1 = .ok (.bipush 20, 2) := by decide +kernel
theorem dX4_edgeByWay_3 : decode cX4_edgeByWay 3 = .ok (.irem, 1) := by decide +kernel
theorem dX4_edgeByWay_4 : decode cX4_edgeByWay 4 = .ok (.iload_n 0, 1) := by decide +kernel
theorem dX4_edgeByWay_5 : decode cX4_edgeByWay 5 = .ok (.bipush 20, 2) := by decide +kernel
theorem dX4_edgeByWay_7 : decode cX4_edgeByWay 7 = .ok (.irem, 1) := by decide +kernel
theorem dX4_edgeByWay_8 : decode cX4_edgeByWay 8 = .ok (.isub, 1) := by decide +kernel
theorem dX4_edgeByWay_9 : decode cX4_edgeByWay 9 = .ok (.iload_n 3, 1) := by decide +kernel
theorem dX4_edgeByWay_10 : decode cX4_edgeByWay 10 = .ok (.iload 4, 2) := by decide +kernel
theorem dX4_edgeByWay_12 : decode cX4_edgeByWay 12 = .ok (.iload_n 0, 1) := by decide +kernel
theorem dX4_edgeByWay_13 : decode cX4_edgeByWay 13 = .ok (.bipush 20, 2) := by decide +kernel
theorem dX4_edgeByWay_15 : decode cX4_edgeByWay 15 = .ok (.idiv, 1) := by decide +kernel
theorem dX4_edgeByWay_16 : decode cX4_edgeByWay 16 = .ok (.imul, 1) := by decide +kernel
theorem dX4_edgeByWay_17 : decode cX4_edgeByWay 17 = .ok (.isub, 1) := by decide +kernel
theorem dX4_edgeByWay_18 : decode cX4_edgeByWay 18 = .ok (.imul, 1) := by decide +kernel
theorem dX4_edgeByWay_19 : decode cX4_edgeByWay 19 = .ok (.iload_n 1, 1) := by decide +kernel
theorem dX4_edgeByWay_20 : decode cX4_edgeByWay 20 = .ok (.bipush 20, 2) := by decide +kernel
theorem dX4_edgeByWay_22 : decode cX4_edgeByWay 22 = .ok (.idiv, 1) := by decide +kernel
theorem dX4_edgeByWay_23 : decode cX4_edgeByWay 23 = .ok (.iload_n 0, 1) := by decide +kernel
theorem dX4_edgeByWay_24 : decode cX4_edgeByWay 24 = .ok (.bipush 20, 2) := by decide +kernel
theorem dX4_edgeByWay_26 : decode cX4_edgeByWay 26 = .ok (.idiv, 1) := by decide +kernel
theorem dX4_edgeByWay_27 : decode cX4_edgeByWay 27 = .ok (.isub, 1) := by decide +kernel
theorem dX4_edgeByWay_28 : decode cX4_edgeByWay 28 = .ok (.iload_n 2, 1) := by decide +kernel
theorem dX4_edgeByWay_29 : decode cX4_edgeByWay 29 = .ok (.iload 4, 2) := by decide +kernel
theorem dX4_edgeByWay_31 : decode cX4_edgeByWay 31 = .ok (.iload_n 0, 1) := by decide +kernel
theorem dX4_edgeByWay_32 : decode cX4_edgeByWay 32 = .ok (.bipush 20, 2) := by decide +kernel
theorem dX4_edgeByWay_34 : decode cX4_edgeByWay 34 = .ok (.irem, 1) := by decide +kernel
theorem dX4_edgeByWay_35 : decode cX4_edgeByWay 35 = .ok (.imul, 1) := by decide +kernel
theorem dX4_edgeByWay_36 : decode cX4_edgeByWay 36 = .ok (.isub, 1) := by decide +kernel
theorem dX4_edgeByWay_37 : decode cX4_edgeByWay 37 = .ok (.imul, 1) := by decide +kernel
theorem dX4_edgeByWay_38 : decode cX4_edgeByWay 38 = .ok (.isub, 1) := by decide +kernel
theorem dX4_edgeByWay_39 : decode cX4_edgeByWay 39 = .ok (.ireturn, 1) := by decide +kernel
theorem dX4_squareOfEdge_0 : decode cX4_squareOfEdge 0 = .ok (.iload_n 1, 1) := by decide +kernel
theorem dX4_squareOfEdge_1 : decode cX4_squareOfEdge 1 = .ok (.bipush 20, 2) := by decide +kernel
theorem dX4_squareOfEdge_3 : decode cX4_squareOfEdge 3 = .ok (.irem, 1) := by decide +kernel
theorem dX4_squareOfEdge_4 : decode cX4_squareOfEdge 4 = .ok (.iload_n 0, 1) := by decide +kernel
theorem dX4_squareOfEdge_5 : decode cX4_squareOfEdge 5 = .ok (.bipush 20, 2) := by decide +kernel
theorem dX4_squareOfEdge_7 : decode cX4_squareOfEdge 7 = .ok (.irem, 1) := by decide +kernel
theorem dX4_squareOfEdge_8 : decode cX4_squareOfEdge 8 = .ok (.isub, 1) := by decide +kernel
theorem dX4_squareOfEdge_9 : decode cX4_squareOfEdge 9 = .ok (.istore_n 2, 1) := by decide +kernel
theorem dX4_squareOfEdge_10 : decode cX4_squareOfEdge 10 = .ok (.iload_n 1, 1) := by decide +kernel
theorem dX4_squareOfEdge_11 : decode cX4_squareOfEdge 11 = .ok (.bipush 20, 2) := by decide +kernel
theorem dX4_squareOfEdge_13 : decode cX4_squareOfEdge 13 = .ok (.idiv, 1) := by decide +kernel
theorem dX4_squareOfEdge_14 : decode cX4_squareOfEdge 14 = .ok (.iload_n 0, 1) := by decide +kernel
theorem dX4_squareOfEdge_15 : decode cX4_squareOfEdge 15 = .ok (.bipush 20, 2) := by decide +kernel
theorem dX4_squareOfEdge_17 : decode cX4_squareOfEdge 17 = .ok (.idiv, 1) := by decide +kernel
theorem dX4_squareOfEdge_18 : decode cX4_squareOfEdge 18 = .ok (.isub, 1) := by decide +kernel
theorem dX4_squareOfEdge_19 : decode cX4_squareOfEdge 19 = .ok (.istore_n 3, 1) := by decide +kernel
theorem dX4_squareOfEdge_20 : decode cX4_squareOfEdge 20 = .ok (.iload_n 2, 1) := by decide +kernel
theorem dX4_squareOfEdge_21 : decode cX4_squareOfEdge 21 = .ok (.iload_n 2, 1) := by decide +kernel
theorem dX4_squareOfEdge_22 : decode cX4_squareOfEdge 22 = .ok (.imul, 1) := by decide +kernel
theorem dX4_squareOfEdge_23 : decode cX4_squareOfEdge 23 = .ok (.iload_n 3, 1) := by decide +kernel
theorem dX4_squareOfEdge_24 : decode cX4_squareOfEdge 24 = .ok (.iload_n 3, 1) := by decide +kernel
theorem dX4_squareOfEdge_25 : decode cX4_squareOfEdge 25 = .ok (.imul, 1) := by decide +kernel
theorem dX4_squareOfEdge_26 : decode cX4_squareOfEdge 26 = .ok (.iadd, 1) := by decide +kernel
theorem dX4_squareOfEdge_27 : decode cX4_squareOfEdge 27 = .ok (.ireturn, 1) := by decide +kernel
theorem dX4_holds_0 : decode cX4_holds 0 = .ok (.ldc 46, 2) := by decide +kernel
theorem dX4_holds_2 : decode cX4_holds 2 = .ok (.istore 4, 2) := by decide +kernel
theorem dX4_holds_4 : decode cX4_holds 4 = .ok (.ldc 47, 2) := by decide +kernel
theorem dX4_holds_6 : decode cX4_holds 6 = .ok (.istore 5, 2) := by decide +kernel
theorem dX4_holds_8 : decode cX4_holds 8 = .ok (.ldc 46, 2) := by decide +kernel
theorem dX4_holds_10 : decode cX4_holds 10 = .ok (.istore 6, 2) := by decide +kernel
theorem dX4_holds_12 : decode cX4_holds 12 = .ok (.ldc 47, 2) := by decide +kernel
theorem dX4_holds_14 : decode cX4_holds 14 = .ok (.istore 7, 2) := by decide +kernel
theorem dX4_holds_16 : decode cX4_holds 16 = .ok (.iconst 0, 1) := by decide +kernel
theorem dX4_holds_17 : decode cX4_holds 17 = .ok (.istore 8, 2) := by decide +kernel
theorem dX4_holds_19 : decode cX4_holds 19 = .ok (.iload 8, 2) := by decide +kernel
theorem dX4_holds_21 : decode cX4_holds 21 = .ok (.aload_n 0, 1) := by decide +kernel
theorem dX4_holds_22 : decode cX4_holds 22 = .ok (.getfield 23, 3) := by decide +kernel
theorem dX4_holds_25 : decode cX4_holds 25 = .ok (.if_icmp .ge 100, 3) := by decide +kernel
theorem dX4_holds_28 : decode cX4_holds 28 = .ok (.aload_n 0, 1) := by decide +kernel
theorem dX4_holds_29 : decode cX4_holds 29 = .ok (.getfield 14, 3) := by decide +kernel
theorem dX4_holds_32 : decode cX4_holds 32 = .ok (.iload 8, 2) := by decide +kernel
theorem dX4_holds_34 : decode cX4_holds 34 = .ok (.invokevirtual 27, 3) := by decide +kernel
theorem dX4_holds_37 : decode cX4_holds 37 = .ok (.istore 9, 2) := by decide +kernel
theorem dX4_holds_39 : decode cX4_holds 39 = .ok (.iload 9, 2) := by decide +kernel
theorem dX4_holds_41 : decode cX4_holds 41 = .ok (.aload_n 0, 1) := by decide +kernel
theorem dX4_holds_42 : decode cX4_holds 42 = .ok (.getfield 14, 3) := by decide +kernel
theorem dX4_holds_45 : decode cX4_holds 45 = .ok (.iload 8, 2) := by decide +kernel
theorem dX4_holds_47 : decode cX4_holds 47 = .ok (.iconst 1, 1) := by decide +kernel
theorem dX4_holds_48 : decode cX4_holds 48 = .ok (.iadd, 1) := by decide +kernel
theorem dX4_holds_49 : decode cX4_holds 49 = .ok (.invokevirtual 27, 3) := by decide +kernel
theorem dX4_holds_52 : decode cX4_holds 52 = .ok (.iload_n 1, 1) := by decide +kernel
theorem dX4_holds_53 : decode cX4_holds 53 = .ok (.iload_n 2, 1) := by decide +kernel
theorem dX4_holds_54 : decode cX4_holds 54 = .ok (.iload_n 3, 1) := by decide +kernel
theorem dX4_holds_55 : decode cX4_holds 55 = .ok (.invokestatic 48, 3) := by decide +kernel
theorem dX4_holds_58 : decode cX4_holds 58 = .ok (.ifCond .ge 5, 3) := by decide +kernel
theorem dX4_holds_61 : decode cX4_holds 61 = .ok (.iconst 0, 1) := by decide +kernel
theorem dX4_holds_62 : decode cX4_holds 62 = .ok (.ireturn, 1) := by decide +kernel
theorem dX4_holds_63 : decode cX4_holds 63 = .ok (.iload 4, 2) := by decide +kernel
theorem dX4_holds_65 : decode cX4_holds 65 = .ok (.iload_n 3, 1) := by decide +kernel
theorem dX4_holds_66 : decode cX4_holds 66 = .ok (.iload 9, 2) := by decide +kernel
theorem dX4_holds_68 : decode cX4_holds 68 = .ok (.bipush 20, 2) := by decide +kernel
theorem dX4_holds_70 : decode cX4_holds 70 = .ok (.irem, 1) := by decide +kernel
theorem dX4_holds_71 : decode cX4_holds 71 = .ok (.imul, 1) := by decide +kernel
theorem dX4_holds_72 : decode cX4_holds 72 = .ok (.invokestatic 34, 3) := by decide +kernel
theorem dX4_holds_75 : decode cX4_holds 75 = .ok (.istore 4, 2) := by decide +kernel
theorem dX4_holds_77 : decode cX4_holds 77 = .ok (.iload 5, 2) := by decide +kernel
theorem dX4_holds_79 : decode cX4_holds 79 = .ok (.iload_n 3, 1) := by decide +kernel
theorem dX4_holds_80 : decode cX4_holds 80 = .ok (.iload 9, 2) := by decide +kernel
theorem dX4_holds_82 : decode cX4_holds 82 = .ok (.bipush 20, 2) := by decide +kernel
theorem dX4_holds_84 : decode cX4_holds 84 = .ok (.irem, 1) := by decide +kernel
theorem dX4_holds_85 : decode cX4_holds 85 = .ok (.imul, 1) := by decide +kernel
theorem dX4_holds_86 : decode cX4_holds 86 = .ok (.invokestatic 52, 3) := by decide +kernel
theorem dX4_holds_89 : decode cX4_holds 89 = .ok (.istore 5, 2) := by decide +kernel
theorem dX4_holds_91 : decode cX4_holds 91 = .ok (.iload 6, 2) := by decide +kernel
theorem dX4_holds_93 : decode cX4_holds 93 = .ok (.iload_n 3, 1) := by decide +kernel
theorem dX4_holds_94 : decode cX4_holds 94 = .ok (.iload 9, 2) := by decide +kernel
theorem dX4_holds_96 : decode cX4_holds 96 = .ok (.bipush 20, 2) := by decide +kernel
theorem dX4_holds_98 : decode cX4_holds 98 = .ok (.idiv, 1) := by decide +kernel
theorem dX4_holds_99 : decode cX4_holds 99 = .ok (.imul, 1) := by decide +kernel
theorem dX4_holds_100 : decode cX4_holds 100 = .ok (.invokestatic 34, 3) := by decide +kernel
theorem dX4_holds_103 : decode cX4_holds 103 = .ok (.istore 6, 2) := by decide +kernel
theorem dX4_holds_105 : decode cX4_holds 105 = .ok (.iload 7, 2) := by decide +kernel
theorem dX4_holds_107 : decode cX4_holds 107 = .ok (.iload_n 3, 1) := by decide +kernel
theorem dX4_holds_108 : decode cX4_holds 108 = .ok (.iload 9, 2) := by decide +kernel
theorem dX4_holds_110 : decode cX4_holds 110 = .ok (.bipush 20, 2) := by decide +kernel
theorem dX4_holds_112 : decode cX4_holds 112 = .ok (.idiv, 1) := by decide +kernel
theorem dX4_holds_113 : decode cX4_holds 113 = .ok (.imul, 1) := by decide +kernel
theorem dX4_holds_114 : decode cX4_holds 114 = .ok (.invokestatic 52, 3) := by decide +kernel
theorem dX4_holds_117 : decode cX4_holds 117 = .ok (.istore 7, 2) := by decide +kernel
theorem dX4_holds_119 : decode cX4_holds 119 = .ok (.iinc 8 1, 3) := by decide +kernel
theorem dX4_holds_122 : decode cX4_holds 122 = .ok (.goto (-103), 3) := by decide +kernel
theorem dX4_holds_125 : decode cX4_holds 125 = .ok (.iload_n 1, 1) := by decide +kernel
theorem dX4_holds_126 : decode cX4_holds 126 = .ok (.iload 4, 2) := by decide +kernel
theorem dX4_holds_128 : decode cX4_holds 128 = .ok (.iload 5, 2) := by decide +kernel
theorem dX4_holds_130 : decode cX4_holds 130 = .ok (.invokestatic 55, 3) := by decide +kernel
theorem dX4_holds_133 : decode cX4_holds 133 = .ok (.ifCond .eq 18, 3) := by decide +kernel
theorem dX4_holds_136 : decode cX4_holds 136 = .ok (.iload_n 2, 1) := by decide +kernel
theorem dX4_holds_137 : decode cX4_holds 137 = .ok (.iload 6, 2) := by decide +kernel
theorem dX4_holds_139 : decode cX4_holds 139 = .ok (.iload 7, 2) := by decide +kernel
theorem dX4_holds_141 : decode cX4_holds 141 = .ok (.invokestatic 55, 3) := by decide +kernel
theorem dX4_holds_144 : decode cX4_holds 144 = .ok (.ifCond .eq 7, 3) := by decide +kernel
theorem dX4_holds_147 : decode cX4_holds 147 = .ok (.iconst 1, 1) := by decide +kernel
theorem dX4_holds_148 : decode cX4_holds 148 = .ok (.goto 4, 3) := by decide +kernel
theorem dX4_holds_151 : decode cX4_holds 151 = .ok (.iconst 0, 1) := by decide +kernel
theorem dX4_holds_152 : decode cX4_holds 152 = .ok (.ireturn, 1) := by decide +kernel
theorem dX4_leastSquare_0 : decode cX4_leastSquare 0 = .ok (.fconst 0, 1) := by decide +kernel
theorem dX4_leastSquare_1 : decode cX4_leastSquare 1 = .ok (.fstore 4, 2) := by decide +kernel
theorem dX4_leastSquare_3 : decode cX4_leastSquare 3 = .ok (.iconst 0, 1) := by decide +kernel
theorem dX4_leastSquare_4 : decode cX4_leastSquare 4 = .ok (.istore 5, 2) := by decide +kernel
theorem dX4_leastSquare_6 : decode cX4_leastSquare 6 = .ok (.iload 5, 2) := by decide +kernel
theorem dX4_leastSquare_8 : decode cX4_leastSquare 8 = .ok (.aload_n 0, 1) := by decide +kernel
theorem dX4_leastSquare_9 : decode cX4_leastSquare 9 = .ok (.getfield 23, 3) := by decide +kernel
theorem dX4_leastSquare_12 : decode cX4_leastSquare 12 = .ok (.if_icmp .ge 102, 3) := by decide +kernel
theorem dX4_leastSquare_15 : decode cX4_leastSquare 15 = .ok (.aload_n 0, 1) := by decide +kernel
theorem dX4_leastSquare_16 : decode cX4_leastSquare 16 = .ok (.getfield 14, 3) := by decide +kernel
theorem dX4_leastSquare_19 : decode cX4_leastSquare 19 = .ok (.iload 5, 2) := by decide +kernel
theorem dX4_leastSquare_21 : decode cX4_leastSquare 21 = .ok (.invokevirtual 27, 3) := by decide +kernel
theorem dX4_leastSquare_24 : decode cX4_leastSquare 24 = .ok (.istore 6, 2) := by decide +kernel
theorem dX4_leastSquare_26 : decode cX4_leastSquare 26 = .ok (.aload_n 0, 1) := by decide +kernel
theorem dX4_leastSquare_27 : decode cX4_leastSquare 27 = .ok (.getfield 14, 3) := by decide +kernel
theorem dX4_leastSquare_30 : decode cX4_leastSquare 30 = .ok (.iload 5, 2) := by decide +kernel
theorem dX4_leastSquare_32 : decode cX4_leastSquare 32 = .ok (.iconst 1, 1) := by decide +kernel
theorem dX4_leastSquare_33 : decode cX4_leastSquare 33 = .ok (.iadd, 1) := by decide +kernel
theorem dX4_leastSquare_34 : decode cX4_leastSquare 34 = .ok (.invokevirtual 27, 3) := by decide +kernel
theorem dX4_leastSquare_37 : decode cX4_leastSquare 37 = .ok (.istore 7, 2) := by decide +kernel
theorem dX4_leastSquare_39 : decode cX4_leastSquare 39 = .ok (.iload 6, 2) := by decide +kernel
theorem dX4_leastSquare_41 : decode cX4_leastSquare 41 = .ok (.iload 7, 2) := by decide +kernel
theorem dX4_leastSquare_43 : decode cX4_leastSquare 43 = .ok (.iload_n 1, 1) := by decide +kernel
theorem dX4_leastSquare_44 : decode cX4_leastSquare 44 = .ok (.iload_n 2, 1) := by decide +kernel
theorem dX4_leastSquare_45 : decode cX4_leastSquare 45 = .ok (.iload_n 3, 1) := by decide +kernel
theorem dX4_leastSquare_46 : decode cX4_leastSquare 46 = .ok (.invokestatic 48, 3) := by decide +kernel
theorem dX4_leastSquare_49 : decode cX4_leastSquare 49 = .ok (.i2l, 1) := by decide +kernel
theorem dX4_leastSquare_50 : decode cX4_leastSquare 50 = .ok (.lstore 8, 2) := by decide +kernel
theorem dX4_leastSquare_52 : decode cX4_leastSquare 52 = .ok (.iload 6, 2) := by decide +kernel
theorem dX4_leastSquare_54 : decode cX4_leastSquare 54 = .ok (.iload 7, 2) := by decide +kernel
theorem dX4_leastSquare_56 : decode cX4_leastSquare 56 = .ok (.invokestatic 58, 3) := by decide +kernel
theorem dX4_leastSquare_59 : decode cX4_leastSquare 59 = .ok (.i2l, 1) := by decide +kernel
theorem dX4_leastSquare_60 : decode cX4_leastSquare 60 = .ok (.iload_n 3, 1) := by decide +kernel
theorem dX4_leastSquare_61 : decode cX4_leastSquare 61 = .ok (.i2l, 1) := by decide +kernel
theorem dX4_leastSquare_62 : decode cX4_leastSquare 62 = .ok (.lmul, 1) := by decide +kernel
theorem dX4_leastSquare_63 : decode cX4_leastSquare 63 = .ok (.iload_n 3, 1) := by decide +kernel
theorem dX4_leastSquare_64 : decode cX4_leastSquare 64 = .ok (.i2l, 1) := by decide +kernel
theorem dX4_leastSquare_65 : decode cX4_leastSquare 65 = .ok (.lmul, 1) := by decide +kernel
theorem dX4_leastSquare_66 : decode cX4_leastSquare 66 = .ok (.lstore 10, 2) := by decide +kernel
theorem dX4_leastSquare_68 : decode cX4_leastSquare 68 = .ok (.lload 10, 2) := by decide +kernel
theorem dX4_leastSquare_70 : decode cX4_leastSquare 70 = .ok (.lconst 0, 1) := by decide +kernel
theorem dX4_leastSquare_71 : decode cX4_leastSquare 71 = .ok (.lcmp, 1) := by decide +kernel
theorem dX4_leastSquare_72 : decode cX4_leastSquare 72 = .ok (.ifCond .gt 7, 3) := by decide +kernel
theorem dX4_leastSquare_75 : decode cX4_leastSquare 75 = .ok (.fconst 0, 1) := by decide +kernel
theorem dX4_leastSquare_76 : decode cX4_leastSquare 76 = .ok (.goto 13, 3) := by decide +kernel
theorem dX4_leastSquare_79 : decode cX4_leastSquare 79 = .ok (.lload 8, 2) := by decide +kernel
theorem dX4_leastSquare_81 : decode cX4_leastSquare 81 = .ok (.lload 8, 2) := by decide +kernel
theorem dX4_leastSquare_83 : decode cX4_leastSquare 83 = .ok (.lmul, 1) := by decide +kernel
theorem dX4_leastSquare_84 : decode cX4_leastSquare 84 = .ok (.l2f, 1) := by decide +kernel
theorem dX4_leastSquare_85 : decode cX4_leastSquare 85 = .ok (.lload 10, 2) := by decide +kernel
theorem dX4_leastSquare_87 : decode cX4_leastSquare 87 = .ok (.l2f, 1) := by decide +kernel
theorem dX4_leastSquare_88 : decode cX4_leastSquare 88 = .ok (.fdiv, 1) := by decide +kernel
theorem dX4_leastSquare_89 : decode cX4_leastSquare 89 = .ok (.fstore 12, 2) := by decide +kernel
theorem dX4_leastSquare_91 : decode cX4_leastSquare 91 = .ok (.iload 5, 2) := by decide +kernel
theorem dX4_leastSquare_93 : decode cX4_leastSquare 93 = .ok (.ifCond .eq 11, 3) := by decide +kernel
theorem dX4_leastSquare_96 : decode cX4_leastSquare 96 = .ok (.fload 12, 2) := by decide +kernel
theorem dX4_leastSquare_98 : decode cX4_leastSquare 98 = .ok (.fload 4, 2) := by decide +kernel
theorem dX4_leastSquare_100 : decode cX4_leastSquare 100 = .ok (.fcmp .g, 1) := by decide +kernel
theorem dX4_leastSquare_101 : decode cX4_leastSquare 101 = .ok (.ifCond .ge 7, 3) := by decide +kernel
theorem dX4_leastSquare_104 : decode cX4_leastSquare 104 = .ok (.fload 12, 2) := by decide +kernel
theorem dX4_leastSquare_106 : decode cX4_leastSquare 106 = .ok (.fstore 4, 2) := by decide +kernel
theorem dX4_leastSquare_108 : decode cX4_leastSquare 108 = .ok (.iinc 5 1, 3) := by decide +kernel
theorem dX4_leastSquare_111 : decode cX4_leastSquare 111 = .ok (.goto (-105), 3) := by decide +kernel
theorem dX4_leastSquare_114 : decode cX4_leastSquare 114 = .ok (.fload 4, 2) := by decide +kernel
theorem dX4_leastSquare_116 : decode cX4_leastSquare 116 = .ok (.freturn, 1) := by decide +kernel
theorem dX5_init_0 : decode cX5_init 0 = .ok (.aload_n 0, 1) := by decide +kernel
theorem dX5_init_1 : decode cX5_init 1 = .ok (.invokespecial 3, 3) := by decide +kernel
theorem dX5_init_4 : decode cX5_init 4 = .ok (.aload_n 0, 1) := by decide +kernel
theorem dX5_init_5 : decode cX5_init 5 = .ok (.new 9, 3) := by decide +kernel
theorem dX5_init_8 : decode cX5_init 8 = .ok (.dup, 1) := by decide +kernel
theorem dX5_init_9 : decode cX5_init 9 = .ok (.sipush 400, 3) := by decide +kernel
theorem dX5_init_12 : decode cX5_init 12 = .ok (.iconst 0, 1) := by decide +kernel
theorem dX5_init_13 : decode cX5_init 13 = .ok (.invokespecial 11, 3) := by decide +kernel
theorem dX5_init_16 : decode cX5_init 16 = .ok (.putfield 14, 3) := by decide +kernel
theorem dX5_init_19 : decode cX5_init 19 = .ok (.aload_n 0, 1) := by decide +kernel
theorem dX5_init_20 : decode cX5_init 20 = .ok (.new 9, 3) := by decide +kernel
theorem dX5_init_23 : decode cX5_init 23 = .ok (.dup, 1) := by decide +kernel
theorem dX5_init_24 : decode cX5_init 24 = .ok (.sipush 400, 3) := by decide +kernel
theorem dX5_init_27 : decode cX5_init 27 = .ok (.bipush 99, 2) := by decide +kernel
theorem dX5_init_29 : decode cX5_init 29 = .ok (.invokespecial 11, 3) := by decide +kernel
theorem dX5_init_32 : decode cX5_init 32 = .ok (.putfield 20, 3) := by decide +kernel
theorem dX5_init_35 : decode cX5_init 35 = .ok (.aload_n 0, 1) := by decide +kernel
theorem dX5_init_36 : decode cX5_init 36 = .ok (.new 9, 3) := by decide +kernel
theorem dX5_init_39 : decode cX5_init 39 = .ok (.dup, 1) := by decide +kernel
theorem dX5_init_40 : decode cX5_init 40 = .ok (.sipush 400, 3) := by decide +kernel
theorem dX5_init_43 : decode cX5_init 43 = .ok (.bipush 9, 2) := by decide +kernel
theorem dX5_init_45 : decode cX5_init 45 = .ok (.invokespecial 11, 3) := by decide +kernel
theorem dX5_init_48 : decode cX5_init 48 = .ok (.putfield 23, 3) := by decide +kernel
theorem dX5_init_51 : decode cX5_init 51 = .ok (.aload_n 0, 1) := by decide +kernel
theorem dX5_init_52 : decode cX5_init 52 = .ok (.new 9, 3) := by decide +kernel
theorem dX5_init_55 : decode cX5_init 55 = .ok (.dup, 1) := by decide +kernel
theorem dX5_init_56 : decode cX5_init 56 = .ok (.sipush 400, 3) := by decide +kernel
theorem dX5_init_59 : decode cX5_init 59 = .ok (.iconst 0, 1) := by decide +kernel
theorem dX5_init_60 : decode cX5_init 60 = .ok (.invokespecial 11, 3) := by decide +kernel
theorem dX5_init_63 : decode cX5_init 63 = .ok (.putfield 26, 3) := by decide +kernel
theorem dX5_init_66 : decode cX5_init 66 = .ok (.return_, 1) := by decide +kernel
theorem dX5_learn_0 : decode cX5_learn 0 = .ok (.aload_n 0, 1) := by decide +kernel
theorem dX5_learn_1 : decode cX5_learn 1 = .ok (.getfield 26, 3) := by decide +kernel
theorem dX5_learn_4 : decode cX5_learn 4 = .ok (.iload_n 1, 1) := by decide +kernel
theorem dX5_learn_5 : decode cX5_learn 5 = .ok (.aload_n 0, 1) := by decide +kernel
theorem dX5_learn_6 : decode cX5_learn 6 = .ok (.getfield 14, 3) := by decide +kernel
theorem dX5_learn_9 : decode cX5_learn 9 = .ok (.iload_n 1, 1) := by decide +kernel
theorem dX5_learn_10 : decode cX5_learn 10 = .ok (.invokevirtual 29, 3) := by decide +kernel
theorem dX5_learn_13 : decode cX5_learn 13 = .ok (.invokevirtual 33, 3) := by decide +kernel
theorem dX5_learn_16 : decode cX5_learn 16 = .ok (.return_, 1) := by decide +kernel
theorem dX5_sag_0 : decode cX5_sag 0 = .ok (.aload_n 0, 1) := by decide +kernel
theorem dX5_sag_1 : decode cX5_sag 1 = .ok (.getfield 14, 3) := by decide +kernel
theorem dX5_sag_4 : decode cX5_sag 4 = .ok (.iload_n 1, 1) := by decide +kernel
theorem dX5_sag_5 : decode cX5_sag 5 = .ok (.iconst 0, 1) := by decide +kernel
theorem dX5_sag_6 : decode cX5_sag 6 = .ok (.aload_n 0, 1) := by decide +kernel
theorem dX5_sag_7 : decode cX5_sag 7 = .ok (.getfield 14, 3) := by decide +kernel
theorem dX5_sag_10 : decode cX5_sag 10 = .ok (.iload_n 1, 1) := by decide +kernel
theorem dX5_sag_11 : decode cX5_sag 11 = .ok (.invokevirtual 29, 3) := by decide +kernel
theorem dX5_sag_14 : decode cX5_sag 14 = .ok (.iconst 1, 1) := by decide +kernel
theorem dX5_sag_15 : decode cX5_sag 15 = .ok (.isub, 1) := by decide +kernel
theorem dX5_sag_16 : decode cX5_sag 16 = .ok (.invokestatic 36, 3) := by decide +kernel
theorem dX5_sag_19 : decode cX5_sag 19 = .ok (.invokevirtual 33, 3) := by decide +kernel
theorem dX5_sag_22 : decode cX5_sag 22 = .ok (.aload_n 0, 1) := by decide +kernel
theorem dX5_sag_23 : decode cX5_sag 23 = .ok (.iload_n 1, 1) := by decide +kernel
theorem dX5_sag_24 : decode cX5_sag 24 = .ok (.invokevirtual 42, 3) := by decide +kernel
theorem dX5_sag_27 : decode cX5_sag 27 = .ok (.return_, 1) := by decide +kernel
theorem dX5_slipFrom_0 : decode cX5_slipFrom 0 = .ok (.aload_n 0, 1) := by decide +kernel
theorem dX5_slipFrom_1 : decode cX5_slipFrom 1 = .ok (.getfield 14, 3) := by decide +kernel
theorem dX5_slipFrom_4 : decode cX5_slipFrom 4 = .ok (.iload_n 1, 1) := by decide +kernel
theorem dX5_slipFrom_5 : decode cX5_slipFrom 5 = .ok (.invokevirtual 29, 3) := by decide +kernel
theorem dX5_slipFrom_8 : decode cX5_slipFrom 8 = .ok (.aload_n 0, 1) := by decide +kernel
theorem dX5_slipFrom_9 : decode cX5_slipFrom 9 = .ok (.getfield 23, 3) := by decide +kernel
theorem dX5_slipFrom_12 : decode cX5_slipFrom 12 = .ok (.iload_n 1, 1) := by decide +kernel
theorem dX5_slipFrom_13 : decode cX5_slipFrom 13 = .ok (.invokevirtual 29, 3) := by decide +kernel
theorem dX5_slipFrom_16 : decode cX5_slipFrom 16 = .ok (.isub, 1) := by decide +kernel
theorem dX5_slipFrom_17 : decode cX5_slipFrom 17 = .ok (.istore_n 2, 1) := by decide +kernel
theorem dX5_slipFrom_18 : decode cX5_slipFrom 18 = .ok (.iconst (-1), 1) := by decide +kernel
theorem dX5_slipFrom_19 : decode cX5_slipFrom 19 = .ok (.istore_n 3, 1) := by decide +kernel
theorem dX5_slipFrom_20 : decode cX5_slipFrom 20 = .ok (.iconst 0, 1) := by decide +kernel
theorem dX5_slipFrom_21 : decode cX5_slipFrom 21 = .ok (.istore 4, 2) := by decide +kernel
theorem dX5_slipFrom_23 : decode cX5_slipFrom 23 = .ok (.iload 4, 2) := by decide +kernel
theorem dX5_slipFrom_25 : decode cX5_slipFrom 25 = .ok (.iconst 4, 1) := by decide +kernel
theorem dX5_slipFrom_26 : decode cX5_slipFrom 26 = .ok (.if_icmp .ge 49, 3) := by decide +kernel
theorem dX5_slipFrom_29 : decode cX5_slipFrom 29 = .ok (.iload_n 1, 1) := by decide +kernel
theorem dX5_slipFrom_30 : decode cX5_slipFrom 30 = .ok (.iload 4, 2) := by decide +kernel
theorem dX5_slipFrom_32 : decode cX5_slipFrom 32 = .ok (.invokestatic 46, 3) := by decide +kernel
theorem dX5_slipFrom_35 : decode cX5_slipFrom 35 = .ok (.istore 5, 2) := by decide +kernel
theorem dX5_slipFrom_37 : decode cX5_slipFrom 37 = .ok (.iload 5, 2) := by decide +kernel
theorem dX5_slipFrom_39 : decode cX5_slipFrom 39 = .ok (.iconst (-1), 1) := by decide +kernel
theorem dX5_slipFrom_40 : decode cX5_slipFrom 40 = .ok (.if_icmp .eq 29, 3) := by decide +kernel
theorem dX5_slipFrom_43 : decode cX5_slipFrom 43 = .ok (.aload_n 0, 1) := by decide +kernel
theorem dX5_slipFrom_44 : decode cX5_slipFrom 44 = .ok (.getfield 14, 3) := by decide +kernel
theorem dX5_slipFrom_47 : decode cX5_slipFrom 47 = .ok (.iload 5, 2) := by decide +kernel
theorem dX5_slipFrom_49 : decode cX5_slipFrom 49 = .ok (.invokevirtual 29, 3) := by decide +kernel
theorem dX5_slipFrom_52 : decode cX5_slipFrom 52 = .ok (.iload_n 2, 1) := by decide +kernel
theorem dX5_slipFrom_53 : decode cX5_slipFrom 53 = .ok (.if_icmp .ge 16, 3) := by decide +kernel
theorem dX5_slipFrom_56 : decode cX5_slipFrom 56 = .ok (.aload_n 0, 1) := by decide +kernel
theorem dX5_slipFrom_57 : decode cX5_slipFrom 57 = .ok (.getfield 14, 3) := by decide +kernel
theorem dX5_slipFrom_60 : decode cX5_slipFrom 60 = .ok (.iload 5, 2) := by decide +kernel
theorem dX5_slipFrom_62 : decode cX5_slipFrom 62 = .ok (.invokevirtual 29, 3) := by decide +kernel
theorem dX5_slipFrom_65 : decode cX5_slipFrom 65 = .ok (.istore_n 2, 1) := by decide +kernel
theorem dX5_slipFrom_66 : decode cX5_slipFrom 66 = .ok (.iload 5, 2) := by decide +kernel
theorem dX5_slipFrom_68 : decode cX5_slipFrom 68 = .ok (.istore_n 3, 1) := by decide +kernel
theorem dX5_slipFrom_69 : decode cX5_slipFrom 69 = .ok (.iinc 4 1, 3) := by decide +kernel
theorem dX5_slipFrom_72 : decode cX5_slipFrom 72 = .ok (.goto (-49), 3) := by decide +kernel
theorem dX5_slipFrom_75 : decode cX5_slipFrom 75 = .ok (.iload_n 3, 1) := by decide +kernel
theorem dX5_slipFrom_76 : decode cX5_slipFrom 76 = .ok (.ireturn, 1) := by decide +kernel
theorem dX5_neighbour_0 : decode cX5_neighbour 0 = .ok (.iload_n 0, 1) := by decide +kernel
theorem dX5_neighbour_1 : decode cX5_neighbour 1 = .ok (.invokestatic 49, 3) := by decide +kernel
theorem dX5_neighbour_4 : decode cX5_neighbour 4 = .ok (.istore_n 2, 1) := by decide +kernel
theorem dX5_neighbour_5 : decode cX5_neighbour 5 = .ok (.iload_n 0, 1) := by decide +kernel
theorem dX5_neighbour_6 : decode cX5_neighbour 6 = .ok (.invokestatic 52, 3) := by decide +kernel
theorem dX5_neighbour_9 : decode cX5_neighbour 9 = .ok (.istore_n 3, 1) := by decide +kernel
theorem dX5_neighbour_10 : decode cX5_neighbour 10 = .ok (.iload_n 1, 1) := by decide +kernel
theorem dX5_neighbour_11 : decode cX5_neighbour 11 = .ok (.tableswitch 49 0 2 #[25, 33, 41], 25) := by decide +kernel
theorem dX5_neighbour_36 : decode cX5_neighbour 36 = .ok (.iload_n 2, 1) := by decide +kernel
theorem dX5_neighbour_37 : decode cX5_neighbour 37 = .ok (.iload_n 3, 1) := by decide +kernel
theorem dX5_neighbour_38 : decode cX5_neighbour 38 = .ok (.iconst 1, 1) := by decide +kernel
theorem dX5_neighbour_39 : decode cX5_neighbour 39 = .ok (.isub, 1) := by decide +kernel
theorem dX5_neighbour_40 : decode cX5_neighbour 40 = .ok (.invokestatic 55, 3) := by decide +kernel
theorem dX5_neighbour_43 : decode cX5_neighbour 43 = .ok (.ireturn, 1) := by decide +kernel
theorem dX5_neighbour_44 : decode cX5_neighbour 44 = .ok (.iload_n 2, 1) := by decide +kernel
theorem dX5_neighbour_45 : decode cX5_neighbour 45 = .ok (.iconst 1, 1) := by decide +kernel
theorem dX5_neighbour_46 : decode cX5_neighbour 46 = .ok (.isub, 1) := by decide +kernel
theorem dX5_neighbour_47 : decode cX5_neighbour 47 = .ok (.iload_n 3, 1) := by decide +kernel
theorem dX5_neighbour_48 : decode cX5_neighbour 48 = .ok (.invokestatic 55, 3) := by decide +kernel
theorem dX5_neighbour_51 : decode cX5_neighbour 51 = .ok (.ireturn, 1) := by decide +kernel
theorem dX5_neighbour_52 : decode cX5_neighbour 52 = .ok (.iload_n 2, 1) := by decide +kernel
theorem dX5_neighbour_53 : decode cX5_neighbour 53 = .ok (.iconst 1, 1) := by decide +kernel
theorem dX5_neighbour_54 : decode cX5_neighbour 54 = .ok (.iadd, 1) := by decide +kernel
theorem dX5_neighbour_55 : decode cX5_neighbour 55 = .ok (.iload_n 3, 1) := by decide +kernel
theorem dX5_neighbour_56 : decode cX5_neighbour 56 = .ok (.invokestatic 55, 3) := by decide +kernel
theorem dX5_neighbour_59 : decode cX5_neighbour 59 = .ok (.ireturn, 1) := by decide +kernel
theorem dX5_neighbour_60 : decode cX5_neighbour 60 = .ok (.iload_n 2, 1) := by decide +kernel
theorem dX5_neighbour_61 : decode cX5_neighbour 61 = .ok (.iload_n 3, 1) := by decide +kernel
theorem dX5_neighbour_62 : decode cX5_neighbour 62 = .ok (.iconst 1, 1) := by decide +kernel
theorem dX5_neighbour_63 : decode cX5_neighbour 63 = .ok (.iadd, 1) := by decide +kernel
theorem dX5_neighbour_64 : decode cX5_neighbour 64 = .ok (.invokestatic 55, 3) := by decide +kernel
theorem dX5_neighbour_67 : decode cX5_neighbour 67 = .ok (.ireturn, 1) := by decide +kernel
theorem dX6_init_0 : decode cX6_init 0 = .ok (.aload_n 0, 1) := by decide +kernel
theorem dX6_init_1 : decode cX6_init 1 = .ok (.invokespecial 3, 3) := by decide +kernel
theorem dX6_init_4 : decode cX6_init 4 = .ok (.aload_n 0, 1) := by decide +kernel
theorem dX6_init_5 : decode cX6_init 5 = .ok (.new 9, 3) := by decide +kernel
theorem dX6_init_8 : decode cX6_init 8 = .ok (.dup, 1) := by decide +kernel
theorem dX6_init_9 : decode cX6_init 9 = .ok (.bipush 6, 2) := by decide +kernel
theorem dX6_init_11 : decode cX6_init 11 = .ok (.iconst 0, 1) := by decide +kernel
theorem dX6_init_12 : decode cX6_init 12 = .ok (.invokespecial 11, 3) := by decide +kernel
theorem dX6_init_15 : decode cX6_init 15 = .ok (.putfield 14, 3) := by decide +kernel
theorem dX6_init_18 : decode cX6_init 18 = .ok (.aload_n 0, 1) := by decide +kernel
theorem dX6_init_19 : decode cX6_init 19 = .ok (.new 9, 3) := by decide +kernel
theorem dX6_init_22 : decode cX6_init 22 = .ok (.dup, 1) := by decide +kernel
theorem dX6_init_23 : decode cX6_init 23 = .ok (.bipush 6, 2) := by decide +kernel
theorem dX6_init_25 : decode cX6_init 25 = .ok (.iconst 0, 1) := by decide +kernel
theorem dX6_init_26 : decode cX6_init 26 = .ok (.invokespecial 11, 3) := by decide +kernel
theorem dX6_init_29 : decode cX6_init 29 = .ok (.putfield 20, 3) := by decide +kernel
theorem dX6_init_32 : decode cX6_init 32 = .ok (.aload_n 0, 1) := by decide +kernel
theorem dX6_init_33 : decode cX6_init 33 = .ok (.iconst 0, 1) := by decide +kernel
theorem dX6_init_34 : decode cX6_init 34 = .ok (.putfield 23, 3) := by decide +kernel
theorem dX6_init_37 : decode cX6_init 37 = .ok (.return_, 1) := by decide +kernel
theorem dX6_gather_0 : decode cX6_gather 0 = .ok (.aload_n 0, 1) := by decide +kernel
theorem dX6_gather_1 : decode cX6_gather 1 = .ok (.iconst 0, 1) := by decide +kernel
theorem dX6_gather_2 : decode cX6_gather 2 = .ok (.putfield 23, 3) := by decide +kernel
theorem dX6_gather_5 : decode cX6_gather 5 = .ok (.iconst 0, 1) := by decide +kernel
theorem dX6_gather_6 : decode cX6_gather 6 = .ok (.istore 5, 2) := by decide +kernel
theorem dX6_gather_8 : decode cX6_gather 8 = .ok (.iload 5, 2) := by decide +kernel
theorem dX6_gather_10 : decode cX6_gather 10 = .ok (.bipush 6, 2) := by decide +kernel
theorem dX6_gather_12 : decode cX6_gather 12 = .ok (.if_icmp .ge 75, 3) := by decide +kernel
theorem dX6_gather_15 : decode cX6_gather 15 = .ok (.aload_n 1, 1) := by decide +kernel
theorem dX6_gather_16 : decode cX6_gather 16 = .ok (.iload 5, 2) := by decide +kernel
theorem dX6_gather_18 : decode cX6_gather 18 = .ok (.invokevirtual 27, 3) := by decide +kernel
theorem dX6_gather_21 : decode cX6_gather 21 = .ok (.istore 6, 2) := by decide +kernel
theorem dX6_gather_23 : decode cX6_gather 23 = .ok (.iload 6, 2) := by decide +kernel
theorem dX6_gather_25 : decode cX6_gather 25 = .ok (.iconst (-1), 1) := by decide +kernel
theorem dX6_gather_26 : decode cX6_gather 26 = .ok (.if_icmp .eq 55, 3) := by decide +kernel
theorem dX6_gather_29 : decode cX6_gather 29 = .ok (.aload_n 0, 1) := by decide +kernel
theorem dX6_gather_30 : decode cX6_gather 30 = .ok (.getfield 14, 3) := by decide +kernel
theorem dX6_gather_33 : decode cX6_gather 33 = .ok (.aload_n 0, 1) := by decide +kernel
theorem dX6_gather_34 : decode cX6_gather 34 = .ok (.getfield 23, 3) := by decide +kernel
theorem dX6_gather_37 : decode cX6_gather 37 = .ok (.iload 4, 2) := by decide +kernel
theorem dX6_gather_39 : decode cX6_gather 39 = .ok (.iload 6, 2) := by decide +kernel
theorem dX6_gather_41 : decode cX6_gather 41 = .ok (.invokestatic 31, 3) := by decide +kernel
theorem dX6_gather_44 : decode cX6_gather 44 = .ok (.imul, 1) := by decide +kernel
theorem dX6_gather_45 : decode cX6_gather 45 = .ok (.iload_n 2, 1) := by decide +kernel
theorem dX6_gather_46 : decode cX6_gather 46 = .ok (.isub, 1) := by decide +kernel
theorem dX6_gather_47 : decode cX6_gather 47 = .ok (.invokevirtual 34, 3) := by decide +kernel
theorem dX6_gather_50 : decode cX6_gather 50 = .ok (.aload_n 0, 1) := by decide +kernel
theorem dX6_gather_51 : decode cX6_gather 51 = .ok (.getfield 20, 3) := by decide +kernel
theorem dX6_gather_54 : decode cX6_gather 54 = .ok (.aload_n 0, 1) := by decide +kernel
theorem dX6_gather_55 : decode cX6_gather 55 = .ok (.getfield 23, 3) := by decide +kernel
theorem dX6_gather_58 : decode cX6_gather 58 = .ok (.iload 4, 2) := by decide +kernel
theorem dX6_gather_60 : decode cX6_gather 60 = .ok (.iload 6, 2) := by decide +kernel
theorem dX6_gather_62 : decode cX6_gather 62 = .ok (.invokestatic 37, 3) := by decide +kernel
theorem dX6_gather_65 : decode cX6_gather 65 = .ok (.imul, 1) := by decide +kernel
theorem dX6_gather_66 : decode cX6_gather 66 = .ok (.iload_n 3, 1) := by decide +kernel
theorem dX6_gather_67 : decode cX6_gather 67 = .ok (.isub, 1) := by decide +kernel
theorem dX6_gather_68 : decode cX6_gather 68 = .ok (.invokevirtual 34, 3) := by decide +kernel
theorem dX6_gather_71 : decode cX6_gather 71 = .ok (.aload_n 0, 1) := by decide +kernel
theorem dX6_gather_72 : decode cX6_gather 72 = .ok (.dup, 1) := by decide +kernel
theorem dX6_gather_73 : decode cX6_gather 73 = .ok (.getfield 23, 3) := by decide +kernel
theorem dX6_gather_76 : decode cX6_gather 76 = .ok (.iconst 1, 1) := by decide +kernel
theorem dX6_gather_77 : decode cX6_gather 77 = .ok (.iadd, 1) := by decide +kernel
theorem dX6_gather_78 : decode cX6_gather 78 = .ok (.putfield 23, 3) := by decide +kernel
theorem dX6_gather_81 : decode cX6_gather 81 = .ok (.iinc 5 1, 3) := by decide +kernel
theorem dX6_gather_84 : decode cX6_gather 84 = .ok (.goto (-76), 3) := by decide +kernel
theorem dX6_gather_87 : decode cX6_gather 87 = .ok (.return_, 1) := by decide +kernel
theorem dX6_holdMoment_0 : decode cX6_holdMoment 0 = .ok (.iconst 0, 1) := by decide +kernel
theorem dX6_holdMoment_1 : decode cX6_holdMoment 1 = .ok (.istore_n 1, 1) := by decide +kernel
theorem dX6_holdMoment_2 : decode cX6_holdMoment 2 = .ok (.iload_n 1, 1) := by decide +kernel
theorem dX6_holdMoment_3 : decode cX6_holdMoment 3 = .ok (.aload_n 0, 1) := by decide +kernel
theorem dX6_holdMoment_4 : decode cX6_holdMoment 4 = .ok (.getfield 23, 3) := by decide +kernel
theorem dX6_holdMoment_7 : decode cX6_holdMoment 7 = .ok (.if_icmp .ge 92, 3) := by decide +kernel
theorem dX6_holdMoment_10 : decode cX6_holdMoment 10 = .ok (.aload_n 0, 1) := by decide +kernel
theorem dX6_holdMoment_11 : decode cX6_holdMoment 11 = .ok (.getfield 14, 3) := by decide +kernel
theorem dX6_holdMoment_14 : decode cX6_holdMoment 14 = .ok (.iload_n 1, 1) := by decide +kernel
theorem dX6_holdMoment_15 : decode cX6_holdMoment 15 = .ok (.invokevirtual 27, 3) := by decide +kernel
theorem dX6_holdMoment_18 : decode cX6_holdMoment 18 = .ok (.ifCond .ne 16, 3) := by decide +kernel
theorem dX6_holdMoment_21 : decode cX6_holdMoment 21 = .ok (.aload_n 0, 1) := by decide +kernel
theorem dX6_holdMoment_22 : decode cX6_holdMoment 22 = .ok (.getfield 20, 3) := by decide +kernel
theorem dX6_holdMoment_25 : decode cX6_holdMoment 25 = .ok (.iload_n 1, 1) := by decide +kernel
theorem dX6_holdMoment_26 : decode cX6_holdMoment 26 = .ok (.invokevirtual 27, 3) := by decide +kernel
theorem dX6_holdMoment_29 : decode cX6_holdMoment 29 = .ok (.ifCond .ne 5, 3) := by decide +kernel
theorem dX6_holdMoment_32 : decode cX6_holdMoment 32 = .ok (.iconst 1, 1) := by decide +kernel
theorem dX6_holdMoment_33 : decode cX6_holdMoment 33 = .ok (.ireturn, 1) := by decide +kernel
theorem dX6_holdMoment_34 : decode cX6_holdMoment 34 = .ok (.iload_n 1, 1) := by decide +kernel
theorem dX6_holdMoment_35 : decode cX6_holdMoment 35 = .ok (.iconst 1, 1) := by decide +kernel
theorem dX6_holdMoment_36 : decode cX6_holdMoment 36 = .ok (.iadd, 1) := by decide +kernel
theorem dX6_holdMoment_37 : decode cX6_holdMoment 37 = .ok (.istore_n 2, 1) := by decide +kernel
theorem dX6_holdMoment_38 : decode cX6_holdMoment 38 = .ok (.iload_n 2, 1) := by decide +kernel
theorem dX6_holdMoment_39 : decode cX6_holdMoment 39 = .ok (.aload_n 0, 1) := by decide +kernel
theorem dX6_holdMoment_40 : decode cX6_holdMoment 40 = .ok (.getfield 23, 3) := by decide +kernel
theorem dX6_holdMoment_43 : decode cX6_holdMoment 43 = .ok (.if_icmp .ge 50, 3) := by decide +kernel
theorem dX6_holdMoment_46 : decode cX6_holdMoment 46 = .ok (.aload_n 0, 1) := by decide +kernel
theorem dX6_holdMoment_47 : decode cX6_holdMoment 47 = .ok (.iload_n 1, 1) := by decide +kernel
theorem dX6_holdMoment_48 : decode cX6_holdMoment 48 = .ok (.iload_n 2, 1) := by decide +kernel
theorem dX6_holdMoment_49 : decode cX6_holdMoment 49 = .ok (.invokevirtual 40, 3) := by decide +kernel
theorem dX6_holdMoment_52 : decode cX6_holdMoment 52 = .ok (.ifCond .eq 5, 3) := by decide +kernel
theorem dX6_holdMoment_55 : decode cX6_holdMoment 55 = .ok (.iconst 1, 1) := by decide +kernel
theorem dX6_holdMoment_56 : decode cX6_holdMoment 56 = .ok (.ireturn, 1) := by decide +kernel
theorem dX6_holdMoment_57 : decode cX6_holdMoment 57 = .ok (.iload_n 2, 1) := by decide +kernel
theorem dX6_holdMoment_58 : decode cX6_holdMoment 58 = .ok (.iconst 1, 1) := by decide +kernel
theorem dX6_holdMoment_59 : decode cX6_holdMoment 59 = .ok (.iadd, 1) := by decide +kernel
theorem dX6_holdMoment_60 : decode cX6_holdMoment 60 = .ok (.istore_n 3, 1) := by decide +kernel
theorem dX6_holdMoment_61 : decode cX6_holdMoment 61 = .ok (.iload_n 3, 1) := by decide +kernel
theorem dX6_holdMoment_62 : decode cX6_holdMoment 62 = .ok (.aload_n 0, 1) := by decide +kernel
theorem dX6_holdMoment_63 : decode cX6_holdMoment 63 = .ok (.getfield 23, 3) := by decide +kernel
theorem dX6_holdMoment_66 : decode cX6_holdMoment 66 = .ok (.if_icmp .ge 21, 3) := by decide +kernel
theorem dX6_holdMoment_69 : decode cX6_holdMoment 69 = .ok (.aload_n 0, 1) := by decide +kernel
theorem dX6_holdMoment_70 : decode cX6_holdMoment 70 = .ok (.iload_n 1, 1) := by decide +kernel
theorem dX6_holdMoment_71 : decode cX6_holdMoment 71 = .ok (.iload_n 2, 1) := by decide +kernel
theorem dX6_holdMoment_72 : decode cX6_holdMoment 72 = .ok (.iload_n 3, 1) := by decide +kernel
theorem dX6_holdMoment_73 : decode cX6_holdMoment 73 = .ok (.invokevirtual 44, 3) := by decide +kernel
theorem dX6_holdMoment_76 : decode cX6_holdMoment 76 = .ok (.ifCond .eq 5, 3) := by decide +kernel
theorem dX6_holdMoment_79 : decode cX6_holdMoment 79 = .ok (.iconst 1, 1) := by decide +kernel
theorem dX6_holdMoment_80 : decode cX6_holdMoment 80 = .ok (.ireturn, 1) := by decide +kernel
theorem dX6_holdMoment_81 : decode cX6_holdMoment 81 = .ok (.iinc 3 1, 3) := by decide +kernel
theorem dX6_holdMoment_84 : decode cX6_holdMoment 84 = .ok (.goto (-23), 3) := by decide +kernel
theorem dX6_holdMoment_87 : decode cX6_holdMoment 87 = .ok (.iinc 2 1, 3) := by decide +kernel
theorem dX6_holdMoment_90 : decode cX6_holdMoment 90 = .ok (.goto (-52), 3) := by decide +kernel
theorem dX6_holdMoment_93 : decode cX6_holdMoment 93 = .ok (.iinc 1 1, 3) := by decide +kernel
theorem dX6_holdMoment_96 : decode cX6_holdMoment 96 = .ok (.goto (-94), 3) := by decide +kernel
theorem dX6_holdMoment_99 : decode cX6_holdMoment 99 = .ok (.iconst 0, 1) := by decide +kernel
theorem dX6_holdMoment_100 : decode cX6_holdMoment 100 = .ok (.ireturn, 1) := by decide +kernel
theorem dX6_isOnLine_0 : decode cX6_isOnLine 0 = .ok (.aload_n 0, 1) := by decide +kernel
theorem dX6_isOnLine_1 : decode cX6_isOnLine 1 = .ok (.iload_n 1, 1) := by decide +kernel
theorem dX6_isOnLine_2 : decode cX6_isOnLine 2 = .ok (.iload_n 2, 1) := by decide +kernel
theorem dX6_isOnLine_3 : decode cX6_isOnLine 3 = .ok (.invokevirtual 48, 3) := by decide +kernel
theorem dX6_isOnLine_6 : decode cX6_isOnLine 6 = .ok (.ifCond .ne 45, 3) := by decide +kernel
theorem dX6_isOnLine_9 : decode cX6_isOnLine 9 = .ok (.aload_n 0, 1) := by decide +kernel
theorem dX6_isOnLine_10 : decode cX6_isOnLine 10 = .ok (.getfield 14, 3) := by decide +kernel
theorem dX6_isOnLine_13 : decode cX6_isOnLine 13 = .ok (.iload_n 1, 1) := by decide +kernel
theorem dX6_isOnLine_14 : decode cX6_isOnLine 14 = .ok (.invokevirtual 27, 3) := by decide +kernel
theorem dX6_isOnLine_17 : decode cX6_isOnLine 17 = .ok (.aload_n 0, 1) := by decide +kernel
theorem dX6_isOnLine_18 : decode cX6_isOnLine 18 = .ok (.getfield 14, 3) := by decide +kernel
theorem dX6_isOnLine_21 : decode cX6_isOnLine 21 = .ok (.iload_n 2, 1) := by decide +kernel
theorem dX6_isOnLine_22 : decode cX6_isOnLine 22 = .ok (.invokevirtual 27, 3) := by decide +kernel
theorem dX6_isOnLine_25 : decode cX6_isOnLine 25 = .ok (.imul, 1) := by decide +kernel
theorem dX6_isOnLine_26 : decode cX6_isOnLine 26 = .ok (.aload_n 0, 1) := by decide +kernel
theorem dX6_isOnLine_27 : decode cX6_isOnLine 27 = .ok (.getfield 20, 3) := by decide +kernel
theorem dX6_isOnLine_30 : decode cX6_isOnLine 30 = .ok (.iload_n 1, 1) := by decide +kernel
theorem dX6_isOnLine_31 : decode cX6_isOnLine 31 = .ok (.invokevirtual 27, 3) := by decide +kernel
theorem dX6_isOnLine_34 : decode cX6_isOnLine 34 = .ok (.aload_n 0, 1) := by decide +kernel
theorem dX6_isOnLine_35 : decode cX6_isOnLine 35 = .ok (.getfield 20, 3) := by decide +kernel
theorem dX6_isOnLine_38 : decode cX6_isOnLine 38 = .ok (.iload_n 2, 1) := by decide +kernel
theorem dX6_isOnLine_39 : decode cX6_isOnLine 39 = .ok (.invokevirtual 27, 3) := by decide +kernel
theorem dX6_isOnLine_42 : decode cX6_isOnLine 42 = .ok (.imul, 1) := by decide +kernel
theorem dX6_isOnLine_43 : decode cX6_isOnLine 43 = .ok (.iadd, 1) := by decide +kernel
theorem dX6_isOnLine_44 : decode cX6_isOnLine 44 = .ok (.ifCond .gt 7, 3) := by decide +kernel
theorem dX6_isOnLine_47 : decode cX6_isOnLine 47 = .ok (.iconst 1, 1) := by decide +kernel
theorem dX6_isOnLine_48 : decode cX6_isOnLine 48 = .ok (.goto 4, 3) := by decide +kernel
theorem dX6_isOnLine_51 : decode cX6_isOnLine 51 = .ok (.iconst 0, 1) := by decide +kernel
theorem dX6_isOnLine_52 : decode cX6_isOnLine 52 = .ok (.ireturn, 1) := by decide +kernel
theorem dX6_isInTriangle_0 : decode cX6_isInTriangle 0 = .ok (.aload_n 0, 1) := by decide +kernel
theorem dX6_isInTriangle_1 : decode cX6_isInTriangle 1 = .ok (.iload_n 1, 1) := by decide +kernel
theorem dX6_isInTriangle_2 : decode cX6_isInTriangle 2 = .ok (.iload_n 2, 1) := by decide +kernel
theorem dX6_isInTriangle_3 : decode cX6_isInTriangle 3 = .ok (.invokevirtual 48, 3) := by decide +kernel
theorem dX6_isInTriangle_6 : decode cX6_isInTriangle 6 = .ok (.istore 4, 2) := by decide +kernel
theorem dX6_isInTriangle_8 : decode cX6_isInTriangle 8 = .ok (.aload_n 0, 1) := by decide +kernel
theorem dX6_isInTriangle_9 : decode cX6_isInTriangle 9 = .ok (.iload_n 2, 1) := by decide +kernel
theorem dX6_isInTriangle_10 : decode cX6_isInTriangle 10 = .ok (.iload_n 3, 1) := by decide +kernel
theorem dX6_isInTriangle_11 : decode cX6_isInTriangle 11 = .ok (.invokevirtual 48, 3) := by decide +kernel
theorem dX6_isInTriangle_14 : decode cX6_isInTriangle 14 = .ok (.istore 5, 2) := by decide +kernel
theorem dX6_isInTriangle_16 : decode cX6_isInTriangle 16 = .ok (.aload_n 0, 1) := by decide +kernel
theorem dX6_isInTriangle_17 : decode cX6_isInTriangle 17 = .ok (.iload_n 3, 1) := by decide +kernel
theorem dX6_isInTriangle_18 : decode cX6_isInTriangle 18 = .ok (.iload_n 1, 1) := by decide +kernel
theorem dX6_isInTriangle_19 : decode cX6_isInTriangle 19 = .ok (.invokevirtual 48, 3) := by decide +kernel
theorem dX6_isInTriangle_22 : decode cX6_isInTriangle 22 = .ok (.istore 6, 2) := by decide +kernel
theorem dX6_isInTriangle_24 : decode cX6_isInTriangle 24 = .ok (.iload 4, 2) := by decide +kernel
theorem dX6_isInTriangle_26 : decode cX6_isInTriangle 26 = .ok (.iload 5, 2) := by decide +kernel
theorem dX6_isInTriangle_28 : decode cX6_isInTriangle 28 = .ok (.iadd, 1) := by decide +kernel
theorem dX6_isInTriangle_29 : decode cX6_isInTriangle 29 = .ok (.iload 6, 2) := by decide +kernel
theorem dX6_isInTriangle_31 : decode cX6_isInTriangle 31 = .ok (.iadd, 1) := by decide +kernel
theorem dX6_isInTriangle_32 : decode cX6_isInTriangle 32 = .ok (.ifCond .ne 5, 3) := by decide +kernel
theorem dX6_isInTriangle_35 : decode cX6_isInTriangle 35 = .ok (.iconst 0, 1) := by decide +kernel
theorem dX6_isInTriangle_36 : decode cX6_isInTriangle 36 = .ok (.ireturn, 1) := by decide +kernel
theorem dX6_isInTriangle_37 : decode cX6_isInTriangle 37 = .ok (.iload 4, 2) := by decide +kernel
theorem dX6_isInTriangle_39 : decode cX6_isInTriangle 39 = .ok (.ifCond .lt 13, 3) := by decide +kernel
theorem dX6_isInTriangle_42 : decode cX6_isInTriangle 42 = .ok (.iload 5, 2) := by decide +kernel
theorem dX6_isInTriangle_44 : decode cX6_isInTriangle 44 = .ok (.ifCond .lt 8, 3) := by decide +kernel
theorem dX6_isInTriangle_47 : decode cX6_isInTriangle 47 = .ok (.iload 6, 2) := by decide +kernel
theorem dX6_isInTriangle_49 : decode cX6_isInTriangle 49 = .ok (.ifCond .ge 18, 3) := by decide +kernel
theorem dX6_isInTriangle_52 : decode cX6_isInTriangle 52 = .ok (.iload 4, 2) := by decide +kernel
theorem dX6_isInTriangle_54 : decode cX6_isInTriangle 54 = .ok (.ifCond .gt 17, 3) := by decide +kernel
theorem dX6_isInTriangle_57 : decode cX6_isInTriangle 57 = .ok (.iload 5, 2) := by decide +kernel
theorem dX6_isInTriangle_59 : decode cX6_isInTriangle 59 = .ok (.ifCond .gt 12, 3) := by decide +kernel
theorem dX6_isInTriangle_62 : decode cX6_isInTriangle 62 = .ok (.iload 6, 2) := by decide +kernel
theorem dX6_isInTriangle_64 : decode cX6_isInTriangle 64 = .ok (.ifCond .gt 7, 3) := by decide +kernel
theorem dX6_isInTriangle_67 : decode cX6_isInTriangle 67 = .ok (.iconst 1, 1) := by decide +kernel
theorem dX6_isInTriangle_68 : decode cX6_isInTriangle 68 = .ok (.goto 4, 3) := by decide +kernel
theorem dX6_isInTriangle_71 : decode cX6_isInTriangle 71 = .ok (.iconst 0, 1) := by decide +kernel
theorem dX6_isInTriangle_72 : decode cX6_isInTriangle 72 = .ok (.ireturn, 1) := by decide +kernel
theorem dX6_turn_0 : decode cX6_turn 0 = .ok (.aload_n 0, 1) := by decide +kernel
theorem dX6_turn_1 : decode cX6_turn 1 = .ok (.getfield 14, 3) := by decide +kernel
theorem dX6_turn_4 : decode cX6_turn 4 = .ok (.iload_n 1, 1) := by decide +kernel
theorem dX6_turn_5 : decode cX6_turn 5 = .ok (.invokevirtual 27, 3) := by decide +kernel
theorem dX6_turn_8 : decode cX6_turn 8 = .ok (.aload_n 0, 1) := by decide +kernel
theorem dX6_turn_9 : decode cX6_turn 9 = .ok (.getfield 20, 3) := by decide +kernel
theorem dX6_turn_12 : decode cX6_turn 12 = .ok (.iload_n 2, 1) := by decide +kernel
theorem dX6_turn_13 : decode cX6_turn 13 = .ok (.invokevirtual 27, 3) := by decide +kernel
theorem dX6_turn_16 : decode cX6_turn 16 = .ok (.imul, 1) := by decide +kernel
theorem dX6_turn_17 : decode cX6_turn 17 = .ok (.aload_n 0, 1) := by decide +kernel
theorem dX6_turn_18 : decode cX6_turn 18 = .ok (.getfield 20, 3) := by decide +kernel
theorem dX6_turn_21 : decode cX6_turn 21 = .ok (.iload_n 1, 1) := by decide +kernel
theorem dX6_turn_22 : decode cX6_turn 22 = .ok (.invokevirtual 27, 3) := by decide +kernel
theorem dX6_turn_25 : decode cX6_turn 25 = .ok (.aload_n 0, 1) := by decide +kernel
theorem dX6_turn_26 : decode cX6_turn 26 = .ok (.getfield 14, 3) := by decide +kernel
theorem dX6_turn_29 : decode cX6_turn 29 = .ok (.iload_n 2, 1) := by decide +kernel
theorem dX6_turn_30 : decode cX6_turn 30 = .ok (.invokevirtual 27, 3) := by decide +kernel
theorem dX6_turn_33 : decode cX6_turn 33 = .ok (.imul, 1) := by decide +kernel
theorem dX6_turn_34 : decode cX6_turn 34 = .ok (.isub, 1) := by decide +kernel
theorem dX6_turn_35 : decode cX6_turn 35 = .ok (.ireturn, 1) := by decide +kernel
theorem dX7_init_0 : decode cX7_init 0 = .ok (.aload_n 0, 1) := by decide +kernel
theorem dX7_init_1 : decode cX7_init 1 = .ok (.invokespecial 3, 3) := by decide +kernel
theorem dX7_init_4 : decode cX7_init 4 = .ok (.aload_n 0, 1) := by decide +kernel
theorem dX7_init_5 : decode cX7_init 5 = .ok (.iconst 4, 1) := by decide +kernel
theorem dX7_init_6 : decode cX7_init 6 = .ok (.anewarray 9, 3) := by decide +kernel
theorem dX7_init_9 : decode cX7_init 9 = .ok (.putfield 11, 3) := by decide +kernel
theorem dX7_init_12 : decode cX7_init 12 = .ok (.aload_n 0, 1) := by decide +kernel
theorem dX7_init_13 : decode cX7_init 13 = .ok (.iconst (-1), 1) := by decide +kernel
theorem dX7_init_14 : decode cX7_init 14 = .ok (.putfield 17, 3) := by decide +kernel
theorem dX7_init_17 : decode cX7_init 17 = .ok (.aload_n 0, 1) := by decide +kernel
theorem dX7_init_18 : decode cX7_init 18 = .ok (.aload_n 2, 1) := by decide +kernel
theorem dX7_init_19 : decode cX7_init 19 = .ok (.putfield 21, 3) := by decide +kernel
theorem dX7_init_22 : decode cX7_init 22 = .ok (.iconst 0, 1) := by decide +kernel
theorem dX7_init_23 : decode cX7_init 23 = .ok (.istore 4, 2) := by decide +kernel
theorem dX7_init_25 : decode cX7_init 25 = .ok (.iload 4, 2) := by decide +kernel
theorem dX7_init_27 : decode cX7_init 27 = .ok (.aload_n 0, 1) := by decide +kernel
theorem dX7_init_28 : decode cX7_init 28 = .ok (.getfield 11, 3) := by decide +kernel
theorem dX7_init_31 : decode cX7_init 31 = .ok (.arraylength, 1) := by decide +kernel
theorem dX7_init_32 : decode cX7_init 32 = .ok (.if_icmp .ge 26, 3) := by decide +kernel
theorem dX7_init_35 : decode cX7_init 35 = .ok (.aload_n 0, 1) := by decide +kernel
theorem dX7_init_36 : decode cX7_init 36 = .ok (.getfield 11, 3) := by decide +kernel
theorem dX7_init_39 : decode cX7_init 39 = .ok (.iload 4, 2) := by decide +kernel
theorem dX7_init_41 : decode cX7_init 41 = .ok (.new 9, 3) := by decide +kernel
theorem dX7_init_44 : decode cX7_init 44 = .ok (.dup, 1) := by decide +kernel
theorem dX7_init_45 : decode cX7_init 45 = .ok (.aload_n 1, 1) := by decide +kernel
theorem dX7_init_46 : decode cX7_init 46 = .ok (.aload_n 2, 1) := by decide +kernel
theorem dX7_init_47 : decode cX7_init 47 = .ok (.aload_n 3, 1) := by decide +kernel
theorem dX7_init_48 : decode cX7_init 48 = .ok (.invokespecial 25, 3) := by decide +kernel
theorem dX7_init_51 : decode cX7_init 51 = .ok (.aastore, 1) := by decide +kernel
theorem dX7_init_52 : decode cX7_init 52 = .ok (.iinc 4 1, 3) := by decide +kernel
theorem dX7_init_55 : decode cX7_init 55 = .ok (.goto (-30), 3) := by decide +kernel
theorem dX7_init_58 : decode cX7_init 58 = .ok (.return_, 1) := by decide +kernel
theorem dX7_start_0 : decode cX7_start 0 = .ok (.aload_n 0, 1) := by decide +kernel
theorem dX7_start_1 : decode cX7_start 1 = .ok (.iload_n 2, 1) := by decide +kernel
theorem dX7_start_2 : decode cX7_start 2 = .ok (.putfield 17, 3) := by decide +kernel
theorem dX7_start_5 : decode cX7_start 5 = .ok (.aload_n 0, 1) := by decide +kernel
theorem dX7_start_6 : decode cX7_start 6 = .ok (.getfield 11, 3) := by decide +kernel
theorem dX7_start_9 : decode cX7_start 9 = .ok (.arraylength, 1) := by decide +kernel
theorem dX7_start_10 : decode cX7_start 10 = .ok (.ifCond .le 13, 3) := by decide +kernel
theorem dX7_start_13 : decode cX7_start 13 = .ok (.aload_n 0, 1) := by decide +kernel
theorem dX7_start_14 : decode cX7_start 14 = .ok (.getfield 11, 3) := by decide +kernel
theorem dX7_start_17 : decode cX7_start 17 = .ok (.iconst 0, 1) := by decide +kernel
theorem dX7_start_18 : decode cX7_start 18 = .ok (.aaload, 1) := by decide +kernel
theorem dX7_start_19 : decode cX7_start 19 = .ok (.aload_n 1, 1) := by decide +kernel
theorem dX7_start_20 : decode cX7_start 20 = .ok (.invokevirtual 28, 3) := by decide +kernel
theorem dX7_start_23 : decode cX7_start 23 = .ok (.return_, 1) := by decide +kernel
theorem dX7_away_0 : decode cX7_away 0 = .ok (.iload_n 1, 1) := by decide +kernel
theorem dX7_away_1 : decode cX7_away 1 = .ok (.ifCond .lt 12, 3) := by decide +kernel
theorem dX7_away_4 : decode cX7_away 4 = .ok (.iload_n 1, 1) := by decide +kernel
theorem dX7_away_5 : decode cX7_away 5 = .ok (.aload_n 0, 1) := by decide +kernel
theorem dX7_away_6 : decode cX7_away 6 = .ok (.getfield 11, 3) := by decide +kernel
theorem dX7_away_9 : decode cX7_away 9 = .ok (.arraylength, 1) := by decide +kernel
theorem dX7_away_10 : decode cX7_away 10 = .ok (.if_icmp .lt 7, 3) := by decide +kernel
theorem dX7_away_13 : decode cX7_away 13 = .ok (.sipush 400, 3) := by decide +kernel
theorem dX7_away_16 : decode cX7_away 16 = .ok (.ireturn, 1) := by decide +kernel
theorem dX7_away_17 : decode cX7_away 17 = .ok (.aload_n 0, 1) := by decide +kernel
theorem dX7_away_18 : decode cX7_away 18 = .ok (.getfield 11, 3) := by decide +kernel
theorem dX7_away_21 : decode cX7_away 21 = .ok (.iload_n 1, 1) := by decide +kernel
theorem dX7_away_22 : decode cX7_away 22 = .ok (.aaload, 1) := by decide +kernel
theorem dX7_away_23 : decode cX7_away 23 = .ok (.getfield 32, 3) := by decide +kernel
theorem dX7_away_26 : decode cX7_away 26 = .ok (.aload_n 0, 1) := by decide +kernel
theorem dX7_away_27 : decode cX7_away 27 = .ok (.getfield 17, 3) := by decide +kernel
theorem dX7_away_30 : decode cX7_away 30 = .ok (.invokestatic 35, 3) := by decide +kernel
theorem dX7_away_33 : decode cX7_away 33 = .ok (.isub, 1) := by decide +kernel
theorem dX7_away_34 : decode cX7_away 34 = .ok (.invokestatic 39, 3) := by decide +kernel
theorem dX7_away_37 : decode cX7_away 37 = .ok (.aload_n 0, 1) := by decide +kernel
theorem dX7_away_38 : decode cX7_away 38 = .ok (.getfield 11, 3) := by decide +kernel
theorem dX7_away_41 : decode cX7_away 41 = .ok (.iload_n 1, 1) := by decide +kernel
theorem dX7_away_42 : decode cX7_away 42 = .ok (.aaload, 1) := by decide +kernel
theorem dX7_away_43 : decode cX7_away 43 = .ok (.getfield 44, 3) := by decide +kernel
theorem dX7_away_46 : decode cX7_away 46 = .ok (.aload_n 0, 1) := by decide +kernel
theorem dX7_away_47 : decode cX7_away 47 = .ok (.getfield 17, 3) := by decide +kernel
theorem dX7_away_50 : decode cX7_away 50 = .ok (.invokestatic 47, 3) := by decide +kernel
theorem dX7_away_53 : decode cX7_away 53 = .ok (.isub, 1) := by decide +kernel
theorem dX7_away_54 : decode cX7_away 54 = .ok (.invokestatic 39, 3) := by decide +kernel
theorem dX7_away_57 : decode cX7_away 57 = .ok (.iadd, 1) := by decide +kernel
theorem dX7_away_58 : decode cX7_away 58 = .ok (.ireturn, 1) := by decide +kernel
theorem dX7_isMade_0 : decode cX7_isMade 0 = .ok (.iload_n 1, 1) := by decide +kernel
theorem dX7_isMade_1 : decode cX7_isMade 1 = .ok (.ifCond .lt 14, 3) := by decide +kernel
theorem dX7_isMade_4 : decode cX7_isMade 4 = .ok (.iload_n 1, 1) := by decide +kernel
theorem dX7_isMade_5 : decode cX7_isMade 5 = .ok (.iconst 1, 1) := by decide +kernel
theorem dX7_isMade_6 : decode cX7_isMade 6 = .ok (.iadd, 1) := by decide +kernel
theorem dX7_isMade_7 : decode cX7_isMade 7 = .ok (.aload_n 0, 1) := by decide +kernel
theorem dX7_isMade_8 : decode cX7_isMade 8 = .ok (.getfield 11, 3) := by decide +kernel
theorem dX7_isMade_11 : decode cX7_isMade 11 = .ok (.arraylength, 1) := by decide +kernel
theorem dX7_isMade_12 : decode cX7_isMade 12 = .ok (.if_icmp .lt 5, 3) := by decide +kernel
theorem dX7_isMade_15 : decode cX7_isMade 15 = .ok (.iconst 0, 1) := by decide +kernel
theorem dX7_isMade_16 : decode cX7_isMade 16 = .ok (.ireturn, 1) := by decide +kernel
theorem dX7_isMade_17 : decode cX7_isMade 17 = .ok (.aload_n 0, 1) := by decide +kernel
theorem dX7_isMade_18 : decode cX7_isMade 18 = .ok (.getfield 11, 3) := by decide +kernel
theorem dX7_isMade_21 : decode cX7_isMade 21 = .ok (.iload_n 1, 1) := by decide +kernel
theorem dX7_isMade_22 : decode cX7_isMade 22 = .ok (.iconst 1, 1) := by decide +kernel
theorem dX7_isMade_23 : decode cX7_isMade 23 = .ok (.iadd, 1) := by decide +kernel
theorem dX7_isMade_24 : decode cX7_isMade 24 = .ok (.aaload, 1) := by decide +kernel
theorem dX7_isMade_25 : decode cX7_isMade 25 = .ok (.astore_n 3, 1) := by decide +kernel
theorem dX7_isMade_26 : decode cX7_isMade 26 = .ok (.aload_n 3, 1) := by decide +kernel
theorem dX7_isMade_27 : decode cX7_isMade 27 = .ok (.aload_n 0, 1) := by decide +kernel
theorem dX7_isMade_28 : decode cX7_isMade 28 = .ok (.getfield 11, 3) := by decide +kernel
theorem dX7_isMade_31 : decode cX7_isMade 31 = .ok (.iload_n 1, 1) := by decide +kernel
theorem dX7_isMade_32 : decode cX7_isMade 32 = .ok (.aaload, 1) := by decide +kernel
theorem dX7_isMade_33 : decode cX7_isMade 33 = .ok (.invokevirtual 28, 3) := by decide +kernel
theorem dX7_isMade_36 : decode cX7_isMade 36 = .ok (.iload_n 2, 1) := by decide +kernel
theorem dX7_isMade_37 : decode cX7_isMade 37 = .ok (.bipush 6, 2) := by decide +kernel
theorem dX7_isMade_39 : decode cX7_isMade 39 = .ok (.isub, 1) := by decide +kernel
theorem dX7_isMade_40 : decode cX7_isMade 40 = .ok (.tableswitch 60 0 3 #[32, 39, 46, 53], 32) := by decide +kernel
theorem dX7_isMade_72 : decode cX7_isMade 72 = .ok (.aload_n 3, 1) := by decide +kernel
theorem dX7_isMade_73 : decode cX7_isMade 73 = .ok (.iconst (-1), 1) := by decide +kernel
theorem dX7_isMade_74 : decode cX7_isMade 74 = .ok (.iconst 0, 1) := by decide +kernel
theorem dX7_isMade_75 : decode cX7_isMade 75 = .ok (.invokevirtual 50, 3) := by decide +kernel
theorem dX7_isMade_78 : decode cX7_isMade 78 = .ok (.ireturn, 1) := by decide +kernel
theorem dX7_isMade_79 : decode cX7_isMade 79 = .ok (.aload_n 3, 1) := by decide +kernel
theorem dX7_isMade_80 : decode cX7_isMade 80 = .ok (.iconst 1, 1) := by decide +kernel
theorem dX7_isMade_81 : decode cX7_isMade 81 = .ok (.iconst 0, 1) := by decide +kernel
theorem dX7_isMade_82 : decode cX7_isMade 82 = .ok (.invokevirtual 50, 3) := by decide +kernel
theorem dX7_isMade_85 : decode cX7_isMade 85 = .ok (.ireturn, 1) := by decide +kernel
theorem dX7_isMade_86 : decode cX7_isMade 86 = .ok (.aload_n 3, 1) := by decide +kernel
theorem dX7_isMade_87 : decode cX7_isMade 87 = .ok (.iconst 0, 1) := by decide +kernel
theorem dX7_isMade_88 : decode cX7_isMade 88 = .ok (.iconst (-1), 1) := by decide +kernel
theorem dX7_isMade_89 : decode cX7_isMade 89 = .ok (.invokevirtual 50, 3) := by decide +kernel
theorem dX7_isMade_92 : decode cX7_isMade 92 = .ok (.ireturn, 1) := by decide +kernel
theorem dX7_isMade_93 : decode cX7_isMade 93 = .ok (.aload_n 3, 1) := by decide +kernel
theorem dX7_isMade_94 : decode cX7_isMade 94 = .ok (.iconst 0, 1) := by decide +kernel
theorem dX7_isMade_95 : decode cX7_isMade 95 = .ok (.iconst 1, 1) := by decide +kernel
theorem dX7_isMade_96 : decode cX7_isMade 96 = .ok (.invokevirtual 50, 3) := by decide +kernel
theorem dX7_isMade_99 : decode cX7_isMade 99 = .ok (.ireturn, 1) := by decide +kernel
theorem dX7_isMade_100 : decode cX7_isMade 100 = .ok (.iload_n 2, 1) := by decide +kernel
theorem dX7_isMade_101 : decode cX7_isMade 101 = .ok (.aload_n 0, 1) := by decide +kernel
theorem dX7_isMade_102 : decode cX7_isMade 102 = .ok (.getfield 21, 3) := by decide +kernel
theorem dX7_isMade_105 : decode cX7_isMade 105 = .ok (.getfield 54, 3) := by decide +kernel
theorem dX7_isMade_108 : decode cX7_isMade 108 = .ok (.if_icmp .ge 15, 3) := by decide +kernel
theorem dX7_isMade_111 : decode cX7_isMade 111 = .ok (.aload_n 3, 1) := by decide +kernel
theorem dX7_isMade_112 : decode cX7_isMade 112 = .ok (.iload_n 2, 1) := by decide +kernel
theorem dX7_isMade_113 : decode cX7_isMade 113 = .ok (.invokevirtual 59, 3) := by decide +kernel
theorem dX7_isMade_116 : decode cX7_isMade 116 = .ok (.ifCond .eq 7, 3) := by decide +kernel
theorem dX7_isMade_119 : decode cX7_isMade 119 = .ok (.iconst 1, 1) := by decide +kernel
theorem dX7_isMade_120 : decode cX7_isMade 120 = .ok (.goto 4, 3) := by decide +kernel
theorem dX7_isMade_123 : decode cX7_isMade 123 = .ok (.iconst 0, 1) := by decide +kernel
theorem dX7_isMade_124 : decode cX7_isMade 124 = .ok (.ireturn, 1) := by decide +kernel
theorem dX8_init_0 : decode cX8_init 0 = .ok (.aload_n 0, 1) := by decide +kernel
theorem dX8_init_1 : decode cX8_init 1 = .ok (.invokespecial 1, 3) := by decide +kernel
theorem dX8_init_4 : decode cX8_init 4 = .ok (.aload_n 0, 1) := by decide +kernel
theorem dX8_init_5 : decode cX8_init 5 = .ok (.iload_n 1, 1) := by decide +kernel
theorem dX8_init_6 : decode cX8_init 6 = .ok (.ifCond .ge 7, 3) := by decide +kernel
theorem dX8_init_9 : decode cX8_init 9 = .ok (.iconst 0, 1) := by decide +kernel
theorem dX8_init_10 : decode cX8_init 10 = .ok (.goto 4, 3) := by decide +kernel
theorem dX8_init_13 : decode cX8_init 13 = .ok (.iload_n 1, 1) := by decide +kernel
theorem dX8_init_14 : decode cX8_init 14 = .ok (.newarray .int, 2) := by decide +kernel
theorem dX8_init_16 : decode cX8_init 16 = .ok (.putfield 7, 3) := by decide +kernel
theorem dX8_init_19 : decode cX8_init 19 = .ok (.aload_n 0, 1) := by decide +kernel
theorem dX8_init_20 : decode cX8_init 20 = .ok (.getfield 7, 3) := by decide +kernel
theorem dX8_init_23 : decode cX8_init 23 = .ok (.iload_n 2, 1) := by decide +kernel
theorem dX8_init_24 : decode cX8_init 24 = .ok (.invokestatic 13, 3) := by decide +kernel
theorem dX8_init_27 : decode cX8_init 27 = .ok (.return_, 1) := by decide +kernel
theorem dX8_at_0 : decode cX8_at 0 = .ok (.iload_n 1, 1) := by decide +kernel
theorem dX8_at_1 : decode cX8_at 1 = .ok (.ifCond .lt 21, 3) := by decide +kernel
theorem dX8_at_4 : decode cX8_at 4 = .ok (.iload_n 1, 1) := by decide +kernel
theorem dX8_at_5 : decode cX8_at 5 = .ok (.aload_n 0, 1) := by decide +kernel
theorem dX8_at_6 : decode cX8_at 6 = .ok (.getfield 7, 3) := by decide +kernel
theorem dX8_at_9 : decode cX8_at 9 = .ok (.arraylength, 1) := by decide +kernel
theorem dX8_at_10 : decode cX8_at 10 = .ok (.if_icmp .ge 12, 3) := by decide +kernel
theorem dX8_at_13 : decode cX8_at 13 = .ok (.aload_n 0, 1) := by decide +kernel
theorem dX8_at_14 : decode cX8_at 14 = .ok (.getfield 7, 3) := by decide +kernel
theorem dX8_at_17 : decode cX8_at 17 = .ok (.iload_n 1, 1) := by decide +kernel
theorem dX8_at_18 : decode cX8_at 18 = .ok (.iaload, 1) := by decide +kernel
theorem dX8_at_19 : decode cX8_at 19 = .ok (.goto 4, 3) := by decide +kernel
theorem dX8_at_22 : decode cX8_at 22 = .ok (.iconst 0, 1) := by decide +kernel
theorem dX8_at_23 : decode cX8_at 23 = .ok (.ireturn, 1) := by decide +kernel
theorem dX8_put_0 : decode cX8_put 0 = .ok (.iload_n 1, 1) := by decide +kernel
theorem dX8_put_1 : decode cX8_put 1 = .ok (.ifCond .lt 19, 3) := by decide +kernel
theorem dX8_put_4 : decode cX8_put 4 = .ok (.iload_n 1, 1) := by decide +kernel
theorem dX8_put_5 : decode cX8_put 5 = .ok (.aload_n 0, 1) := by decide +kernel
theorem dX8_put_6 : decode cX8_put 6 = .ok (.getfield 7, 3) := by decide +kernel
theorem dX8_put_9 : decode cX8_put 9 = .ok (.arraylength, 1) := by decide +kernel
theorem dX8_put_10 : decode cX8_put 10 = .ok (.if_icmp .ge 10, 3) := by decide +kernel
theorem dX8_put_13 : decode cX8_put 13 = .ok (.aload_n 0, 1) := by decide +kernel
theorem dX8_put_14 : decode cX8_put 14 = .ok (.getfield 7, 3) := by decide +kernel
theorem dX8_put_17 : decode cX8_put 17 = .ok (.iload_n 1, 1) := by decide +kernel
theorem dX8_put_18 : decode cX8_put 18 = .ok (.iload_n 2, 1) := by decide +kernel
theorem dX8_put_19 : decode cX8_put 19 = .ok (.iastore, 1) := by decide +kernel
theorem dX8_put_20 : decode cX8_put 20 = .ok (.return_, 1) := by decide +kernel
theorem dX8_fill_0 : decode cX8_fill 0 = .ok (.aload_n 0, 1) := by decide +kernel
theorem dX8_fill_1 : decode cX8_fill 1 = .ok (.getfield 7, 3) := by decide +kernel
theorem dX8_fill_4 : decode cX8_fill 4 = .ok (.iload_n 1, 1) := by decide +kernel
theorem dX8_fill_5 : decode cX8_fill 5 = .ok (.invokestatic 13, 3) := by decide +kernel
theorem dX8_fill_8 : decode cX8_fill 8 = .ok (.return_, 1) := by decide +kernel
theorem dX8_copy_0 : decode cX8_copy 0 = .ok (.iconst 0, 1) := by decide +kernel
theorem dX8_copy_1 : decode cX8_copy 1 = .ok (.istore_n 2, 1) := by decide +kernel
theorem dX8_copy_2 : decode cX8_copy 2 = .ok (.iload_n 2, 1) := by decide +kernel
theorem dX8_copy_3 : decode cX8_copy 3 = .ok (.aload_n 0, 1) := by decide +kernel
theorem dX8_copy_4 : decode cX8_copy 4 = .ok (.getfield 7, 3) := by decide +kernel
theorem dX8_copy_7 : decode cX8_copy 7 = .ok (.arraylength, 1) := by decide +kernel
theorem dX8_copy_8 : decode cX8_copy 8 = .ok (.if_icmp .ge 20, 3) := by decide +kernel
theorem dX8_copy_11 : decode cX8_copy 11 = .ok (.aload_n 0, 1) := by decide +kernel
theorem dX8_copy_12 : decode cX8_copy 12 = .ok (.getfield 7, 3) := by decide +kernel
theorem dX8_copy_15 : decode cX8_copy 15 = .ok (.iload_n 2, 1) := by decide +kernel
theorem dX8_copy_16 : decode cX8_copy 16 = .ok (.aload_n 1, 1) := by decide +kernel
theorem dX8_copy_17 : decode cX8_copy 17 = .ok (.iload_n 2, 1) := by decide +kernel
theorem dX8_copy_18 : decode cX8_copy 18 = .ok (.invokevirtual 19, 3) := by decide +kernel
theorem dX8_copy_21 : decode cX8_copy 21 = .ok (.iastore, 1) := by decide +kernel
theorem dX8_copy_22 : decode cX8_copy 22 = .ok (.iinc 2 1, 3) := by decide +kernel
theorem dX8_copy_25 : decode cX8_copy 25 = .ok (.goto (-23), 3) := by decide +kernel
theorem dX8_copy_28 : decode cX8_copy 28 = .ok (.return_, 1) := by decide +kernel
theorem dX9_init_0 : decode cX9_init 0 = .ok (.aload_n 0, 1) := by decide +kernel
theorem dX9_init_1 : decode cX9_init 1 = .ok (.invokespecial 3, 3) := by decide +kernel
theorem dX9_init_4 : decode cX9_init 4 = .ok (.aload_n 0, 1) := by decide +kernel
theorem dX9_init_5 : decode cX9_init 5 = .ok (.new 9, 3) := by decide +kernel
theorem dX9_init_8 : decode cX9_init 8 = .ok (.dup, 1) := by decide +kernel
theorem dX9_init_9 : decode cX9_init 9 = .ok (.bipush 6, 2) := by decide +kernel
theorem dX9_init_11 : decode cX9_init 11 = .ok (.iconst (-1), 1) := by decide +kernel
theorem dX9_init_12 : decode cX9_init 12 = .ok (.invokespecial 11, 3) := by decide +kernel
theorem dX9_init_15 : decode cX9_init 15 = .ok (.putfield 14, 3) := by decide +kernel
theorem dX9_init_18 : decode cX9_init 18 = .ok (.aload_n 0, 1) := by decide +kernel
theorem dX9_init_19 : decode cX9_init 19 = .ok (.bipush 10, 2) := by decide +kernel
theorem dX9_init_21 : decode cX9_init 21 = .ok (.putfield 20, 3) := by decide +kernel
theorem dX9_init_24 : decode cX9_init 24 = .ok (.aload_n 0, 1) := by decide +kernel
theorem dX9_init_25 : decode cX9_init 25 = .ok (.bipush 10, 2) := by decide +kernel
theorem dX9_init_27 : decode cX9_init 27 = .ok (.putfield 24, 3) := by decide +kernel
theorem dX9_init_30 : decode cX9_init 30 = .ok (.aload_n 0, 1) := by decide +kernel
theorem dX9_init_31 : decode cX9_init 31 = .ok (.aload_n 1, 1) := by decide +kernel
theorem dX9_init_32 : decode cX9_init 32 = .ok (.putfield 27, 3) := by decide +kernel
theorem dX9_init_35 : decode cX9_init 35 = .ok (.aload_n 0, 1) := by decide +kernel
theorem dX9_init_36 : decode cX9_init 36 = .ok (.aload_n 2, 1) := by decide +kernel
theorem dX9_init_37 : decode cX9_init 37 = .ok (.putfield 31, 3) := by decide +kernel
theorem dX9_init_40 : decode cX9_init 40 = .ok (.aload_n 0, 1) := by decide +kernel
theorem dX9_init_41 : decode cX9_init 41 = .ok (.aload_n 3, 1) := by decide +kernel
theorem dX9_init_42 : decode cX9_init 42 = .ok (.putfield 35, 3) := by decide +kernel
theorem dX9_init_45 : decode cX9_init 45 = .ok (.return_, 1) := by decide +kernel
theorem dX9_copy_0 : decode cX9_copy 0 = .ok (.aload_n 0, 1) := by decide +kernel
theorem dX9_copy_1 : decode cX9_copy 1 = .ok (.aload_n 1, 1) := by decide +kernel
theorem dX9_copy_2 : decode cX9_copy 2 = .ok (.getfield 20, 3) := by decide +kernel
theorem dX9_copy_5 : decode cX9_copy 5 = .ok (.putfield 20, 3) := by decide +kernel
theorem dX9_copy_8 : decode cX9_copy 8 = .ok (.aload_n 0, 1) := by decide +kernel
theorem dX9_copy_9 : decode cX9_copy 9 = .ok (.aload_n 1, 1) := by decide +kernel
theorem dX9_copy_10 : decode cX9_copy 10 = .ok (.getfield 24, 3) := by decide +kernel
theorem dX9_copy_13 : decode cX9_copy 13 = .ok (.putfield 24, 3) := by decide +kernel
theorem dX9_copy_16 : decode cX9_copy 16 = .ok (.aload_n 0, 1) := by decide +kernel
theorem dX9_copy_17 : decode cX9_copy 17 = .ok (.getfield 14, 3) := by decide +kernel
theorem dX9_copy_20 : decode cX9_copy 20 = .ok (.aload_n 1, 1) := by decide +kernel
theorem dX9_copy_21 : decode cX9_copy 21 = .ok (.getfield 14, 3) := by decide +kernel
theorem dX9_copy_24 : decode cX9_copy 24 = .ok (.invokevirtual 39, 3) := by decide +kernel
theorem dX9_copy_27 : decode cX9_copy 27 = .ok (.return_, 1) := by decide +kernel
theorem dX9_hipX_0 : decode cX9_hipX 0 = .ok (.aload_n 0, 1) := by decide +kernel
theorem dX9_hipX_1 : decode cX9_hipX 1 = .ok (.getfield 20, 3) := by decide +kernel
theorem dX9_hipX_4 : decode cX9_hipX 4 = .ok (.aload_n 0, 1) := by decide +kernel
theorem dX9_hipX_5 : decode cX9_hipX 5 = .ok (.getfield 31, 3) := by decide +kernel
theorem dX9_hipX_8 : decode cX9_hipX 8 = .ok (.getfield 43, 3) := by decide +kernel
theorem dX9_hipX_11 : decode cX9_hipX 11 = .ok (.iload_n 1, 1) := by decide +kernel
theorem dX9_hipX_12 : decode cX9_hipX 12 = .ok (.invokevirtual 48, 3) := by decide +kernel
theorem dX9_hipX_15 : decode cX9_hipX 15 = .ok (.iadd, 1) := by decide +kernel
theorem dX9_hipX_16 : decode cX9_hipX 16 = .ok (.ireturn, 1) := by decide +kernel
theorem dX9_hipY_0 : decode cX9_hipY 0 = .ok (.aload_n 0, 1) := by decide +kernel
theorem dX9_hipY_1 : decode cX9_hipY 1 = .ok (.getfield 24, 3) := by decide +kernel
theorem dX9_hipY_4 : decode cX9_hipY 4 = .ok (.aload_n 0, 1) := by decide +kernel
theorem dX9_hipY_5 : decode cX9_hipY 5 = .ok (.getfield 31, 3) := by decide +kernel
theorem dX9_hipY_8 : decode cX9_hipY 8 = .ok (.getfield 52, 3) := by decide +kernel
theorem dX9_hipY_11 : decode cX9_hipY 11 = .ok (.iload_n 1, 1) := by decide +kernel
theorem dX9_hipY_12 : decode cX9_hipY 12 = .ok (.invokevirtual 48, 3) := by decide +kernel
theorem dX9_hipY_15 : decode cX9_hipY 15 = .ok (.iadd, 1) := by decide +kernel
theorem dX9_hipY_16 : decode cX9_hipY 16 = .ok (.ireturn, 1) := by decide +kernel
theorem dX9_isInReach_0 : decode cX9_isInReach 0 = .ok (.iload_n 2, 1) := by decide +kernel
theorem dX9_isInReach_1 : decode cX9_isInReach 1 = .ok (.invokestatic 55, 3) := by decide +kernel
theorem dX9_isInReach_4 : decode cX9_isInReach 4 = .ok (.aload_n 0, 1) := by decide +kernel
theorem dX9_isInReach_5 : decode cX9_isInReach 5 = .ok (.iload_n 1, 1) := by decide +kernel
theorem dX9_isInReach_6 : decode cX9_isInReach 6 = .ok (.invokevirtual 58, 3) := by decide +kernel
theorem dX9_isInReach_9 : decode cX9_isInReach 9 = .ok (.isub, 1) := by decide +kernel
theorem dX9_isInReach_10 : decode cX9_isInReach 10 = .ok (.istore_n 3, 1) := by decide +kernel
theorem dX9_isInReach_11 : decode cX9_isInReach 11 = .ok (.iload_n 2, 1) := by decide +kernel
theorem dX9_isInReach_12 : decode cX9_isInReach 12 = .ok (.invokestatic 60, 3) := by decide +kernel
theorem dX9_isInReach_15 : decode cX9_isInReach 15 = .ok (.aload_n 0, 1) := by decide +kernel
theorem dX9_isInReach_16 : decode cX9_isInReach 16 = .ok (.iload_n 1, 1) := by decide +kernel
theorem dX9_isInReach_17 : decode cX9_isInReach 17 = .ok (.invokevirtual 63, 3) := by decide +kernel
theorem dX9_isInReach_20 : decode cX9_isInReach 20 = .ok (.isub, 1) := by decide +kernel
theorem dX9_isInReach_21 : decode cX9_isInReach 21 = .ok (.istore 4, 2) := by decide +kernel
theorem dX9_isInReach_23 : decode cX9_isInReach 23 = .ok (.aload_n 0, 1) := by decide +kernel
theorem dX9_isInReach_24 : decode cX9_isInReach 24 = .ok (.getfield 31, 3) := by decide +kernel
theorem dX9_isInReach_27 : decode cX9_isInReach 27 = .ok (.getfield 65, 3) := by decide +kernel
theorem dX9_isInReach_30 : decode cX9_isInReach 30 = .ok (.iload_n 1, 1) := by decide +kernel
theorem dX9_isInReach_31 : decode cX9_isInReach 31 = .ok (.invokevirtual 48, 3) := by decide +kernel
theorem dX9_isInReach_34 : decode cX9_isInReach 34 = .ok (.istore 5, 2) := by decide +kernel
theorem dX9_isInReach_36 : decode cX9_isInReach 36 = .ok (.iload_n 3, 1) := by decide +kernel
theorem dX9_isInReach_37 : decode cX9_isInReach 37 = .ok (.iload_n 3, 1) := by decide +kernel
theorem dX9_isInReach_38 : decode cX9_isInReach 38 = .ok (.imul, 1) := by decide +kernel
theorem dX9_isInReach_39 : decode cX9_isInReach 39 = .ok (.iload 4, 2) := by decide +kernel
theorem dX9_isInReach_41 : decode cX9_isInReach 41 = .ok (.iload 4, 2) := by decide +kernel
theorem dX9_isInReach_43 : decode cX9_isInReach 43 = .ok (.imul, 1) := by decide +kernel
theorem dX9_isInReach_44 : decode cX9_isInReach 44 = .ok (.iadd, 1) := by decide +kernel
theorem dX9_isInReach_45 : decode cX9_isInReach 45 = .ok (.iload 5, 2) := by decide +kernel
theorem dX9_isInReach_47 : decode cX9_isInReach 47 = .ok (.iload 5, 2) := by decide +kernel
theorem dX9_isInReach_49 : decode cX9_isInReach 49 = .ok (.imul, 1) := by decide +kernel
theorem dX9_isInReach_50 : decode cX9_isInReach 50 = .ok (.if_icmp .gt 7, 3) := by decide +kernel
theorem dX9_isInReach_53 : decode cX9_isInReach 53 = .ok (.iconst 1, 1) := by decide +kernel
theorem dX9_isInReach_54 : decode cX9_isInReach 54 = .ok (.goto 4, 3) := by decide +kernel
theorem dX9_isInReach_57 : decode cX9_isInReach 57 = .ok (.iconst 0, 1) := by decide +kernel
theorem dX9_isInReach_58 : decode cX9_isInReach 58 = .ok (.ireturn, 1) := by decide +kernel
theorem dX9_far_0 : decode cX9_far 0 = .ok (.iload_n 2, 1) := by decide +kernel
theorem dX9_far_1 : decode cX9_far 1 = .ok (.invokestatic 55, 3) := by decide +kernel
theorem dX9_far_4 : decode cX9_far 4 = .ok (.aload_n 0, 1) := by decide +kernel
theorem dX9_far_5 : decode cX9_far 5 = .ok (.iload_n 1, 1) := by decide +kernel
theorem dX9_far_6 : decode cX9_far 6 = .ok (.invokevirtual 58, 3) := by decide +kernel
theorem dX9_far_9 : decode cX9_far 9 = .ok (.isub, 1) := by decide +kernel
theorem dX9_far_10 : decode cX9_far 10 = .ok (.invokestatic 68, 3) := by decide +kernel
theorem dX9_far_13 : decode cX9_far 13 = .ok (.iload_n 2, 1) := by decide +kernel
theorem dX9_far_14 : decode cX9_far 14 = .ok (.invokestatic 60, 3) := by decide +kernel
theorem dX9_far_17 : decode cX9_far 17 = .ok (.aload_n 0, 1) := by decide +kernel
theorem dX9_far_18 : decode cX9_far 18 = .ok (.iload_n 1, 1) := by decide +kernel
theorem dX9_far_19 : decode cX9_far 19 = .ok (.invokevirtual 63, 3) := by decide +kernel
theorem dX9_far_22 : decode cX9_far 22 = .ok (.isub, 1) := by decide +kernel
theorem dX9_far_23 : decode cX9_far 23 = .ok (.invokestatic 68, 3) := by decide +kernel
theorem dX9_far_26 : decode cX9_far 26 = .ok (.iadd, 1) := by decide +kernel
theorem dX9_far_27 : decode cX9_far 27 = .ok (.ireturn, 1) := by decide +kernel
theorem dX9_isTaken_0 : decode cX9_isTaken 0 = .ok (.iconst 0, 1) := by decide +kernel
theorem dX9_isTaken_1 : decode cX9_isTaken 1 = .ok (.istore_n 3, 1) := by decide +kernel
theorem dX9_isTaken_2 : decode cX9_isTaken 2 = .ok (.iload_n 3, 1) := by decide +kernel
theorem dX9_isTaken_3 : decode cX9_isTaken 3 = .ok (.bipush 6, 2) := by decide +kernel
theorem dX9_isTaken_5 : decode cX9_isTaken 5 = .ok (.if_icmp .ge 28, 3) := by decide +kernel
theorem dX9_isTaken_8 : decode cX9_isTaken 8 = .ok (.iload_n 3, 1) := by decide +kernel
theorem dX9_isTaken_9 : decode cX9_isTaken 9 = .ok (.iload_n 2, 1) := by decide +kernel
theorem dX9_isTaken_10 : decode cX9_isTaken 10 = .ok (.if_icmp .eq 17, 3) := by decide +kernel
theorem dX9_isTaken_13 : decode cX9_isTaken 13 = .ok (.aload_n 0, 1) := by decide +kernel
theorem dX9_isTaken_14 : decode cX9_isTaken 14 = .ok (.getfield 14, 3) := by decide +kernel
theorem dX9_isTaken_17 : decode cX9_isTaken 17 = .ok (.iload_n 3, 1) := by decide +kernel
theorem dX9_isTaken_18 : decode cX9_isTaken 18 = .ok (.invokevirtual 48, 3) := by decide +kernel
theorem dX9_isTaken_21 : decode cX9_isTaken 21 = .ok (.iload_n 1, 1) := by decide +kernel
theorem dX9_isTaken_22 : decode cX9_isTaken 22 = .ok (.if_icmp .ne 5, 3) := by decide +kernel
theorem dX9_isTaken_25 : decode cX9_isTaken 25 = .ok (.iconst 1, 1) := by decide +kernel
theorem dX9_isTaken_26 : decode cX9_isTaken 26 = .ok (.ireturn, 1) := by decide +kernel
theorem dX9_isTaken_27 : decode cX9_isTaken 27 = .ok (.iinc 3 1, 3) := by decide +kernel
theorem dX9_isTaken_30 : decode cX9_isTaken 30 = .ok (.goto (-28), 3) := by decide +kernel
theorem dX9_isTaken_33 : decode cX9_isTaken 33 = .ok (.iconst 0, 1) := by decide +kernel
theorem dX9_isTaken_34 : decode cX9_isTaken 34 = .ok (.ireturn, 1) := by decide +kernel
theorem dX9_down_0 : decode cX9_down 0 = .ok (.iconst 0, 1) := by decide +kernel
theorem dX9_down_1 : decode cX9_down 1 = .ok (.istore_n 1, 1) := by decide +kernel
theorem dX9_down_2 : decode cX9_down 2 = .ok (.iconst 0, 1) := by decide +kernel
theorem dX9_down_3 : decode cX9_down 3 = .ok (.istore_n 2, 1) := by decide +kernel
theorem dX9_down_4 : decode cX9_down 4 = .ok (.iload_n 2, 1) := by decide +kernel
theorem dX9_down_5 : decode cX9_down 5 = .ok (.bipush 6, 2) := by decide +kernel
theorem dX9_down_7 : decode cX9_down 7 = .ok (.if_icmp .ge 24, 3) := by decide +kernel
theorem dX9_down_10 : decode cX9_down 10 = .ok (.aload_n 0, 1) := by decide +kernel
theorem dX9_down_11 : decode cX9_down 11 = .ok (.getfield 14, 3) := by decide +kernel
theorem dX9_down_14 : decode cX9_down 14 = .ok (.iload_n 2, 1) := by decide +kernel
theorem dX9_down_15 : decode cX9_down 15 = .ok (.invokevirtual 48, 3) := by decide +kernel
theorem dX9_down_18 : decode cX9_down 18 = .ok (.iconst (-1), 1) := by decide +kernel
theorem dX9_down_19 : decode cX9_down 19 = .ok (.if_icmp .eq 6, 3) := by decide +kernel
theorem dX9_down_22 : decode cX9_down 22 = .ok (.iinc 1 1, 3) := by decide +kernel
theorem dX9_down_25 : decode cX9_down 25 = .ok (.iinc 2 1, 3) := by decide +kernel
theorem dX9_down_28 : decode cX9_down 28 = .ok (.goto (-24), 3) := by decide +kernel
theorem dX9_down_31 : decode cX9_down 31 = .ok (.iload_n 1, 1) := by decide +kernel
theorem dX9_down_32 : decode cX9_down 32 = .ok (.ireturn, 1) := by decide +kernel
theorem dX9_level_0 : decode cX9_level 0 = .ok (.iconst 0, 1) := by decide +kernel
theorem dX9_level_1 : decode cX9_level 1 = .ok (.istore_n 2, 1) := by decide +kernel
theorem dX9_level_2 : decode cX9_level 2 = .ok (.iconst 0, 1) := by decide +kernel
theorem dX9_level_3 : decode cX9_level 3 = .ok (.istore_n 3, 1) := by decide +kernel
theorem dX9_level_4 : decode cX9_level 4 = .ok (.iload_n 3, 1) := by decide +kernel
theorem dX9_level_5 : decode cX9_level 5 = .ok (.bipush 6, 2) := by decide +kernel
theorem dX9_level_7 : decode cX9_level 7 = .ok (.if_icmp .ge 47, 3) := by decide +kernel
theorem dX9_level_10 : decode cX9_level 10 = .ok (.aload_n 0, 1) := by decide +kernel
theorem dX9_level_11 : decode cX9_level 11 = .ok (.getfield 14, 3) := by decide +kernel
theorem dX9_level_14 : decode cX9_level 14 = .ok (.iload_n 3, 1) := by decide +kernel
theorem dX9_level_15 : decode cX9_level 15 = .ok (.invokevirtual 48, 3) := by decide +kernel
theorem dX9_level_18 : decode cX9_level 18 = .ok (.istore 4, 2) := by decide +kernel
theorem dX9_level_20 : decode cX9_level 20 = .ok (.iload_n 3, 1) := by decide +kernel
theorem dX9_level_21 : decode cX9_level 21 = .ok (.iload_n 1, 1) := by decide +kernel
theorem dX9_level_22 : decode cX9_level 22 = .ok (.if_icmp .eq 26, 3) := by decide +kernel
theorem dX9_level_25 : decode cX9_level 25 = .ok (.iload 4, 2) := by decide +kernel
theorem dX9_level_27 : decode cX9_level 27 = .ok (.iconst (-1), 1) := by decide +kernel
theorem dX9_level_28 : decode cX9_level 28 = .ok (.if_icmp .eq 20, 3) := by decide +kernel
theorem dX9_level_31 : decode cX9_level 31 = .ok (.iload_n 2, 1) := by decide +kernel
theorem dX9_level_32 : decode cX9_level 32 = .ok (.aload_n 0, 1) := by decide +kernel
theorem dX9_level_33 : decode cX9_level 33 = .ok (.getfield 27, 3) := by decide +kernel
theorem dX9_level_36 : decode cX9_level 36 = .ok (.getfield 73, 3) := by decide +kernel
theorem dX9_level_39 : decode cX9_level 39 = .ok (.iload 4, 2) := by decide +kernel
theorem dX9_level_41 : decode cX9_level 41 = .ok (.invokevirtual 48, 3) := by decide +kernel
theorem dX9_level_44 : decode cX9_level 44 = .ok (.invokestatic 78, 3) := by decide +kernel
theorem dX9_level_47 : decode cX9_level 47 = .ok (.istore_n 2, 1) := by decide +kernel
theorem dX9_level_48 : decode cX9_level 48 = .ok (.iinc 3 1, 3) := by decide +kernel
theorem dX9_level_51 : decode cX9_level 51 = .ok (.goto (-47), 3) := by decide +kernel
theorem dX9_level_54 : decode cX9_level 54 = .ok (.iload_n 2, 1) := by decide +kernel
theorem dX9_level_55 : decode cX9_level 55 = .ok (.ireturn, 1) := by decide +kernel
theorem dX9_pressure_0 : decode cX9_pressure 0 = .ok (.aload_n 0, 1) := by decide +kernel
theorem dX9_pressure_1 : decode cX9_pressure 1 = .ok (.getfield 31, 3) := by decide +kernel
theorem dX9_pressure_4 : decode cX9_pressure 4 = .ok (.invokevirtual 82, 3) := by decide +kernel
theorem dX9_pressure_7 : decode cX9_pressure 7 = .ok (.aload_n 0, 1) := by decide +kernel
theorem dX9_pressure_8 : decode cX9_pressure 8 = .ok (.invokevirtual 86, 3) := by decide +kernel
theorem dX9_pressure_11 : decode cX9_pressure 11 = .ok (.invokestatic 89, 3) := by decide +kernel
theorem dX9_pressure_14 : decode cX9_pressure 14 = .ok (.ireturn, 1) := by decide +kernel
theorem dX9_sinking_0 : decode cX9_sinking 0 = .ok (.aload_n 0, 1) := by decide +kernel
theorem dX9_sinking_1 : decode cX9_sinking 1 = .ok (.invokevirtual 92, 3) := by decide +kernel
theorem dX9_sinking_4 : decode cX9_sinking 4 = .ok (.istore_n 1, 1) := by decide +kernel
theorem dX9_sinking_5 : decode cX9_sinking 5 = .ok (.iconst 0, 1) := by decide +kernel
theorem dX9_sinking_6 : decode cX9_sinking 6 = .ok (.istore_n 2, 1) := by decide +kernel
theorem dX9_sinking_7 : decode cX9_sinking 7 = .ok (.iconst 0, 1) := by decide +kernel
theorem dX9_sinking_8 : decode cX9_sinking 8 = .ok (.istore_n 3, 1) := by decide +kernel
theorem dX9_sinking_9 : decode cX9_sinking 9 = .ok (.iload_n 3, 1) := by decide +kernel
theorem dX9_sinking_10 : decode cX9_sinking 10 = .ok (.bipush 6, 2) := by decide +kernel
theorem dX9_sinking_12 : decode cX9_sinking 12 = .ok (.if_icmp .ge 47, 3) := by decide +kernel
theorem dX9_sinking_15 : decode cX9_sinking 15 = .ok (.aload_n 0, 1) := by decide +kernel
theorem dX9_sinking_16 : decode cX9_sinking 16 = .ok (.getfield 14, 3) := by decide +kernel
theorem dX9_sinking_19 : decode cX9_sinking 19 = .ok (.iload_n 3, 1) := by decide +kernel
theorem dX9_sinking_20 : decode cX9_sinking 20 = .ok (.invokevirtual 48, 3) := by decide +kernel
theorem dX9_sinking_23 : decode cX9_sinking 23 = .ok (.istore 4, 2) := by decide +kernel
theorem dX9_sinking_25 : decode cX9_sinking 25 = .ok (.iload 4, 2) := by decide +kernel
theorem dX9_sinking_27 : decode cX9_sinking 27 = .ok (.iconst (-1), 1) := by decide +kernel
theorem dX9_sinking_28 : decode cX9_sinking 28 = .ok (.if_icmp .eq 25, 3) := by decide +kernel
theorem dX9_sinking_31 : decode cX9_sinking 31 = .ok (.aload_n 0, 1) := by decide +kernel
theorem dX9_sinking_32 : decode cX9_sinking 32 = .ok (.getfield 27, 3) := by decide +kernel
theorem dX9_sinking_35 : decode cX9_sinking 35 = .ok (.getfield 95, 3) := by decide +kernel
theorem dX9_sinking_38 : decode cX9_sinking 38 = .ok (.iload 4, 2) := by decide +kernel
theorem dX9_sinking_40 : decode cX9_sinking 40 = .ok (.invokevirtual 48, 3) := by decide +kernel
theorem dX9_sinking_43 : decode cX9_sinking 43 = .ok (.iload_n 1, 1) := by decide +kernel
theorem dX9_sinking_44 : decode cX9_sinking 44 = .ok (.if_icmp .ge 9, 3) := by decide +kernel
theorem dX9_sinking_47 : decode cX9_sinking 47 = .ok (.iload_n 2, 1) := by decide +kernel
theorem dX9_sinking_48 : decode cX9_sinking 48 = .ok (.iconst 1, 1) := by decide +kernel
theorem dX9_sinking_49 : decode cX9_sinking 49 = .ok (.iload_n 3, 1) := by decide +kernel
theorem dX9_sinking_50 : decode cX9_sinking 50 = .ok (.ishl, 1) := by decide +kernel
theorem dX9_sinking_51 : decode cX9_sinking 51 = .ok (.ior, 1) := by decide +kernel
theorem dX9_sinking_52 : decode cX9_sinking 52 = .ok (.istore_n 2, 1) := by decide +kernel
theorem dX9_sinking_53 : decode cX9_sinking 53 = .ok (.iinc 3 1, 3) := by decide +kernel
theorem dX9_sinking_56 : decode cX9_sinking 56 = .ok (.goto (-47), 3) := by decide +kernel
theorem dX9_sinking_59 : decode cX9_sinking 59 = .ok (.iload_n 2, 1) := by decide +kernel
theorem dX9_sinking_60 : decode cX9_sinking 60 = .ok (.ireturn, 1) := by decide +kernel
theorem dX9_raise_0 : decode cX9_raise 0 = .ok (.iconst 0, 1) := by decide +kernel
theorem dX9_raise_1 : decode cX9_raise 1 = .ok (.istore_n 2, 1) := by decide +kernel
theorem dX9_raise_2 : decode cX9_raise 2 = .ok (.iload_n 2, 1) := by decide +kernel
theorem dX9_raise_3 : decode cX9_raise 3 = .ok (.bipush 6, 2) := by decide +kernel
theorem dX9_raise_5 : decode cX9_raise 5 = .ok (.if_icmp .ge 26, 3) := by decide +kernel
theorem dX9_raise_8 : decode cX9_raise 8 = .ok (.iload_n 1, 1) := by decide +kernel
theorem dX9_raise_9 : decode cX9_raise 9 = .ok (.iload_n 2, 1) := by decide +kernel
theorem dX9_raise_10 : decode cX9_raise 10 = .ok (.ishr, 1) := by decide +kernel
theorem dX9_raise_11 : decode cX9_raise 11 = .ok (.iconst 1, 1) := by decide +kernel
theorem dX9_raise_12 : decode cX9_raise 12 = .ok (.iand, 1) := by decide +kernel
theorem dX9_raise_13 : decode cX9_raise 13 = .ok (.ifCond .eq 12, 3) := by decide +kernel
theorem dX9_raise_16 : decode cX9_raise 16 = .ok (.aload_n 0, 1) := by decide +kernel
theorem dX9_raise_17 : decode cX9_raise 17 = .ok (.getfield 14, 3) := by decide +kernel
theorem dX9_raise_20 : decode cX9_raise 20 = .ok (.iload_n 2, 1) := by decide +kernel
theorem dX9_raise_21 : decode cX9_raise 21 = .ok (.iconst (-1), 1) := by decide +kernel
theorem dX9_raise_22 : decode cX9_raise 22 = .ok (.invokevirtual 98, 3) := by decide +kernel
theorem dX9_raise_25 : decode cX9_raise 25 = .ok (.iinc 2 1, 3) := by decide +kernel
theorem dX9_raise_28 : decode cX9_raise 28 = .ok (.goto (-26), 3) := by decide +kernel
theorem dX9_raise_31 : decode cX9_raise 31 = .ok (.return_, 1) := by decide +kernel
theorem dX9_sinkAway_0 : decode cX9_sinkAway 0 = .ok (.aload_n 0, 1) := by decide +kernel
theorem dX9_sinkAway_1 : decode cX9_sinkAway 1 = .ok (.invokevirtual 101, 3) := by decide +kernel
theorem dX9_sinkAway_4 : decode cX9_sinkAway 4 = .ok (.istore_n 1, 1) := by decide +kernel
theorem dX9_sinkAway_5 : decode cX9_sinkAway 5 = .ok (.iload_n 1, 1) := by decide +kernel
theorem dX9_sinkAway_6 : decode cX9_sinkAway 6 = .ok (.istore_n 2, 1) := by decide +kernel
theorem dX9_sinkAway_7 : decode cX9_sinkAway 7 = .ok (.iconst 0, 1) := by decide +kernel
theorem dX9_sinkAway_8 : decode cX9_sinkAway 8 = .ok (.istore_n 3, 1) := by decide +kernel
theorem dX9_sinkAway_9 : decode cX9_sinkAway 9 = .ok (.iload_n 2, 1) := by decide +kernel
theorem dX9_sinkAway_10 : decode cX9_sinkAway 10 = .ok (.ifCond .eq 25, 3) := by decide +kernel
theorem dX9_sinkAway_13 : decode cX9_sinkAway 13 = .ok (.iload_n 3, 1) := by decide +kernel
theorem dX9_sinkAway_14 : decode cX9_sinkAway 14 = .ok (.bipush 6, 2) := by decide +kernel
theorem dX9_sinkAway_16 : decode cX9_sinkAway 16 = .ok (.if_icmp .ge 19, 3) := by decide +kernel
theorem dX9_sinkAway_19 : decode cX9_sinkAway 19 = .ok (.aload_n 0, 1) := by decide +kernel
theorem dX9_sinkAway_20 : decode cX9_sinkAway 20 = .ok (.iload_n 2, 1) := by decide +kernel
theorem dX9_sinkAway_21 : decode cX9_sinkAway 21 = .ok (.invokevirtual 104, 3) := by decide +kernel
theorem dX9_sinkAway_24 : decode cX9_sinkAway 24 = .ok (.aload_n 0, 1) := by decide +kernel
theorem dX9_sinkAway_25 : decode cX9_sinkAway 25 = .ok (.invokevirtual 101, 3) := by decide +kernel
theorem dX9_sinkAway_28 : decode cX9_sinkAway 28 = .ok (.istore_n 2, 1) := by decide +kernel
theorem dX9_sinkAway_29 : decode cX9_sinkAway 29 = .ok (.iinc 3 1, 3) := by decide +kernel
theorem dX9_sinkAway_32 : decode cX9_sinkAway 32 = .ok (.goto (-23), 3) := by decide +kernel
theorem dX9_sinkAway_35 : decode cX9_sinkAway 35 = .ok (.iload_n 1, 1) := by decide +kernel
theorem dX9_sinkAway_36 : decode cX9_sinkAway 36 = .ok (.ifCond .eq 7, 3) := by decide +kernel
theorem dX9_sinkAway_39 : decode cX9_sinkAway 39 = .ok (.iconst 1, 1) := by decide +kernel
theorem dX9_sinkAway_40 : decode cX9_sinkAway 40 = .ok (.goto 4, 3) := by decide +kernel
theorem dX9_sinkAway_43 : decode cX9_sinkAway 43 = .ok (.iconst 0, 1) := by decide +kernel
theorem dX9_sinkAway_44 : decode cX9_sinkAway 44 = .ok (.ireturn, 1) := by decide +kernel
theorem dX9_momentX_0 : decode cX9_momentX 0 = .ok (.bipush 10, 2) := by decide +kernel
theorem dX9_momentX_2 : decode cX9_momentX 2 = .ok (.aload_n 0, 1) := by decide +kernel
theorem dX9_momentX_3 : decode cX9_momentX 3 = .ok (.getfield 20, 3) := by decide +kernel
theorem dX9_momentX_6 : decode cX9_momentX 6 = .ok (.imul, 1) := by decide +kernel
theorem dX9_momentX_7 : decode cX9_momentX 7 = .ok (.aload_n 0, 1) := by decide +kernel
theorem dX9_momentX_8 : decode cX9_momentX 8 = .ok (.getfield 31, 3) := by decide +kernel
theorem dX9_momentX_11 : decode cX9_momentX 11 = .ok (.getfield 108, 3) := by decide +kernel
theorem dX9_momentX_14 : decode cX9_momentX 14 = .ok (.aload_n 0, 1) := by decide +kernel
theorem dX9_momentX_15 : decode cX9_momentX 15 = .ok (.getfield 20, 3) := by decide +kernel
theorem dX9_momentX_18 : decode cX9_momentX 18 = .ok (.aload_n 0, 1) := by decide +kernel
theorem dX9_momentX_19 : decode cX9_momentX 19 = .ok (.getfield 31, 3) := by decide +kernel
theorem dX9_momentX_22 : decode cX9_momentX 22 = .ok (.getfield 111, 3) := by decide +kernel
theorem dX9_momentX_25 : decode cX9_momentX 25 = .ok (.iadd, 1) := by decide +kernel
theorem dX9_momentX_26 : decode cX9_momentX 26 = .ok (.imul, 1) := by decide +kernel
theorem dX9_momentX_27 : decode cX9_momentX 27 = .ok (.iadd, 1) := by decide +kernel
theorem dX9_momentX_28 : decode cX9_momentX 28 = .ok (.ireturn, 1) := by decide +kernel
theorem dX9_momentY_0 : decode cX9_momentY 0 = .ok (.bipush 10, 2) := by decide +kernel
theorem dX9_momentY_2 : decode cX9_momentY 2 = .ok (.aload_n 0, 1) := by decide +kernel
theorem dX9_momentY_3 : decode cX9_momentY 3 = .ok (.getfield 24, 3) := by decide +kernel
theorem dX9_momentY_6 : decode cX9_momentY 6 = .ok (.imul, 1) := by decide +kernel
theorem dX9_momentY_7 : decode cX9_momentY 7 = .ok (.aload_n 0, 1) := by decide +kernel
theorem dX9_momentY_8 : decode cX9_momentY 8 = .ok (.getfield 31, 3) := by decide +kernel
theorem dX9_momentY_11 : decode cX9_momentY 11 = .ok (.getfield 108, 3) := by decide +kernel
theorem dX9_momentY_14 : decode cX9_momentY 14 = .ok (.aload_n 0, 1) := by decide +kernel
theorem dX9_momentY_15 : decode cX9_momentY 15 = .ok (.getfield 24, 3) := by decide +kernel
theorem dX9_momentY_18 : decode cX9_momentY 18 = .ok (.aload_n 0, 1) := by decide +kernel
theorem dX9_momentY_19 : decode cX9_momentY 19 = .ok (.getfield 31, 3) := by decide +kernel
theorem dX9_momentY_22 : decode cX9_momentY 22 = .ok (.getfield 114, 3) := by decide +kernel
theorem dX9_momentY_25 : decode cX9_momentY 25 = .ok (.iadd, 1) := by decide +kernel
theorem dX9_momentY_26 : decode cX9_momentY 26 = .ok (.imul, 1) := by decide +kernel
theorem dX9_momentY_27 : decode cX9_momentY 27 = .ok (.iadd, 1) := by decide +kernel
theorem dX9_momentY_28 : decode cX9_momentY 28 = .ok (.ireturn, 1) := by decide +kernel
theorem dX9_holdsWithout_0 : decode cX9_holdsWithout 0 = .ok (.aload_n 0, 1) := by decide +kernel
theorem dX9_holdsWithout_1 : decode cX9_holdsWithout 1 = .ok (.getfield 35, 3) := by decide +kernel
theorem dX9_holdsWithout_4 : decode cX9_holdsWithout 4 = .ok (.aload_n 0, 1) := by decide +kernel
theorem dX9_holdsWithout_5 : decode cX9_holdsWithout 5 = .ok (.getfield 14, 3) := by decide +kernel
theorem dX9_holdsWithout_8 : decode cX9_holdsWithout 8 = .ok (.iload_n 1, 1) := by decide +kernel
theorem dX9_holdsWithout_9 : decode cX9_holdsWithout 9 = .ok (.invokevirtual 117, 3) := by decide +kernel
theorem dX9_holdsWithout_12 : decode cX9_holdsWithout 12 = .ok (.aload_n 0, 1) := by decide +kernel
theorem dX9_holdsWithout_13 : decode cX9_holdsWithout 13 = .ok (.getfield 35, 3) := by decide +kernel
theorem dX9_holdsWithout_16 : decode cX9_holdsWithout 16 = .ok (.aload_n 0, 1) := by decide +kernel
theorem dX9_holdsWithout_17 : decode cX9_holdsWithout 17 = .ok (.invokevirtual 123, 3) := by decide +kernel
theorem dX9_holdsWithout_20 : decode cX9_holdsWithout 20 = .ok (.aload_n 0, 1) := by decide +kernel
theorem dX9_holdsWithout_21 : decode cX9_holdsWithout 21 = .ok (.invokevirtual 126, 3) := by decide +kernel
theorem dX9_holdsWithout_24 : decode cX9_holdsWithout 24 = .ok (.aload_n 0, 1) := by decide +kernel
theorem dX9_holdsWithout_25 : decode cX9_holdsWithout 25 = .ok (.getfield 31, 3) := by decide +kernel
theorem dX9_holdsWithout_28 : decode cX9_holdsWithout 28 = .ok (.invokevirtual 82, 3) := by decide +kernel
theorem dX9_holdsWithout_31 : decode cX9_holdsWithout 31 = .ok (.invokevirtual 129, 3) := by decide +kernel
theorem dX9_holdsWithout_34 : decode cX9_holdsWithout 34 = .ok (.ireturn, 1) := by decide +kernel
theorem dX9_direction_0 : decode cX9_direction 0 = .ok (.iconst 0, 1) := by decide +kernel
theorem dX9_direction_1 : decode cX9_direction 1 = .ok (.istore_n 1, 1) := by decide +kernel
theorem dX9_direction_2 : decode cX9_direction 2 = .ok (.iconst 0, 1) := by decide +kernel
theorem dX9_direction_3 : decode cX9_direction 3 = .ok (.istore_n 2, 1) := by decide +kernel
theorem dX9_direction_4 : decode cX9_direction 4 = .ok (.iconst 0, 1) := by decide +kernel
theorem dX9_direction_5 : decode cX9_direction 5 = .ok (.istore_n 3, 1) := by decide +kernel
theorem dX9_direction_6 : decode cX9_direction 6 = .ok (.iconst 0, 1) := by decide +kernel
theorem dX9_direction_7 : decode cX9_direction 7 = .ok (.istore 4, 2) := by decide +kernel
theorem dX9_direction_9 : decode cX9_direction 9 = .ok (.iload 4, 2) := by decide +kernel
theorem dX9_direction_11 : decode cX9_direction 11 = .ok (.bipush 6, 2) := by decide +kernel
theorem dX9_direction_13 : decode cX9_direction 13 = .ok (.if_icmp .ge 45, 3) := by decide +kernel
theorem dX9_direction_16 : decode cX9_direction 16 = .ok (.aload_n 0, 1) := by decide +kernel
theorem dX9_direction_17 : decode cX9_direction 17 = .ok (.getfield 14, 3) := by decide +kernel
theorem dX9_direction_20 : decode cX9_direction 20 = .ok (.iload 4, 2) := by decide +kernel
theorem dX9_direction_22 : decode cX9_direction 22 = .ok (.invokevirtual 48, 3) := by decide +kernel
theorem dX9_direction_25 : decode cX9_direction 25 = .ok (.istore 5, 2) := by decide +kernel
theorem dX9_direction_27 : decode cX9_direction 27 = .ok (.iload 5, 2) := by decide +kernel
theorem dX9_direction_29 : decode cX9_direction 29 = .ok (.iconst (-1), 1) := by decide +kernel
theorem dX9_direction_30 : decode cX9_direction 30 = .ok (.if_icmp .eq 22, 3) := by decide +kernel
theorem dX9_direction_33 : decode cX9_direction 33 = .ok (.iinc 1 1, 3) := by decide +kernel
theorem dX9_direction_36 : decode cX9_direction 36 = .ok (.iload_n 2, 1) := by decide +kernel
theorem dX9_direction_37 : decode cX9_direction 37 = .ok (.iload 5, 2) := by decide +kernel
theorem dX9_direction_39 : decode cX9_direction 39 = .ok (.invokestatic 55, 3) := by decide +kernel
theorem dX9_direction_42 : decode cX9_direction 42 = .ok (.iadd, 1) := by decide +kernel
theorem dX9_direction_43 : decode cX9_direction 43 = .ok (.istore_n 2, 1) := by decide +kernel
theorem dX9_direction_44 : decode cX9_direction 44 = .ok (.iload_n 3, 1) := by decide +kernel
theorem dX9_direction_45 : decode cX9_direction 45 = .ok (.iload 5, 2) := by decide +kernel
theorem dX9_direction_47 : decode cX9_direction 47 = .ok (.invokestatic 60, 3) := by decide +kernel
theorem dX9_direction_50 : decode cX9_direction 50 = .ok (.iadd, 1) := by decide +kernel
theorem dX9_direction_51 : decode cX9_direction 51 = .ok (.istore_n 3, 1) := by decide +kernel
theorem dX9_direction_52 : decode cX9_direction 52 = .ok (.iinc 4 1, 3) := by decide +kernel
theorem dX9_direction_55 : decode cX9_direction 55 = .ok (.goto (-46), 3) := by decide +kernel
theorem dX9_direction_58 : decode cX9_direction 58 = .ok (.aload_n 0, 1) := by decide +kernel
theorem dX9_direction_59 : decode cX9_direction 59 = .ok (.invokevirtual 123, 3) := by decide +kernel
theorem dX9_direction_62 : decode cX9_direction 62 = .ok (.iload_n 1, 1) := by decide +kernel
theorem dX9_direction_63 : decode cX9_direction 63 = .ok (.imul, 1) := by decide +kernel
theorem dX9_direction_64 : decode cX9_direction 64 = .ok (.iload_n 2, 1) := by decide +kernel
theorem dX9_direction_65 : decode cX9_direction 65 = .ok (.aload_n 0, 1) := by decide +kernel
theorem dX9_direction_66 : decode cX9_direction 66 = .ok (.getfield 31, 3) := by decide +kernel
theorem dX9_direction_69 : decode cX9_direction 69 = .ok (.invokevirtual 82, 3) := by decide +kernel
theorem dX9_direction_72 : decode cX9_direction 72 = .ok (.imul, 1) := by decide +kernel
theorem dX9_direction_73 : decode cX9_direction 73 = .ok (.isub, 1) := by decide +kernel
theorem dX9_direction_74 : decode cX9_direction 74 = .ok (.invokestatic 133, 3) := by decide +kernel
theorem dX9_direction_77 : decode cX9_direction 77 = .ok (.istore 4, 2) := by decide +kernel
theorem dX9_direction_79 : decode cX9_direction 79 = .ok (.aload_n 0, 1) := by decide +kernel
theorem dX9_direction_80 : decode cX9_direction 80 = .ok (.invokevirtual 126, 3) := by decide +kernel
theorem dX9_direction_83 : decode cX9_direction 83 = .ok (.iload_n 1, 1) := by decide +kernel
theorem dX9_direction_84 : decode cX9_direction 84 = .ok (.imul, 1) := by decide +kernel
theorem dX9_direction_85 : decode cX9_direction 85 = .ok (.iload_n 3, 1) := by decide +kernel
theorem dX9_direction_86 : decode cX9_direction 86 = .ok (.aload_n 0, 1) := by decide +kernel
theorem dX9_direction_87 : decode cX9_direction 87 = .ok (.getfield 31, 3) := by decide +kernel
theorem dX9_direction_90 : decode cX9_direction 90 = .ok (.invokevirtual 82, 3) := by decide +kernel
theorem dX9_direction_93 : decode cX9_direction 93 = .ok (.imul, 1) := by decide +kernel
theorem dX9_direction_94 : decode cX9_direction 94 = .ok (.isub, 1) := by decide +kernel
theorem dX9_direction_95 : decode cX9_direction 95 = .ok (.invokestatic 133, 3) := by decide +kernel
theorem dX9_direction_98 : decode cX9_direction 98 = .ok (.istore 5, 2) := by decide +kernel
theorem dX9_direction_100 : decode cX9_direction 100 = .ok (.iconst 3, 1) := by decide +kernel
theorem dX9_direction_101 : decode cX9_direction 101 = .ok (.iload 4, 2) := by decide +kernel
theorem dX9_direction_103 : decode cX9_direction 103 = .ok (.iconst 1, 1) := by decide +kernel
theorem dX9_direction_104 : decode cX9_direction 104 = .ok (.iadd, 1) := by decide +kernel
theorem dX9_direction_105 : decode cX9_direction 105 = .ok (.imul, 1) := by decide +kernel
theorem dX9_direction_106 : decode cX9_direction 106 = .ok (.iload 5, 2) := by decide +kernel
theorem dX9_direction_108 : decode cX9_direction 108 = .ok (.iadd, 1) := by decide +kernel
theorem dX9_direction_109 : decode cX9_direction 109 = .ok (.iconst 1, 1) := by decide +kernel
theorem dX9_direction_110 : decode cX9_direction 110 = .ok (.iadd, 1) := by decide +kernel
theorem dX9_direction_111 : decode cX9_direction 111 = .ok (.ireturn, 1) := by decide +kernel
theorem dX9_moveBody_0 : decode cX9_moveBody 0 = .ok (.aload_n 0, 1) := by decide +kernel
theorem dX9_moveBody_1 : decode cX9_moveBody 1 = .ok (.dup, 1) := by decide +kernel
theorem dX9_moveBody_2 : decode cX9_moveBody 2 = .ok (.getfield 20, 3) := by decide +kernel
theorem dX9_moveBody_5 : decode cX9_moveBody 5 = .ok (.iload_n 1, 1) := by decide +kernel
theorem dX9_moveBody_6 : decode cX9_moveBody 6 = .ok (.iadd, 1) := by decide +kernel
theorem dX9_moveBody_7 : decode cX9_moveBody 7 = .ok (.putfield 20, 3) := by decide +kernel
theorem dX9_moveBody_10 : decode cX9_moveBody 10 = .ok (.aload_n 0, 1) := by decide +kernel
theorem dX9_moveBody_11 : decode cX9_moveBody 11 = .ok (.dup, 1) := by decide +kernel
theorem dX9_moveBody_12 : decode cX9_moveBody 12 = .ok (.getfield 24, 3) := by decide +kernel
theorem dX9_moveBody_15 : decode cX9_moveBody 15 = .ok (.iload_n 2, 1) := by decide +kernel
theorem dX9_moveBody_16 : decode cX9_moveBody 16 = .ok (.iadd, 1) := by decide +kernel
theorem dX9_moveBody_17 : decode cX9_moveBody 17 = .ok (.putfield 24, 3) := by decide +kernel
theorem dX9_moveBody_20 : decode cX9_moveBody 20 = .ok (.aload_n 0, 1) := by decide +kernel
theorem dX9_moveBody_21 : decode cX9_moveBody 21 = .ok (.getfield 20, 3) := by decide +kernel
theorem dX9_moveBody_24 : decode cX9_moveBody 24 = .ok (.aload_n 0, 1) := by decide +kernel
theorem dX9_moveBody_25 : decode cX9_moveBody 25 = .ok (.getfield 24, 3) := by decide +kernel
theorem dX9_moveBody_28 : decode cX9_moveBody 28 = .ok (.invokestatic 138, 3) := by decide +kernel
theorem dX9_moveBody_31 : decode cX9_moveBody 31 = .ok (.iconst (-1), 1) := by decide +kernel
theorem dX9_moveBody_32 : decode cX9_moveBody 32 = .ok (.if_icmp .ne 5, 3) := by decide +kernel
theorem dX9_moveBody_35 : decode cX9_moveBody 35 = .ok (.iconst 0, 1) := by decide +kernel
theorem dX9_moveBody_36 : decode cX9_moveBody 36 = .ok (.ireturn, 1) := by decide +kernel
theorem dX9_moveBody_37 : decode cX9_moveBody 37 = .ok (.iconst 0, 1) := by decide +kernel
theorem dX9_moveBody_38 : decode cX9_moveBody 38 = .ok (.istore_n 3, 1) := by decide +kernel
theorem dX9_moveBody_39 : decode cX9_moveBody 39 = .ok (.iload_n 3, 1) := by decide +kernel
theorem dX9_moveBody_40 : decode cX9_moveBody 40 = .ok (.bipush 6, 2) := by decide +kernel
theorem dX9_moveBody_42 : decode cX9_moveBody 42 = .ok (.if_icmp .ge 37, 3) := by decide +kernel
theorem dX9_moveBody_45 : decode cX9_moveBody 45 = .ok (.aload_n 0, 1) := by decide +kernel
theorem dX9_moveBody_46 : decode cX9_moveBody 46 = .ok (.getfield 14, 3) := by decide +kernel
theorem dX9_moveBody_49 : decode cX9_moveBody 49 = .ok (.iload_n 3, 1) := by decide +kernel
theorem dX9_moveBody_50 : decode cX9_moveBody 50 = .ok (.invokevirtual 48, 3) := by decide +kernel
theorem dX9_moveBody_53 : decode cX9_moveBody 53 = .ok (.istore 4, 2) := by decide +kernel
theorem dX9_moveBody_55 : decode cX9_moveBody 55 = .ok (.iload 4, 2) := by decide +kernel
theorem dX9_moveBody_57 : decode cX9_moveBody 57 = .ok (.iconst (-1), 1) := by decide +kernel
theorem dX9_moveBody_58 : decode cX9_moveBody 58 = .ok (.if_icmp .eq 15, 3) := by decide +kernel
theorem dX9_moveBody_61 : decode cX9_moveBody 61 = .ok (.aload_n 0, 1) := by decide +kernel
theorem dX9_moveBody_62 : decode cX9_moveBody 62 = .ok (.iload_n 3, 1) := by decide +kernel
theorem dX9_moveBody_63 : decode cX9_moveBody 63 = .ok (.iload 4, 2) := by decide +kernel
theorem dX9_moveBody_65 : decode cX9_moveBody 65 = .ok (.invokevirtual 141, 3) := by decide +kernel
theorem dX9_moveBody_68 : decode cX9_moveBody 68 = .ok (.ifCond .ne 5, 3) := by decide +kernel
theorem dX9_moveBody_71 : decode cX9_moveBody 71 = .ok (.iconst 0, 1) := by decide +kernel
theorem dX9_moveBody_72 : decode cX9_moveBody 72 = .ok (.ireturn, 1) := by decide +kernel
theorem dX9_moveBody_73 : decode cX9_moveBody 73 = .ok (.iinc 3 1, 3) := by decide +kernel
theorem dX9_moveBody_76 : decode cX9_moveBody 76 = .ok (.goto (-37), 3) := by decide +kernel
theorem dX9_moveBody_79 : decode cX9_moveBody 79 = .ok (.aload_n 0, 1) := by decide +kernel
theorem dX9_moveBody_80 : decode cX9_moveBody 80 = .ok (.iconst (-1), 1) := by decide +kernel
theorem dX9_moveBody_81 : decode cX9_moveBody 81 = .ok (.invokevirtual 145, 3) := by decide +kernel
theorem dX9_moveBody_84 : decode cX9_moveBody 84 = .ok (.ireturn, 1) := by decide +kernel
theorem dX9_step_0 : decode cX9_step 0 = .ok (.aload_n 0, 1) := by decide +kernel
theorem dX9_step_1 : decode cX9_step 1 = .ok (.getfield 14, 3) := by decide +kernel
theorem dX9_step_4 : decode cX9_step 4 = .ok (.iload_n 1, 1) := by decide +kernel
theorem dX9_step_5 : decode cX9_step 5 = .ok (.invokevirtual 48, 3) := by decide +kernel
theorem dX9_step_8 : decode cX9_step 8 = .ok (.iconst (-1), 1) := by decide +kernel
theorem dX9_step_9 : decode cX9_step 9 = .ok (.if_icmp .eq 13, 3) := by decide +kernel
theorem dX9_step_12 : decode cX9_step 12 = .ok (.aload_n 0, 1) := by decide +kernel
theorem dX9_step_13 : decode cX9_step 13 = .ok (.iload_n 1, 1) := by decide +kernel
theorem dX9_step_14 : decode cX9_step 14 = .ok (.invokevirtual 145, 3) := by decide +kernel
theorem dX9_step_17 : decode cX9_step 17 = .ok (.ifCond .ne 5, 3) := by decide +kernel
theorem dX9_step_20 : decode cX9_step 20 = .ok (.iconst 0, 1) := by decide +kernel
theorem dX9_step_21 : decode cX9_step 21 = .ok (.ireturn, 1) := by decide +kernel
theorem dX9_step_22 : decode cX9_step 22 = .ok (.aload_n 0, 1) := by decide +kernel
theorem dX9_step_23 : decode cX9_step 23 = .ok (.iload_n 1, 1) := by decide +kernel
theorem dX9_step_24 : decode cX9_step 24 = .ok (.invokevirtual 149, 3) := by decide +kernel
theorem dX9_step_27 : decode cX9_step 27 = .ok (.istore_n 2, 1) := by decide +kernel
theorem dX9_step_28 : decode cX9_step 28 = .ok (.iload_n 2, 1) := by decide +kernel
theorem dX9_step_29 : decode cX9_step 29 = .ok (.iconst (-1), 1) := by decide +kernel
theorem dX9_step_30 : decode cX9_step 30 = .ok (.if_icmp .ne 5, 3) := by decide +kernel
theorem dX9_step_33 : decode cX9_step 33 = .ok (.iconst 0, 1) := by decide +kernel
theorem dX9_step_34 : decode cX9_step 34 = .ok (.ireturn, 1) := by decide +kernel
theorem dX9_step_35 : decode cX9_step 35 = .ok (.aload_n 0, 1) := by decide +kernel
theorem dX9_step_36 : decode cX9_step 36 = .ok (.getfield 14, 3) := by decide +kernel
theorem dX9_step_39 : decode cX9_step 39 = .ok (.iload_n 1, 1) := by decide +kernel
theorem dX9_step_40 : decode cX9_step 40 = .ok (.iload_n 2, 1) := by decide +kernel
theorem dX9_step_41 : decode cX9_step 41 = .ok (.invokevirtual 98, 3) := by decide +kernel
theorem dX9_step_44 : decode cX9_step 44 = .ok (.iconst 1, 1) := by decide +kernel
theorem dX9_step_45 : decode cX9_step 45 = .ok (.ireturn, 1) := by decide +kernel
theorem dX9_bestPoint_0 : decode cX9_bestPoint 0 = .ok (.aload_n 0, 1) := by decide +kernel
theorem dX9_bestPoint_1 : decode cX9_bestPoint 1 = .ok (.iload_n 1, 1) := by decide +kernel
theorem dX9_bestPoint_2 : decode cX9_bestPoint 2 = .ok (.invokevirtual 152, 3) := by decide +kernel
theorem dX9_bestPoint_5 : decode cX9_bestPoint 5 = .ok (.istore_n 2, 1) := by decide +kernel
theorem dX9_bestPoint_6 : decode cX9_bestPoint 6 = .ok (.aload_n 0, 1) := by decide +kernel
theorem dX9_bestPoint_7 : decode cX9_bestPoint 7 = .ok (.iload_n 1, 1) := by decide +kernel
theorem dX9_bestPoint_8 : decode cX9_bestPoint 8 = .ok (.invokevirtual 58, 3) := by decide +kernel
theorem dX9_bestPoint_11 : decode cX9_bestPoint 11 = .ok (.istore_n 3, 1) := by decide +kernel
theorem dX9_bestPoint_12 : decode cX9_bestPoint 12 = .ok (.aload_n 0, 1) := by decide +kernel
theorem dX9_bestPoint_13 : decode cX9_bestPoint 13 = .ok (.iload_n 1, 1) := by decide +kernel
theorem dX9_bestPoint_14 : decode cX9_bestPoint 14 = .ok (.invokevirtual 63, 3) := by decide +kernel
theorem dX9_bestPoint_17 : decode cX9_bestPoint 17 = .ok (.istore 4, 2) := by decide +kernel
theorem dX9_bestPoint_19 : decode cX9_bestPoint 19 = .ok (.aload_n 0, 1) := by decide +kernel
theorem dX9_bestPoint_20 : decode cX9_bestPoint 20 = .ok (.getfield 31, 3) := by decide +kernel
theorem dX9_bestPoint_23 : decode cX9_bestPoint 23 = .ok (.getfield 65, 3) := by decide +kernel
theorem dX9_bestPoint_26 : decode cX9_bestPoint 26 = .ok (.iload_n 1, 1) := by decide +kernel
theorem dX9_bestPoint_27 : decode cX9_bestPoint 27 = .ok (.invokevirtual 48, 3) := by decide +kernel
theorem dX9_bestPoint_30 : decode cX9_bestPoint 30 = .ok (.istore 5, 2) := by decide +kernel
theorem dX9_bestPoint_32 : decode cX9_bestPoint 32 = .ok (.iconst (-1), 1) := by decide +kernel
theorem dX9_bestPoint_33 : decode cX9_bestPoint 33 = .ok (.istore 6, 2) := by decide +kernel
theorem dX9_bestPoint_35 : decode cX9_bestPoint 35 = .ok (.ldc 155, 2) := by decide +kernel
theorem dX9_bestPoint_37 : decode cX9_bestPoint 37 = .ok (.istore 7, 2) := by decide +kernel
theorem dX9_bestPoint_39 : decode cX9_bestPoint 39 = .ok (.iconst 0, 1) := by decide +kernel
theorem dX9_bestPoint_40 : decode cX9_bestPoint 40 = .ok (.istore 8, 2) := by decide +kernel
theorem dX9_bestPoint_42 : decode cX9_bestPoint 42 = .ok (.iload 8, 2) := by decide +kernel
theorem dX9_bestPoint_44 : decode cX9_bestPoint 44 = .ok (.bipush 8, 2) := by decide +kernel
theorem dX9_bestPoint_46 : decode cX9_bestPoint 46 = .ok (.if_icmp .gt 163, 3) := by decide +kernel
theorem dX9_bestPoint_49 : decode cX9_bestPoint 49 = .ok (.iload 8, 2) := by decide +kernel
theorem dX9_bestPoint_51 : decode cX9_bestPoint 51 = .ok (.iload 7, 2) := by decide +kernel
theorem dX9_bestPoint_53 : decode cX9_bestPoint 53 = .ok (.if_icmp .ge 156, 3) := by decide +kernel
theorem dX9_bestPoint_56 : decode cX9_bestPoint 56 = .ok (.iload 8, 2) := by decide +kernel
theorem dX9_bestPoint_58 : decode cX9_bestPoint 58 = .ok (.ineg, 1) := by decide +kernel
theorem dX9_bestPoint_59 : decode cX9_bestPoint 59 = .ok (.istore 9, 2) := by decide +kernel
theorem dX9_bestPoint_61 : decode cX9_bestPoint 61 = .ok (.iload 9, 2) := by decide +kernel
theorem dX9_bestPoint_63 : decode cX9_bestPoint 63 = .ok (.iload 8, 2) := by decide +kernel
theorem dX9_bestPoint_65 : decode cX9_bestPoint 65 = .ok (.if_icmp .gt 138, 3) := by decide +kernel
theorem dX9_bestPoint_68 : decode cX9_bestPoint 68 = .ok (.iload 8, 2) := by decide +kernel
theorem dX9_bestPoint_70 : decode cX9_bestPoint 70 = .ok (.iload 9, 2) := by decide +kernel
theorem dX9_bestPoint_72 : decode cX9_bestPoint 72 = .ok (.invokestatic 68, 3) := by decide +kernel
theorem dX9_bestPoint_75 : decode cX9_bestPoint 75 = .ok (.isub, 1) := by decide +kernel
theorem dX9_bestPoint_76 : decode cX9_bestPoint 76 = .ok (.istore 10, 2) := by decide +kernel
theorem dX9_bestPoint_78 : decode cX9_bestPoint 78 = .ok (.iconst (-1), 1) := by decide +kernel
theorem dX9_bestPoint_79 : decode cX9_bestPoint 79 = .ok (.istore 11, 2) := by decide +kernel
theorem dX9_bestPoint_81 : decode cX9_bestPoint 81 = .ok (.iload 11, 2) := by decide +kernel
theorem dX9_bestPoint_83 : decode cX9_bestPoint 83 = .ok (.iconst 1, 1) := by decide +kernel
theorem dX9_bestPoint_84 : decode cX9_bestPoint 84 = .ok (.if_icmp .gt 113, 3) := by decide +kernel
theorem dX9_bestPoint_87 : decode cX9_bestPoint 87 = .ok (.iload_n 3, 1) := by decide +kernel
theorem dX9_bestPoint_88 : decode cX9_bestPoint 88 = .ok (.iload 11, 2) := by decide +kernel
theorem dX9_bestPoint_90 : decode cX9_bestPoint 90 = .ok (.iload 10, 2) := by decide +kernel
theorem dX9_bestPoint_92 : decode cX9_bestPoint 92 = .ok (.imul, 1) := by decide +kernel
theorem dX9_bestPoint_93 : decode cX9_bestPoint 93 = .ok (.iadd, 1) := by decide +kernel
theorem dX9_bestPoint_94 : decode cX9_bestPoint 94 = .ok (.iload 4, 2) := by decide +kernel
theorem dX9_bestPoint_96 : decode cX9_bestPoint 96 = .ok (.iload 9, 2) := by decide +kernel
theorem dX9_bestPoint_98 : decode cX9_bestPoint 98 = .ok (.iadd, 1) := by decide +kernel
theorem dX9_bestPoint_99 : decode cX9_bestPoint 99 = .ok (.invokestatic 138, 3) := by decide +kernel
theorem dX9_bestPoint_102 : decode cX9_bestPoint 102 = .ok (.istore 12, 2) := by decide +kernel
theorem dX9_bestPoint_104 : decode cX9_bestPoint 104 = .ok (.aload_n 0, 1) := by decide +kernel
theorem dX9_bestPoint_105 : decode cX9_bestPoint 105 = .ok (.getfield 27, 3) := by decide +kernel
theorem dX9_bestPoint_108 : decode cX9_bestPoint 108 = .ok (.getfield 73, 3) := by decide +kernel
theorem dX9_bestPoint_111 : decode cX9_bestPoint 111 = .ok (.iload 12, 2) := by decide +kernel
theorem dX9_bestPoint_113 : decode cX9_bestPoint 113 = .ok (.invokevirtual 48, 3) := by decide +kernel
theorem dX9_bestPoint_116 : decode cX9_bestPoint 116 = .ok (.iload_n 2, 1) := by decide +kernel
theorem dX9_bestPoint_117 : decode cX9_bestPoint 117 = .ok (.isub, 1) := by decide +kernel
theorem dX9_bestPoint_118 : decode cX9_bestPoint 118 = .ok (.invokestatic 68, 3) := by decide +kernel
theorem dX9_bestPoint_121 : decode cX9_bestPoint 121 = .ok (.istore 13, 2) := by decide +kernel
theorem dX9_bestPoint_123 : decode cX9_bestPoint 123 = .ok (.iload 12, 2) := by decide +kernel
theorem dX9_bestPoint_125 : decode cX9_bestPoint 125 = .ok (.iconst (-1), 1) := by decide +kernel
theorem dX9_bestPoint_126 : decode cX9_bestPoint 126 = .ok (.if_icmp .eq 65, 3) := by decide +kernel
theorem dX9_bestPoint_129 : decode cX9_bestPoint 129 = .ok (.iload 10, 2) := by decide +kernel
theorem dX9_bestPoint_131 : decode cX9_bestPoint 131 = .ok (.iload 10, 2) := by decide +kernel
theorem dX9_bestPoint_133 : decode cX9_bestPoint 133 = .ok (.imul, 1) := by decide +kernel
theorem dX9_bestPoint_134 : decode cX9_bestPoint 134 = .ok (.iload 9, 2) := by decide +kernel
theorem dX9_bestPoint_136 : decode cX9_bestPoint 136 = .ok (.iload 9, 2) := by decide +kernel
theorem dX9_bestPoint_138 : decode cX9_bestPoint 138 = .ok (.imul, 1) := by decide +kernel
theorem dX9_bestPoint_139 : decode cX9_bestPoint 139 = .ok (.iadd, 1) := by decide +kernel
theorem dX9_bestPoint_140 : decode cX9_bestPoint 140 = .ok (.iload 5, 2) := by decide +kernel
theorem dX9_bestPoint_142 : decode cX9_bestPoint 142 = .ok (.iload 5, 2) := by decide +kernel
theorem dX9_bestPoint_144 : decode cX9_bestPoint 144 = .ok (.imul, 1) := by decide +kernel
theorem dX9_bestPoint_145 : decode cX9_bestPoint 145 = .ok (.if_icmp .gt 46, 3) := by decide +kernel
theorem dX9_bestPoint_148 : decode cX9_bestPoint 148 = .ok (.iload 13, 2) := by decide +kernel
theorem dX9_bestPoint_150 : decode cX9_bestPoint 150 = .ok (.iconst 2, 1) := by decide +kernel
theorem dX9_bestPoint_151 : decode cX9_bestPoint 151 = .ok (.if_icmp .gt 40, 3) := by decide +kernel
theorem dX9_bestPoint_154 : decode cX9_bestPoint 154 = .ok (.bipush 10, 2) := by decide +kernel
theorem dX9_bestPoint_156 : decode cX9_bestPoint 156 = .ok (.iload 13, 2) := by decide +kernel
theorem dX9_bestPoint_158 : decode cX9_bestPoint 158 = .ok (.imul, 1) := by decide +kernel
theorem dX9_bestPoint_159 : decode cX9_bestPoint 159 = .ok (.iload 8, 2) := by decide +kernel
theorem dX9_bestPoint_161 : decode cX9_bestPoint 161 = .ok (.iadd, 1) := by decide +kernel
theorem dX9_bestPoint_162 : decode cX9_bestPoint 162 = .ok (.iload 7, 2) := by decide +kernel
theorem dX9_bestPoint_164 : decode cX9_bestPoint 164 = .ok (.if_icmp .ge 27, 3) := by decide +kernel
theorem dX9_bestPoint_167 : decode cX9_bestPoint 167 = .ok (.aload_n 0, 1) := by decide +kernel
theorem dX9_bestPoint_168 : decode cX9_bestPoint 168 = .ok (.iload 12, 2) := by decide +kernel
theorem dX9_bestPoint_170 : decode cX9_bestPoint 170 = .ok (.iload_n 1, 1) := by decide +kernel
theorem dX9_bestPoint_171 : decode cX9_bestPoint 171 = .ok (.invokevirtual 156, 3) := by decide +kernel
theorem dX9_bestPoint_174 : decode cX9_bestPoint 174 = .ok (.ifCond .ne 17, 3) := by decide +kernel
theorem dX9_bestPoint_177 : decode cX9_bestPoint 177 = .ok (.bipush 10, 2) := by decide +kernel
theorem dX9_bestPoint_179 : decode cX9_bestPoint 179 = .ok (.iload 13, 2) := by decide +kernel
theorem dX9_bestPoint_181 : decode cX9_bestPoint 181 = .ok (.imul, 1) := by decide +kernel
theorem dX9_bestPoint_182 : decode cX9_bestPoint 182 = .ok (.iload 8, 2) := by decide +kernel
theorem dX9_bestPoint_184 : decode cX9_bestPoint 184 = .ok (.iadd, 1) := by decide +kernel
theorem dX9_bestPoint_185 : decode cX9_bestPoint 185 = .ok (.istore 7, 2) := by decide +kernel
theorem dX9_bestPoint_187 : decode cX9_bestPoint 187 = .ok (.iload 12, 2) := by decide +kernel
theorem dX9_bestPoint_189 : decode cX9_bestPoint 189 = .ok (.istore 6, 2) := by decide +kernel
theorem dX9_bestPoint_191 : decode cX9_bestPoint 191 = .ok (.iinc 11 2, 3) := by decide +kernel
theorem dX9_bestPoint_194 : decode cX9_bestPoint 194 = .ok (.goto (-113), 3) := by decide +kernel
theorem dX9_bestPoint_197 : decode cX9_bestPoint 197 = .ok (.iinc 9 1, 3) := by decide +kernel
theorem dX9_bestPoint_200 : decode cX9_bestPoint 200 = .ok (.goto (-139), 3) := by decide +kernel
theorem dX9_bestPoint_203 : decode cX9_bestPoint 203 = .ok (.iinc 8 1, 3) := by decide +kernel
theorem dX9_bestPoint_206 : decode cX9_bestPoint 206 = .ok (.goto (-164), 3) := by decide +kernel
theorem dX9_bestPoint_209 : decode cX9_bestPoint 209 = .ok (.iload 6, 2) := by decide +kernel
theorem dX9_bestPoint_211 : decode cX9_bestPoint 211 = .ok (.ireturn, 1) := by decide +kernel
theorem dX10_init_0 : decode cX10_init 0 = .ok (.aload_n 0, 1) := by decide +kernel
theorem dX10_init_1 : decode cX10_init 1 = .ok (.invokespecial 3, 3) := by decide +kernel
theorem dX10_init_4 : decode cX10_init 4 = .ok (.new 9, 3) := by decide +kernel
theorem dX10_init_7 : decode cX10_init 7 = .ok (.dup, 1) := by decide +kernel
theorem dX10_init_8 : decode cX10_init 8 = .ok (.invokespecial 11, 3) := by decide +kernel
theorem dX10_init_11 : decode cX10_init 11 = .ok (.astore_n 1, 1) := by decide +kernel
theorem dX10_init_12 : decode cX10_init 12 = .ok (.aload_n 0, 1) := by decide +kernel
theorem dX10_init_13 : decode cX10_init 13 = .ok (.new 12, 3) := by decide +kernel
theorem dX10_init_16 : decode cX10_init 16 = .ok (.dup, 1) := by decide +kernel
theorem dX10_init_17 : decode cX10_init 17 = .ok (.invokespecial 14, 3) := by decide +kernel
theorem dX10_init_20 : decode cX10_init 20 = .ok (.putfield 15, 3) := by decide +kernel
theorem dX10_init_23 : decode cX10_init 23 = .ok (.aload_n 0, 1) := by decide +kernel
theorem dX10_init_24 : decode cX10_init 24 = .ok (.new 19, 3) := by decide +kernel
theorem dX10_init_27 : decode cX10_init 27 = .ok (.dup, 1) := by decide +kernel
theorem dX10_init_28 : decode cX10_init 28 = .ok (.invokespecial 21, 3) := by decide +kernel
theorem dX10_init_31 : decode cX10_init 31 = .ok (.putfield 22, 3) := by decide +kernel
theorem dX10_init_34 : decode cX10_init 34 = .ok (.aload_n 0, 1) := by decide +kernel
theorem dX10_init_35 : decode cX10_init 35 = .ok (.new 26, 3) := by decide +kernel
theorem dX10_init_38 : decode cX10_init 38 = .ok (.dup, 1) := by decide +kernel
theorem dX10_init_39 : decode cX10_init 39 = .ok (.aload_n 0, 1) := by decide +kernel
theorem dX10_init_40 : decode cX10_init 40 = .ok (.getfield 15, 3) := by decide +kernel
theorem dX10_init_43 : decode cX10_init 43 = .ok (.aload_n 0, 1) := by decide +kernel
theorem dX10_init_44 : decode cX10_init 44 = .ok (.getfield 22, 3) := by decide +kernel
theorem dX10_init_47 : decode cX10_init 47 = .ok (.aload_n 1, 1) := by decide +kernel
theorem dX10_init_48 : decode cX10_init 48 = .ok (.invokespecial 28, 3) := by decide +kernel
theorem dX10_init_51 : decode cX10_init 51 = .ok (.putfield 31, 3) := by decide +kernel
theorem dX10_init_54 : decode cX10_init 54 = .ok (.aload_n 0, 1) := by decide +kernel
theorem dX10_init_55 : decode cX10_init 55 = .ok (.new 26, 3) := by decide +kernel
theorem dX10_init_58 : decode cX10_init 58 = .ok (.dup, 1) := by decide +kernel
theorem dX10_init_59 : decode cX10_init 59 = .ok (.aload_n 0, 1) := by decide +kernel
theorem dX10_init_60 : decode cX10_init 60 = .ok (.getfield 15, 3) := by decide +kernel
theorem dX10_init_63 : decode cX10_init 63 = .ok (.aload_n 0, 1) := by decide +kernel
theorem dX10_init_64 : decode cX10_init 64 = .ok (.getfield 22, 3) := by decide +kernel
theorem dX10_init_67 : decode cX10_init 67 = .ok (.aload_n 1, 1) := by decide +kernel
theorem dX10_init_68 : decode cX10_init 68 = .ok (.invokespecial 28, 3) := by decide +kernel
theorem dX10_init_71 : decode cX10_init 71 = .ok (.putfield 35, 3) := by decide +kernel
theorem dX10_init_74 : decode cX10_init 74 = .ok (.aload_n 0, 1) := by decide +kernel
theorem dX10_init_75 : decode cX10_init 75 = .ok (.new 38, 3) := by decide +kernel
theorem dX10_init_78 : decode cX10_init 78 = .ok (.dup, 1) := by decide +kernel
theorem dX10_init_79 : decode cX10_init 79 = .ok (.invokespecial 40, 3) := by decide +kernel
theorem dX10_init_82 : decode cX10_init 82 = .ok (.putfield 41, 3) := by decide +kernel
theorem dX10_init_85 : decode cX10_init 85 = .ok (.aload_n 0, 1) := by decide +kernel
theorem dX10_init_86 : decode cX10_init 86 = .ok (.new 45, 3) := by decide +kernel
theorem dX10_init_89 : decode cX10_init 89 = .ok (.dup, 1) := by decide +kernel
theorem dX10_init_90 : decode cX10_init 90 = .ok (.invokespecial 47, 3) := by decide +kernel
theorem dX10_init_93 : decode cX10_init 93 = .ok (.putfield 48, 3) := by decide +kernel
theorem dX10_init_96 : decode cX10_init 96 = .ok (.aload_n 0, 1) := by decide +kernel
theorem dX10_init_97 : decode cX10_init 97 = .ok (.new 52, 3) := by decide +kernel
theorem dX10_init_100 : decode cX10_init 100 = .ok (.dup, 1) := by decide +kernel
theorem dX10_init_101 : decode cX10_init 101 = .ok (.invokespecial 54, 3) := by decide +kernel
theorem dX10_init_104 : decode cX10_init 104 = .ok (.putfield 55, 3) := by decide +kernel
theorem dX10_init_107 : decode cX10_init 107 = .ok (.aload_n 0, 1) := by decide +kernel
theorem dX10_init_108 : decode cX10_init 108 = .ok (.new 59, 3) := by decide +kernel
theorem dX10_init_111 : decode cX10_init 111 = .ok (.dup, 1) := by decide +kernel
theorem dX10_init_112 : decode cX10_init 112 = .ok (.invokespecial 61, 3) := by decide +kernel
theorem dX10_init_115 : decode cX10_init 115 = .ok (.putfield 62, 3) := by decide +kernel
theorem dX10_init_118 : decode cX10_init 118 = .ok (.aload_n 0, 1) := by decide +kernel
theorem dX10_init_119 : decode cX10_init 119 = .ok (.new 66, 3) := by decide +kernel
theorem dX10_init_122 : decode cX10_init 122 = .ok (.dup, 1) := by decide +kernel
theorem dX10_init_123 : decode cX10_init 123 = .ok (.aload_n 0, 1) := by decide +kernel
theorem dX10_init_124 : decode cX10_init 124 = .ok (.getfield 15, 3) := by decide +kernel
theorem dX10_init_127 : decode cX10_init 127 = .ok (.aload_n 0, 1) := by decide +kernel
theorem dX10_init_128 : decode cX10_init 128 = .ok (.getfield 22, 3) := by decide +kernel
theorem dX10_init_131 : decode cX10_init 131 = .ok (.aload_n 1, 1) := by decide +kernel
theorem dX10_init_132 : decode cX10_init 132 = .ok (.invokespecial 68, 3) := by decide +kernel
theorem dX10_init_135 : decode cX10_init 135 = .ok (.putfield 69, 3) := by decide +kernel
theorem dX10_init_138 : decode cX10_init 138 = .ok (.aload_n 0, 1) := by decide +kernel
theorem dX10_init_139 : decode cX10_init 139 = .ok (.iconst 0, 1) := by decide +kernel
theorem dX10_init_140 : decode cX10_init 140 = .ok (.putfield 73, 3) := by decide +kernel
theorem dX10_init_143 : decode cX10_init 143 = .ok (.aload_n 0, 1) := by decide +kernel
theorem dX10_init_144 : decode cX10_init 144 = .ok (.sipush 1000, 3) := by decide +kernel
theorem dX10_init_147 : decode cX10_init 147 = .ok (.putfield 77, 3) := by decide +kernel
theorem dX10_init_150 : decode cX10_init 150 = .ok (.return_, 1) := by decide +kernel
theorem dX10_ground_0 : decode cX10_ground 0 = .ok (.iload_n 1, 1) := by decide +kernel
theorem dX10_ground_1 : decode cX10_ground 1 = .ok (.iload_n 2, 1) := by decide +kernel
theorem dX10_ground_2 : decode cX10_ground 2 = .ok (.invokestatic 81, 3) := by decide +kernel
theorem dX10_ground_5 : decode cX10_ground 5 = .ok (.istore 6, 2) := by decide +kernel
theorem dX10_ground_7 : decode cX10_ground 7 = .ok (.iload 6, 2) := by decide +kernel
theorem dX10_ground_9 : decode cX10_ground 9 = .ok (.iconst (-1), 1) := by decide +kernel
theorem dX10_ground_10 : decode cX10_ground 10 = .ok (.if_icmp .eq 35, 3) := by decide +kernel
theorem dX10_ground_13 : decode cX10_ground 13 = .ok (.iload_n 3, 1) := by decide +kernel
theorem dX10_ground_14 : decode cX10_ground 14 = .ok (.iconst 0, 1) := by decide +kernel
theorem dX10_ground_15 : decode cX10_ground 15 = .ok (.bipush 9, 2) := by decide +kernel
theorem dX10_ground_17 : decode cX10_ground 17 = .ok (.invokestatic 85, 3) := by decide +kernel
theorem dX10_ground_20 : decode cX10_ground 20 = .ok (.ifCond .eq 25, 3) := by decide +kernel
theorem dX10_ground_23 : decode cX10_ground 23 = .ok (.iload 4, 2) := by decide +kernel
theorem dX10_ground_25 : decode cX10_ground 25 = .ok (.iconst 0, 1) := by decide +kernel
theorem dX10_ground_26 : decode cX10_ground 26 = .ok (.bipush 99, 2) := by decide +kernel
theorem dX10_ground_28 : decode cX10_ground 28 = .ok (.invokestatic 85, 3) := by decide +kernel
theorem dX10_ground_31 : decode cX10_ground 31 = .ok (.ifCond .eq 14, 3) := by decide +kernel
theorem dX10_ground_34 : decode cX10_ground 34 = .ok (.iload 5, 2) := by decide +kernel
theorem dX10_ground_36 : decode cX10_ground 36 = .ok (.iconst 0, 1) := by decide +kernel
theorem dX10_ground_37 : decode cX10_ground 37 = .ok (.bipush 9, 2) := by decide +kernel
theorem dX10_ground_39 : decode cX10_ground 39 = .ok (.invokestatic 85, 3) := by decide +kernel
theorem dX10_ground_42 : decode cX10_ground 42 = .ok (.ifCond .ne 13, 3) := by decide +kernel
theorem dX10_ground_45 : decode cX10_ground 45 = .ok (.new 89, 3) := by decide +kernel
theorem dX10_ground_48 : decode cX10_ground 48 = .ok (.dup, 1) := by decide +kernel
theorem dX10_ground_49 : decode cX10_ground 49 = .ok (.ldc 91, 2) := by decide +kernel
theorem dX10_ground_51 : decode cX10_ground 51 = .ok (.invokespecial 93, 3) := by decide +kernel
theorem dX10_ground_54 : decode cX10_ground 54 = .ok (.athrow, 1) := by decide +kernel
theorem dX10_ground_55 : decode cX10_ground 55 = .ok (.aload_n 0, 1) := by decide +kernel
theorem dX10_ground_56 : decode cX10_ground 56 = .ok (.getfield 31, 3) := by decide +kernel
theorem dX10_ground_59 : decode cX10_ground 59 = .ok (.iload 6, 2) := by decide +kernel
theorem dX10_ground_61 : decode cX10_ground 61 = .ok (.iconst (-1), 1) := by decide +kernel
theorem dX10_ground_62 : decode cX10_ground 62 = .ok (.invokevirtual 96, 3) := by decide +kernel
theorem dX10_ground_65 : decode cX10_ground 65 = .ok (.ifCond .eq 13, 3) := by decide +kernel
theorem dX10_ground_68 : decode cX10_ground 68 = .ok (.new 100, 3) := by decide +kernel
theorem dX10_ground_71 : decode cX10_ground 71 = .ok (.dup, 1) := by decide +kernel
theorem dX10_ground_72 : decode cX10_ground 72 = .ok (.ldc 102, 2) := by decide +kernel
theorem dX10_ground_74 : decode cX10_ground 74 = .ok (.invokespecial 104, 3) := by decide +kernel
theorem dX10_ground_77 : decode cX10_ground 77 = .ok (.athrow, 1) := by decide +kernel
theorem dX10_ground_78 : decode cX10_ground 78 = .ok (.aload_n 0, 1) := by decide +kernel
theorem dX10_ground_79 : decode cX10_ground 79 = .ok (.getfield 15, 3) := by decide +kernel
theorem dX10_ground_82 : decode cX10_ground 82 = .ok (.getfield 105, 3) := by decide +kernel
theorem dX10_ground_85 : decode cX10_ground 85 = .ok (.iload 6, 2) := by decide +kernel
theorem dX10_ground_87 : decode cX10_ground 87 = .ok (.invokevirtual 109, 3) := by decide +kernel
theorem dX10_ground_90 : decode cX10_ground 90 = .ok (.istore 7, 2) := by decide +kernel
theorem dX10_ground_92 : decode cX10_ground 92 = .ok (.aload_n 0, 1) := by decide +kernel
theorem dX10_ground_93 : decode cX10_ground 93 = .ok (.getfield 15, 3) := by decide +kernel
theorem dX10_ground_96 : decode cX10_ground 96 = .ok (.getfield 105, 3) := by decide +kernel
theorem dX10_ground_99 : decode cX10_ground 99 = .ok (.iload 6, 2) := by decide +kernel
theorem dX10_ground_101 : decode cX10_ground 101 = .ok (.iload_n 3, 1) := by decide +kernel
theorem dX10_ground_102 : decode cX10_ground 102 = .ok (.invokevirtual 115, 3) := by decide +kernel
theorem dX10_ground_105 : decode cX10_ground 105 = .ok (.aload_n 0, 1) := by decide +kernel
theorem dX10_ground_106 : decode cX10_ground 106 = .ok (.getfield 15, 3) := by decide +kernel
theorem dX10_ground_109 : decode cX10_ground 109 = .ok (.getfield 119, 3) := by decide +kernel
theorem dX10_ground_112 : decode cX10_ground 112 = .ok (.iload 6, 2) := by decide +kernel
theorem dX10_ground_114 : decode cX10_ground 114 = .ok (.iload 4, 2) := by decide +kernel
theorem dX10_ground_116 : decode cX10_ground 116 = .ok (.invokevirtual 115, 3) := by decide +kernel
theorem dX10_ground_119 : decode cX10_ground 119 = .ok (.aload_n 0, 1) := by decide +kernel
theorem dX10_ground_120 : decode cX10_ground 120 = .ok (.getfield 15, 3) := by decide +kernel
theorem dX10_ground_123 : decode cX10_ground 123 = .ok (.getfield 122, 3) := by decide +kernel
theorem dX10_ground_126 : decode cX10_ground 126 = .ok (.iload 6, 2) := by decide +kernel
theorem dX10_ground_128 : decode cX10_ground 128 = .ok (.iload 5, 2) := by decide +kernel
theorem dX10_ground_130 : decode cX10_ground 130 = .ok (.invokevirtual 115, 3) := by decide +kernel
theorem dX10_ground_133 : decode cX10_ground 133 = .ok (.iload 7, 2) := by decide +kernel
theorem dX10_ground_135 : decode cX10_ground 135 = .ok (.ireturn, 1) := by decide +kernel
theorem dX10_chart_0 : decode cX10_chart 0 = .ok (.iload_n 1, 1) := by decide +kernel
theorem dX10_chart_1 : decode cX10_chart 1 = .ok (.iload_n 2, 1) := by decide +kernel
theorem dX10_chart_2 : decode cX10_chart 2 = .ok (.invokestatic 81, 3) := by decide +kernel
theorem dX10_chart_5 : decode cX10_chart 5 = .ok (.istore 4, 2) := by decide +kernel
theorem dX10_chart_7 : decode cX10_chart 7 = .ok (.iload 4, 2) := by decide +kernel
theorem dX10_chart_9 : decode cX10_chart 9 = .ok (.iconst (-1), 1) := by decide +kernel
theorem dX10_chart_10 : decode cX10_chart 10 = .ok (.if_icmp .eq 13, 3) := by decide +kernel
theorem dX10_chart_13 : decode cX10_chart 13 = .ok (.iload_n 3, 1) := by decide +kernel
theorem dX10_chart_14 : decode cX10_chart 14 = .ok (.iconst 0, 1) := by decide +kernel
theorem dX10_chart_15 : decode cX10_chart 15 = .ok (.bipush 9, 2) := by decide +kernel
theorem dX10_chart_17 : decode cX10_chart 17 = .ok (.invokestatic 85, 3) := by decide +kernel
theorem dX10_chart_20 : decode cX10_chart 20 = .ok (.ifCond .ne 13, 3) := by decide +kernel
theorem dX10_chart_23 : decode cX10_chart 23 = .ok (.new 89, 3) := by decide +kernel
theorem dX10_chart_26 : decode cX10_chart 26 = .ok (.dup, 1) := by decide +kernel
theorem dX10_chart_27 : decode cX10_chart 27 = .ok (.ldc 125, 2) := by decide +kernel
theorem dX10_chart_29 : decode cX10_chart 29 = .ok (.invokespecial 93, 3) := by decide +kernel
theorem dX10_chart_32 : decode cX10_chart 32 = .ok (.athrow, 1) := by decide +kernel
theorem dX10_chart_33 : decode cX10_chart 33 = .ok (.aload_n 0, 1) := by decide +kernel
theorem dX10_chart_34 : decode cX10_chart 34 = .ok (.getfield 15, 3) := by decide +kernel
theorem dX10_chart_37 : decode cX10_chart 37 = .ok (.getfield 127, 3) := by decide +kernel
theorem dX10_chart_40 : decode cX10_chart 40 = .ok (.iload 4, 2) := by decide +kernel
theorem dX10_chart_42 : decode cX10_chart 42 = .ok (.invokevirtual 109, 3) := by decide +kernel
theorem dX10_chart_45 : decode cX10_chart 45 = .ok (.istore 5, 2) := by decide +kernel
theorem dX10_chart_47 : decode cX10_chart 47 = .ok (.aload_n 0, 1) := by decide +kernel
theorem dX10_chart_48 : decode cX10_chart 48 = .ok (.getfield 15, 3) := by decide +kernel
theorem dX10_chart_51 : decode cX10_chart 51 = .ok (.getfield 127, 3) := by decide +kernel
theorem dX10_chart_54 : decode cX10_chart 54 = .ok (.iload 4, 2) := by decide +kernel
theorem dX10_chart_56 : decode cX10_chart 56 = .ok (.iload_n 3, 1) := by decide +kernel
theorem dX10_chart_57 : decode cX10_chart 57 = .ok (.invokevirtual 115, 3) := by decide +kernel
theorem dX10_chart_60 : decode cX10_chart 60 = .ok (.iload 5, 2) := by decide +kernel
theorem dX10_chart_62 : decode cX10_chart 62 = .ok (.ireturn, 1) := by decide +kernel
theorem dX10_leg_0 : decode cX10_leg 0 = .ok (.iload_n 1, 1) := by decide +kernel
theorem dX10_leg_1 : decode cX10_leg 1 = .ok (.invokestatic 130, 3) := by decide +kernel
theorem dX10_leg_4 : decode cX10_leg 4 = .ok (.ifCond .eq 20, 3) := by decide +kernel
theorem dX10_leg_7 : decode cX10_leg 7 = .ok (.iload_n 2, 1) := by decide +kernel
theorem dX10_leg_8 : decode cX10_leg 8 = .ok (.invokestatic 130, 3) := by decide +kernel
theorem dX10_leg_11 : decode cX10_leg 11 = .ok (.ifCond .eq 13, 3) := by decide +kernel
theorem dX10_leg_14 : decode cX10_leg 14 = .ok (.iload_n 3, 1) := by decide +kernel
theorem dX10_leg_15 : decode cX10_leg 15 = .ok (.iconst 1, 1) := by decide +kernel
theorem dX10_leg_16 : decode cX10_leg 16 = .ok (.bipush 6, 2) := by decide +kernel
theorem dX10_leg_18 : decode cX10_leg 18 = .ok (.invokestatic 85, 3) := by decide +kernel
theorem dX10_leg_21 : decode cX10_leg 21 = .ok (.ifCond .ne 13, 3) := by decide +kernel
theorem dX10_leg_24 : decode cX10_leg 24 = .ok (.new 89, 3) := by decide +kernel
theorem dX10_leg_27 : decode cX10_leg 27 = .ok (.dup, 1) := by decide +kernel
theorem dX10_leg_28 : decode cX10_leg 28 = .ok (.ldc 134, 2) := by decide +kernel
theorem dX10_leg_30 : decode cX10_leg 30 = .ok (.invokespecial 93, 3) := by decide +kernel
theorem dX10_leg_33 : decode cX10_leg 33 = .ok (.athrow, 1) := by decide +kernel
theorem dX10_leg_34 : decode cX10_leg 34 = .ok (.aload_n 0, 1) := by decide +kernel
theorem dX10_leg_35 : decode cX10_leg 35 = .ok (.getfield 73, 3) := by decide +kernel
theorem dX10_leg_38 : decode cX10_leg 38 = .ok (.ifCond .ne 15, 3) := by decide +kernel
theorem dX10_leg_41 : decode cX10_leg 41 = .ok (.aload_n 0, 1) := by decide +kernel
theorem dX10_leg_42 : decode cX10_leg 42 = .ok (.getfield 22, 3) := by decide +kernel
theorem dX10_leg_45 : decode cX10_leg 45 = .ok (.getfield 136, 3) := by decide +kernel
theorem dX10_leg_48 : decode cX10_leg 48 = .ok (.bipush 6, 2) := by decide +kernel
theorem dX10_leg_50 : decode cX10_leg 50 = .ok (.if_icmp .lt 13, 3) := by decide +kernel
theorem dX10_leg_53 : decode cX10_leg 53 = .ok (.new 100, 3) := by decide +kernel
theorem dX10_leg_56 : decode cX10_leg 56 = .ok (.dup, 1) := by decide +kernel
theorem dX10_leg_57 : decode cX10_leg 57 = .ok (.ldc 139, 2) := by decide +kernel
theorem dX10_leg_59 : decode cX10_leg 59 = .ok (.invokespecial 104, 3) := by decide +kernel
theorem dX10_leg_62 : decode cX10_leg 62 = .ok (.athrow, 1) := by decide +kernel
theorem dX10_leg_63 : decode cX10_leg 63 = .ok (.aload_n 0, 1) := by decide +kernel
theorem dX10_leg_64 : decode cX10_leg 64 = .ok (.getfield 22, 3) := by decide +kernel
theorem dX10_leg_67 : decode cX10_leg 67 = .ok (.iload_n 1, 1) := by decide +kernel
theorem dX10_leg_68 : decode cX10_leg 68 = .ok (.iload_n 2, 1) := by decide +kernel
theorem dX10_leg_69 : decode cX10_leg 69 = .ok (.iload_n 3, 1) := by decide +kernel
theorem dX10_leg_70 : decode cX10_leg 70 = .ok (.invokevirtual 141, 3) := by decide +kernel
theorem dX10_leg_73 : decode cX10_leg 73 = .ok (.ireturn, 1) := by decide +kernel
theorem dX10_charge_0 : decode cX10_charge 0 = .ok (.iload_n 1, 1) := by decide +kernel
theorem dX10_charge_1 : decode cX10_charge 1 = .ok (.iconst 1, 1) := by decide +kernel
theorem dX10_charge_2 : decode cX10_charge 2 = .ok (.sipush 1000, 3) := by decide +kernel
theorem dX10_charge_5 : decode cX10_charge 5 = .ok (.invokestatic 85, 3) := by decide +kernel
theorem dX10_charge_8 : decode cX10_charge 8 = .ok (.ifCond .ne 13, 3) := by decide +kernel
theorem dX10_charge_11 : decode cX10_charge 11 = .ok (.new 89, 3) := by decide +kernel
theorem dX10_charge_14 : decode cX10_charge 14 = .ok (.dup, 1) := by decide +kernel
theorem dX10_charge_15 : decode cX10_charge 15 = .ok (.ldc 145, 2) := by decide +kernel
theorem dX10_charge_17 : decode cX10_charge 17 = .ok (.invokespecial 93, 3) := by decide +kernel
theorem dX10_charge_20 : decode cX10_charge 20 = .ok (.athrow, 1) := by decide +kernel
theorem dX10_charge_21 : decode cX10_charge 21 = .ok (.aload_n 0, 1) := by decide +kernel
theorem dX10_charge_22 : decode cX10_charge 22 = .ok (.sipush 1000, 3) := by decide +kernel
theorem dX10_charge_25 : decode cX10_charge 25 = .ok (.aload_n 0, 1) := by decide +kernel
theorem dX10_charge_26 : decode cX10_charge 26 = .ok (.getfield 77, 3) := by decide +kernel
theorem dX10_charge_29 : decode cX10_charge 29 = .ok (.iload_n 1, 1) := by decide +kernel
theorem dX10_charge_30 : decode cX10_charge 30 = .ok (.iadd, 1) := by decide +kernel
theorem dX10_charge_31 : decode cX10_charge 31 = .ok (.invokestatic 147, 3) := by decide +kernel
theorem dX10_charge_34 : decode cX10_charge 34 = .ok (.putfield 77, 3) := by decide +kernel
theorem dX10_charge_37 : decode cX10_charge 37 = .ok (.aload_n 0, 1) := by decide +kernel
theorem dX10_charge_38 : decode cX10_charge 38 = .ok (.getfield 77, 3) := by decide +kernel
theorem dX10_charge_41 : decode cX10_charge 41 = .ok (.ireturn, 1) := by decide +kernel
theorem dX10_phase_0 : decode cX10_phase 0 = .ok (.aload_n 0, 1) := by decide +kernel
theorem dX10_phase_1 : decode cX10_phase 1 = .ok (.iload_n 1, 1) := by decide +kernel
theorem dX10_phase_2 : decode cX10_phase 2 = .ok (.invokevirtual 152, 3) := by decide +kernel
theorem dX10_phase_5 : decode cX10_phase 5 = .ok (.ifCond .ne 13, 3) := by decide +kernel
theorem dX10_phase_8 : decode cX10_phase 8 = .ok (.new 155, 3) := by decide +kernel
theorem dX10_phase_11 : decode cX10_phase 11 = .ok (.dup, 1) := by decide +kernel
theorem dX10_phase_12 : decode cX10_phase 12 = .ok (.ldc 157, 2) := by decide +kernel
theorem dX10_phase_14 : decode cX10_phase 14 = .ok (.invokespecial 159, 3) := by decide +kernel
theorem dX10_phase_17 : decode cX10_phase 17 = .ok (.athrow, 1) := by decide +kernel
theorem dX10_phase_18 : decode cX10_phase 18 = .ok (.iload_n 2, 1) := by decide +kernel
theorem dX10_phase_19 : decode cX10_phase 19 = .ok (.bipush (-6), 2) := by decide +kernel
theorem dX10_phase_21 : decode cX10_phase 21 = .ok (.bipush 6, 2) := by decide +kernel
theorem dX10_phase_23 : decode cX10_phase 23 = .ok (.invokestatic 85, 3) := by decide +kernel
theorem dX10_phase_26 : decode cX10_phase 26 = .ok (.ifCond .eq 34, 3) := by decide +kernel
theorem dX10_phase_29 : decode cX10_phase 29 = .ok (.iload_n 3, 1) := by decide +kernel
theorem dX10_phase_30 : decode cX10_phase 30 = .ok (.bipush (-6), 2) := by decide +kernel
theorem dX10_phase_32 : decode cX10_phase 32 = .ok (.bipush 6, 2) := by decide +kernel
theorem dX10_phase_34 : decode cX10_phase 34 = .ok (.invokestatic 85, 3) := by decide +kernel
theorem dX10_phase_37 : decode cX10_phase 37 = .ok (.ifCond .eq 23, 3) := by decide +kernel
theorem dX10_phase_40 : decode cX10_phase 40 = .ok (.iload 4, 2) := by decide +kernel
theorem dX10_phase_42 : decode cX10_phase 42 = .ok (.iconst (-1), 1) := by decide +kernel
theorem dX10_phase_43 : decode cX10_phase 43 = .ok (.iconst 1, 1) := by decide +kernel
theorem dX10_phase_44 : decode cX10_phase 44 = .ok (.invokestatic 85, 3) := by decide +kernel
theorem dX10_phase_47 : decode cX10_phase 47 = .ok (.ifCond .eq 13, 3) := by decide +kernel
theorem dX10_phase_50 : decode cX10_phase 50 = .ok (.iload 5, 2) := by decide +kernel
theorem dX10_phase_52 : decode cX10_phase 52 = .ok (.iconst (-1), 1) := by decide +kernel
theorem dX10_phase_53 : decode cX10_phase 53 = .ok (.iconst 1, 1) := by decide +kernel
theorem dX10_phase_54 : decode cX10_phase 54 = .ok (.invokestatic 85, 3) := by decide +kernel
theorem dX10_phase_57 : decode cX10_phase 57 = .ok (.ifCond .ne 13, 3) := by decide +kernel
theorem dX10_phase_60 : decode cX10_phase 60 = .ok (.new 89, 3) := by decide +kernel
theorem dX10_phase_63 : decode cX10_phase 63 = .ok (.dup, 1) := by decide +kernel
theorem dX10_phase_64 : decode cX10_phase 64 = .ok (.ldc 160, 2) := by decide +kernel
theorem dX10_phase_66 : decode cX10_phase 66 = .ok (.invokespecial 93, 3) := by decide +kernel
theorem dX10_phase_69 : decode cX10_phase 69 = .ok (.athrow, 1) := by decide +kernel
theorem dX10_phase_70 : decode cX10_phase 70 = .ok (.aload_n 0, 1) := by decide +kernel
theorem dX10_phase_71 : decode cX10_phase 71 = .ok (.getfield 62, 3) := by decide +kernel
theorem dX10_phase_74 : decode cX10_phase 74 = .ok (.getfield 162, 3) := by decide +kernel
theorem dX10_phase_77 : decode cX10_phase 77 = .ok (.bipush 8, 2) := by decide +kernel
theorem dX10_phase_79 : decode cX10_phase 79 = .ok (.if_icmp .lt 13, 3) := by decide +kernel
theorem dX10_phase_82 : decode cX10_phase 82 = .ok (.new 100, 3) := by decide +kernel
theorem dX10_phase_85 : decode cX10_phase 85 = .ok (.dup, 1) := by decide +kernel
theorem dX10_phase_86 : decode cX10_phase 86 = .ok (.ldc 165, 2) := by decide +kernel
theorem dX10_phase_88 : decode cX10_phase 88 = .ok (.invokespecial 104, 3) := by decide +kernel
theorem dX10_phase_91 : decode cX10_phase 91 = .ok (.athrow, 1) := by decide +kernel
theorem dX10_phase_92 : decode cX10_phase 92 = .ok (.aload_n 0, 1) := by decide +kernel
theorem dX10_phase_93 : decode cX10_phase 93 = .ok (.getfield 62, 3) := by decide +kernel
theorem dX10_phase_96 : decode cX10_phase 96 = .ok (.iload_n 1, 1) := by decide +kernel
theorem dX10_phase_97 : decode cX10_phase 97 = .ok (.iload_n 2, 1) := by decide +kernel
theorem dX10_phase_98 : decode cX10_phase 98 = .ok (.iload_n 3, 1) := by decide +kernel
theorem dX10_phase_99 : decode cX10_phase 99 = .ok (.iload 4, 2) := by decide +kernel
theorem dX10_phase_101 : decode cX10_phase 101 = .ok (.iload 5, 2) := by decide +kernel
theorem dX10_phase_103 : decode cX10_phase 103 = .ok (.invokevirtual 167, 3) := by decide +kernel
theorem dX10_phase_106 : decode cX10_phase 106 = .ok (.ireturn, 1) := by decide +kernel
theorem dX10_halt_0 : decode cX10_halt 0 = .ok (.aload_n 0, 1) := by decide +kernel
theorem dX10_halt_1 : decode cX10_halt 1 = .ok (.getfield 62, 3) := by decide +kernel
theorem dX10_halt_4 : decode cX10_halt 4 = .ok (.getfield 162, 3) := by decide +kernel
theorem dX10_halt_7 : decode cX10_halt 7 = .ok (.istore_n 1, 1) := by decide +kernel
theorem dX10_halt_8 : decode cX10_halt 8 = .ok (.aload_n 0, 1) := by decide +kernel
theorem dX10_halt_9 : decode cX10_halt 9 = .ok (.getfield 62, 3) := by decide +kernel
theorem dX10_halt_12 : decode cX10_halt 12 = .ok (.invokevirtual 171, 3) := by decide +kernel
theorem dX10_halt_15 : decode cX10_halt 15 = .ok (.iload_n 1, 1) := by decide +kernel
theorem dX10_halt_16 : decode cX10_halt 16 = .ok (.ireturn, 1) := by decide +kernel
theorem dX10_load_0 : decode cX10_load 0 = .ok (.iload_n 1, 1) := by decide +kernel
theorem dX10_load_1 : decode cX10_load 1 = .ok (.iconst 0, 1) := by decide +kernel
theorem dX10_load_2 : decode cX10_load 2 = .ok (.bipush 20, 2) := by decide +kernel
theorem dX10_load_4 : decode cX10_load 4 = .ok (.invokestatic 85, 3) := by decide +kernel
theorem dX10_load_7 : decode cX10_load 7 = .ok (.ifCond .eq 17, 3) := by decide +kernel
theorem dX10_load_10 : decode cX10_load 10 = .ok (.iload_n 2, 1) := by decide +kernel
theorem dX10_load_11 : decode cX10_load 11 = .ok (.invokestatic 130, 3) := by decide +kernel
theorem dX10_load_14 : decode cX10_load 14 = .ok (.ifCond .eq 10, 3) := by decide +kernel
theorem dX10_load_17 : decode cX10_load 17 = .ok (.iload_n 3, 1) := by decide +kernel
theorem dX10_load_18 : decode cX10_load 18 = .ok (.invokestatic 130, 3) := by decide +kernel
theorem dX10_load_21 : decode cX10_load 21 = .ok (.ifCond .ne 13, 3) := by decide +kernel
theorem dX10_load_24 : decode cX10_load 24 = .ok (.new 89, 3) := by decide +kernel
theorem dX10_load_27 : decode cX10_load 27 = .ok (.dup, 1) := by decide +kernel
theorem dX10_load_28 : decode cX10_load 28 = .ok (.ldc 174, 2) := by decide +kernel
theorem dX10_load_30 : decode cX10_load 30 = .ok (.invokespecial 93, 3) := by decide +kernel
theorem dX10_load_33 : decode cX10_load 33 = .ok (.athrow, 1) := by decide +kernel
theorem dX10_load_34 : decode cX10_load 34 = .ok (.aload_n 0, 1) := by decide +kernel
theorem dX10_load_35 : decode cX10_load 35 = .ok (.iload_n 1, 1) := by decide +kernel
theorem dX10_load_36 : decode cX10_load 36 = .ok (.iload_n 2, 1) := by decide +kernel
theorem dX10_load_37 : decode cX10_load 37 = .ok (.iload_n 3, 1) := by decide +kernel
theorem dX10_load_38 : decode cX10_load 38 = .ok (.invokevirtual 176, 3) := by decide +kernel
theorem dX10_load_41 : decode cX10_load 41 = .ok (.ifCond .ne 13, 3) := by decide +kernel
theorem dX10_load_44 : decode cX10_load 44 = .ok (.new 100, 3) := by decide +kernel
theorem dX10_load_47 : decode cX10_load 47 = .ok (.dup, 1) := by decide +kernel
theorem dX10_load_48 : decode cX10_load 48 = .ok (.ldc 179, 2) := by decide +kernel
theorem dX10_load_50 : decode cX10_load 50 = .ok (.invokespecial 104, 3) := by decide +kernel
theorem dX10_load_53 : decode cX10_load 53 = .ok (.athrow, 1) := by decide +kernel
theorem dX10_load_54 : decode cX10_load 54 = .ok (.aload_n 0, 1) := by decide +kernel
theorem dX10_load_55 : decode cX10_load 55 = .ok (.invokevirtual 181, 3) := by decide +kernel
theorem dX10_load_58 : decode cX10_load 58 = .ok (.ireturn, 1) := by decide +kernel
theorem dX10_rise_0 : decode cX10_rise 0 = .ok (.aload_n 0, 1) := by decide +kernel
theorem dX10_rise_1 : decode cX10_rise 1 = .ok (.invokevirtual 185, 3) := by decide +kernel
theorem dX10_rise_4 : decode cX10_rise 4 = .ok (.ifCond .ne 13, 3) := by decide +kernel
theorem dX10_rise_7 : decode cX10_rise 7 = .ok (.new 100, 3) := by decide +kernel
theorem dX10_rise_10 : decode cX10_rise 10 = .ok (.dup, 1) := by decide +kernel
theorem dX10_rise_11 : decode cX10_rise 11 = .ok (.ldc 179, 2) := by decide +kernel
theorem dX10_rise_13 : decode cX10_rise 13 = .ok (.invokespecial 104, 3) := by decide +kernel
theorem dX10_rise_16 : decode cX10_rise 16 = .ok (.athrow, 1) := by decide +kernel
theorem dX10_rise_17 : decode cX10_rise 17 = .ok (.aload_n 0, 1) := by decide +kernel
theorem dX10_rise_18 : decode cX10_rise 18 = .ok (.invokevirtual 181, 3) := by decide +kernel
theorem dX10_rise_21 : decode cX10_rise 21 = .ok (.pop, 1) := by decide +kernel
theorem dX10_rise_22 : decode cX10_rise 22 = .ok (.aload_n 0, 1) := by decide +kernel
theorem dX10_rise_23 : decode cX10_rise 23 = .ok (.getfield 31, 3) := by decide +kernel
theorem dX10_rise_26 : decode cX10_rise 26 = .ok (.invokevirtual 189, 3) := by decide +kernel
theorem dX10_rise_29 : decode cX10_rise 29 = .ok (.ireturn, 1) := by decide +kernel
theorem dX10_lift_0 : decode cX10_lift 0 = .ok (.aload_n 0, 1) := by decide +kernel
theorem dX10_lift_1 : decode cX10_lift 1 = .ok (.iload_n 1, 1) := by decide +kernel
theorem dX10_lift_2 : decode cX10_lift 2 = .ok (.invokevirtual 152, 3) := by decide +kernel
theorem dX10_lift_5 : decode cX10_lift 5 = .ok (.ifCond .ne 13, 3) := by decide +kernel
theorem dX10_lift_8 : decode cX10_lift 8 = .ok (.new 155, 3) := by decide +kernel
theorem dX10_lift_11 : decode cX10_lift 11 = .ok (.dup, 1) := by decide +kernel
theorem dX10_lift_12 : decode cX10_lift 12 = .ok (.ldc 157, 2) := by decide +kernel
theorem dX10_lift_14 : decode cX10_lift 14 = .ok (.invokespecial 159, 3) := by decide +kernel
theorem dX10_lift_17 : decode cX10_lift 17 = .ok (.athrow, 1) := by decide +kernel
theorem dX10_lift_18 : decode cX10_lift 18 = .ok (.aload_n 0, 1) := by decide +kernel
theorem dX10_lift_19 : decode cX10_lift 19 = .ok (.iload_n 1, 1) := by decide +kernel
theorem dX10_lift_20 : decode cX10_lift 20 = .ok (.invokevirtual 192, 3) := by decide +kernel
theorem dX10_lift_23 : decode cX10_lift 23 = .ok (.ifCond .ne 13, 3) := by decide +kernel
theorem dX10_lift_26 : decode cX10_lift 26 = .ok (.new 100, 3) := by decide +kernel
theorem dX10_lift_29 : decode cX10_lift 29 = .ok (.dup, 1) := by decide +kernel
theorem dX10_lift_30 : decode cX10_lift 30 = .ok (.ldc 179, 2) := by decide +kernel
theorem dX10_lift_32 : decode cX10_lift 32 = .ok (.invokespecial 104, 3) := by decide +kernel
theorem dX10_lift_35 : decode cX10_lift 35 = .ok (.athrow, 1) := by decide +kernel
theorem dX10_lift_36 : decode cX10_lift 36 = .ok (.aload_n 0, 1) := by decide +kernel
theorem dX10_lift_37 : decode cX10_lift 37 = .ok (.invokevirtual 181, 3) := by decide +kernel
theorem dX10_lift_40 : decode cX10_lift 40 = .ok (.ireturn, 1) := by decide +kernel
theorem dX10_place_0 : decode cX10_place 0 = .ok (.aload_n 0, 1) := by decide +kernel
theorem dX10_place_1 : decode cX10_place 1 = .ok (.iload_n 1, 1) := by decide +kernel
theorem dX10_place_2 : decode cX10_place 2 = .ok (.invokevirtual 152, 3) := by decide +kernel
theorem dX10_place_5 : decode cX10_place 5 = .ok (.ifCond .ne 13, 3) := by decide +kernel
theorem dX10_place_8 : decode cX10_place 8 = .ok (.new 155, 3) := by decide +kernel
theorem dX10_place_11 : decode cX10_place 11 = .ok (.dup, 1) := by decide +kernel
theorem dX10_place_12 : decode cX10_place 12 = .ok (.ldc 157, 2) := by decide +kernel
theorem dX10_place_14 : decode cX10_place 14 = .ok (.invokespecial 159, 3) := by decide +kernel
theorem dX10_place_17 : decode cX10_place 17 = .ok (.athrow, 1) := by decide +kernel
theorem dX10_place_18 : decode cX10_place 18 = .ok (.iload_n 2, 1) := by decide +kernel
theorem dX10_place_19 : decode cX10_place 19 = .ok (.iload_n 3, 1) := by decide +kernel
theorem dX10_place_20 : decode cX10_place 20 = .ok (.invokestatic 81, 3) := by decide +kernel
theorem dX10_place_23 : decode cX10_place 23 = .ok (.istore 4, 2) := by decide +kernel
theorem dX10_place_25 : decode cX10_place 25 = .ok (.iload 4, 2) := by decide +kernel
theorem dX10_place_27 : decode cX10_place 27 = .ok (.iconst (-1), 1) := by decide +kernel
theorem dX10_place_28 : decode cX10_place 28 = .ok (.if_icmp .ne 13, 3) := by decide +kernel
theorem dX10_place_31 : decode cX10_place 31 = .ok (.new 89, 3) := by decide +kernel
theorem dX10_place_34 : decode cX10_place 34 = .ok (.dup, 1) := by decide +kernel
theorem dX10_place_35 : decode cX10_place 35 = .ok (.ldc 195, 2) := by decide +kernel
theorem dX10_place_37 : decode cX10_place 37 = .ok (.invokespecial 93, 3) := by decide +kernel
theorem dX10_place_40 : decode cX10_place 40 = .ok (.athrow, 1) := by decide +kernel
theorem dX10_place_41 : decode cX10_place 41 = .ok (.aload_n 0, 1) := by decide +kernel
theorem dX10_place_42 : decode cX10_place 42 = .ok (.iload_n 1, 1) := by decide +kernel
theorem dX10_place_43 : decode cX10_place 43 = .ok (.iload 4, 2) := by decide +kernel
theorem dX10_place_45 : decode cX10_place 45 = .ok (.invokevirtual 197, 3) := by decide +kernel
theorem dX10_place_48 : decode cX10_place 48 = .ok (.ifCond .ne 13, 3) := by decide +kernel
theorem dX10_place_51 : decode cX10_place 51 = .ok (.new 100, 3) := by decide +kernel
theorem dX10_place_54 : decode cX10_place 54 = .ok (.dup, 1) := by decide +kernel
theorem dX10_place_55 : decode cX10_place 55 = .ok (.ldc 179, 2) := by decide +kernel
theorem dX10_place_57 : decode cX10_place 57 = .ok (.invokespecial 104, 3) := by decide +kernel
theorem dX10_place_60 : decode cX10_place 60 = .ok (.athrow, 1) := by decide +kernel
theorem dX10_place_61 : decode cX10_place 61 = .ok (.aload_n 0, 1) := by decide +kernel
theorem dX10_place_62 : decode cX10_place 62 = .ok (.invokevirtual 181, 3) := by decide +kernel
theorem dX10_place_65 : decode cX10_place 65 = .ok (.ireturn, 1) := by decide +kernel
theorem dX10_shift_0 : decode cX10_shift 0 = .ok (.iload_n 1, 1) := by decide +kernel
theorem dX10_shift_1 : decode cX10_shift 1 = .ok (.iconst (-1), 1) := by decide +kernel
theorem dX10_shift_2 : decode cX10_shift 2 = .ok (.iconst 1, 1) := by decide +kernel
theorem dX10_shift_3 : decode cX10_shift 3 = .ok (.invokestatic 85, 3) := by decide +kernel
theorem dX10_shift_6 : decode cX10_shift 6 = .ok (.ifCond .eq 20, 3) := by decide +kernel
theorem dX10_shift_9 : decode cX10_shift 9 = .ok (.iload_n 2, 1) := by decide +kernel
theorem dX10_shift_10 : decode cX10_shift 10 = .ok (.iconst (-1), 1) := by decide +kernel
theorem dX10_shift_11 : decode cX10_shift 11 = .ok (.iconst 1, 1) := by decide +kernel
theorem dX10_shift_12 : decode cX10_shift 12 = .ok (.invokestatic 85, 3) := by decide +kernel
theorem dX10_shift_15 : decode cX10_shift 15 = .ok (.ifCond .eq 11, 3) := by decide +kernel
theorem dX10_shift_18 : decode cX10_shift 18 = .ok (.iload_n 1, 1) := by decide +kernel
theorem dX10_shift_19 : decode cX10_shift 19 = .ok (.ifCond .ne 17, 3) := by decide +kernel
theorem dX10_shift_22 : decode cX10_shift 22 = .ok (.iload_n 2, 1) := by decide +kernel
theorem dX10_shift_23 : decode cX10_shift 23 = .ok (.ifCond .ne 13, 3) := by decide +kernel
theorem dX10_shift_26 : decode cX10_shift 26 = .ok (.new 89, 3) := by decide +kernel
theorem dX10_shift_29 : decode cX10_shift 29 = .ok (.dup, 1) := by decide +kernel
theorem dX10_shift_30 : decode cX10_shift 30 = .ok (.ldc 160, 2) := by decide +kernel
theorem dX10_shift_32 : decode cX10_shift 32 = .ok (.invokespecial 93, 3) := by decide +kernel
theorem dX10_shift_35 : decode cX10_shift 35 = .ok (.athrow, 1) := by decide +kernel
theorem dX10_shift_36 : decode cX10_shift 36 = .ok (.aload_n 0, 1) := by decide +kernel
theorem dX10_shift_37 : decode cX10_shift 37 = .ok (.iload_n 1, 1) := by decide +kernel
theorem dX10_shift_38 : decode cX10_shift 38 = .ok (.iload_n 2, 1) := by decide +kernel
theorem dX10_shift_39 : decode cX10_shift 39 = .ok (.invokevirtual 200, 3) := by decide +kernel
theorem dX10_shift_42 : decode cX10_shift 42 = .ok (.ifCond .ne 13, 3) := by decide +kernel
theorem dX10_shift_45 : decode cX10_shift 45 = .ok (.new 100, 3) := by decide +kernel
theorem dX10_shift_48 : decode cX10_shift 48 = .ok (.dup, 1) := by decide +kernel
theorem dX10_shift_49 : decode cX10_shift 49 = .ok (.ldc 179, 2) := by decide +kernel
theorem dX10_shift_51 : decode cX10_shift 51 = .ok (.invokespecial 104, 3) := by decide +kernel
theorem dX10_shift_54 : decode cX10_shift 54 = .ok (.athrow, 1) := by decide +kernel
theorem dX10_shift_55 : decode cX10_shift 55 = .ok (.aload_n 0, 1) := by decide +kernel
theorem dX10_shift_56 : decode cX10_shift 56 = .ok (.invokevirtual 181, 3) := by decide +kernel
theorem dX10_shift_59 : decode cX10_shift 59 = .ok (.ireturn, 1) := by decide +kernel
theorem dX10_walk_0 : decode cX10_walk 0 = .ok (.iload_n 1, 1) := by decide +kernel
theorem dX10_walk_1 : decode cX10_walk 1 = .ok (.iconst 1, 1) := by decide +kernel
theorem dX10_walk_2 : decode cX10_walk 2 = .ok (.bipush 20, 2) := by decide +kernel
theorem dX10_walk_4 : decode cX10_walk 4 = .ok (.invokestatic 85, 3) := by decide +kernel
theorem dX10_walk_7 : decode cX10_walk 7 = .ok (.ifCond .ne 13, 3) := by decide +kernel
theorem dX10_walk_10 : decode cX10_walk 10 = .ok (.new 89, 3) := by decide +kernel
theorem dX10_walk_13 : decode cX10_walk 13 = .ok (.dup, 1) := by decide +kernel
theorem dX10_walk_14 : decode cX10_walk 14 = .ok (.ldc 203, 2) := by decide +kernel
theorem dX10_walk_16 : decode cX10_walk 16 = .ok (.invokespecial 93, 3) := by decide +kernel
theorem dX10_walk_19 : decode cX10_walk 19 = .ok (.athrow, 1) := by decide +kernel
theorem dX10_walk_20 : decode cX10_walk 20 = .ok (.aload_n 0, 1) := by decide +kernel
theorem dX10_walk_21 : decode cX10_walk 21 = .ok (.getfield 62, 3) := by decide +kernel
theorem dX10_walk_24 : decode cX10_walk 24 = .ok (.getfield 162, 3) := by decide +kernel
theorem dX10_walk_27 : decode cX10_walk 27 = .ok (.ifCond .ne 13, 3) := by decide +kernel
theorem dX10_walk_30 : decode cX10_walk 30 = .ok (.new 100, 3) := by decide +kernel
theorem dX10_walk_33 : decode cX10_walk 33 = .ok (.dup, 1) := by decide +kernel
theorem dX10_walk_34 : decode cX10_walk 34 = .ok (.ldc 205, 2) := by decide +kernel
theorem dX10_walk_36 : decode cX10_walk 36 = .ok (.invokespecial 104, 3) := by decide +kernel
theorem dX10_walk_39 : decode cX10_walk 39 = .ok (.athrow, 1) := by decide +kernel
theorem dX10_walk_40 : decode cX10_walk 40 = .ok (.iconst 0, 1) := by decide +kernel
theorem dX10_walk_41 : decode cX10_walk 41 = .ok (.istore_n 2, 1) := by decide +kernel
theorem dX10_walk_42 : decode cX10_walk 42 = .ok (.iload_n 2, 1) := by decide +kernel
theorem dX10_walk_43 : decode cX10_walk 43 = .ok (.iload_n 1, 1) := by decide +kernel
theorem dX10_walk_44 : decode cX10_walk 44 = .ok (.if_icmp .ge 30, 3) := by decide +kernel
theorem dX10_walk_47 : decode cX10_walk 47 = .ok (.aload_n 0, 1) := by decide +kernel
theorem dX10_walk_48 : decode cX10_walk 48 = .ok (.aload_n 0, 1) := by decide +kernel
theorem dX10_walk_49 : decode cX10_walk 49 = .ok (.getfield 62, 3) := by decide +kernel
theorem dX10_walk_52 : decode cX10_walk 52 = .ok (.getfield 207, 3) := by decide +kernel
theorem dX10_walk_55 : decode cX10_walk 55 = .ok (.invokevirtual 210, 3) := by decide +kernel
theorem dX10_walk_58 : decode cX10_walk 58 = .ok (.ifCond .eq 16, 3) := by decide +kernel
theorem dX10_walk_61 : decode cX10_walk 61 = .ok (.aload_n 0, 1) := by decide +kernel
theorem dX10_walk_62 : decode cX10_walk 62 = .ok (.getfield 62, 3) := by decide +kernel
theorem dX10_walk_65 : decode cX10_walk 65 = .ok (.invokevirtual 213, 3) := by decide +kernel
theorem dX10_walk_68 : decode cX10_walk 68 = .ok (.iinc 2 1, 3) := by decide +kernel
theorem dX10_walk_71 : decode cX10_walk 71 = .ok (.goto (-29), 3) := by decide +kernel
theorem dX10_walk_74 : decode cX10_walk 74 = .ok (.iload_n 2, 1) := by decide +kernel
theorem dX10_walk_75 : decode cX10_walk 75 = .ok (.ireturn, 1) := by decide +kernel
theorem dX10_machine_0 : decode cX10_machine 0 = .ok (.iload_n 1, 1) := by decide +kernel
theorem dX10_machine_1 : decode cX10_machine 1 = .ok (.tableswitch 176 0 11 #[63, 71, 79, 92, 97, 105, 114, 122, 130, 138, 146, 154], 63) := by decide +kernel
theorem dX10_machine_64 : decode cX10_machine 64 = .ok (.aload_n 0, 1) := by decide +kernel
theorem dX10_machine_65 : decode cX10_machine 65 = .ok (.getfield 31, 3) := by decide +kernel
theorem dX10_machine_68 : decode cX10_machine 68 = .ok (.getfield 216, 3) := by decide +kernel
theorem dX10_machine_71 : decode cX10_machine 71 = .ok (.ireturn, 1) := by decide +kernel
theorem dX10_machine_72 : decode cX10_machine 72 = .ok (.aload_n 0, 1) := by decide +kernel
theorem dX10_machine_73 : decode cX10_machine 73 = .ok (.getfield 31, 3) := by decide +kernel
theorem dX10_machine_76 : decode cX10_machine 76 = .ok (.getfield 219, 3) := by decide +kernel
theorem dX10_machine_79 : decode cX10_machine 79 = .ok (.ireturn, 1) := by decide +kernel
theorem dX10_machine_80 : decode cX10_machine 80 = .ok (.aload_n 0, 1) := by decide +kernel
theorem dX10_machine_81 : decode cX10_machine 81 = .ok (.getfield 73, 3) := by decide +kernel
theorem dX10_machine_84 : decode cX10_machine 84 = .ok (.ifCond .eq 7, 3) := by decide +kernel
theorem dX10_machine_87 : decode cX10_machine 87 = .ok (.iconst 1, 1) := by decide +kernel
theorem dX10_machine_88 : decode cX10_machine 88 = .ok (.goto 4, 3) := by decide +kernel
theorem dX10_machine_91 : decode cX10_machine 91 = .ok (.iconst 0, 1) := by decide +kernel
theorem dX10_machine_92 : decode cX10_machine 92 = .ok (.ireturn, 1) := by decide +kernel
theorem dX10_machine_93 : decode cX10_machine 93 = .ok (.aload_n 0, 1) := by decide +kernel
theorem dX10_machine_94 : decode cX10_machine 94 = .ok (.getfield 77, 3) := by decide +kernel
theorem dX10_machine_97 : decode cX10_machine 97 = .ok (.ireturn, 1) := by decide +kernel
theorem dX10_machine_98 : decode cX10_machine 98 = .ok (.aload_n 0, 1) := by decide +kernel
theorem dX10_machine_99 : decode cX10_machine 99 = .ok (.getfield 22, 3) := by decide +kernel
theorem dX10_machine_102 : decode cX10_machine 102 = .ok (.getfield 222, 3) := by decide +kernel
theorem dX10_machine_105 : decode cX10_machine 105 = .ok (.ireturn, 1) := by decide +kernel
theorem dX10_machine_106 : decode cX10_machine 106 = .ok (.aload_n 0, 1) := by decide +kernel
theorem dX10_machine_107 : decode cX10_machine 107 = .ok (.getfield 31, 3) := by decide +kernel
theorem dX10_machine_110 : decode cX10_machine 110 = .ok (.iconst (-1), 1) := by decide +kernel
theorem dX10_machine_111 : decode cX10_machine 111 = .ok (.invokevirtual 225, 3) := by decide +kernel
theorem dX10_machine_114 : decode cX10_machine 114 = .ok (.ireturn, 1) := by decide +kernel
theorem dX10_machine_115 : decode cX10_machine 115 = .ok (.aload_n 0, 1) := by decide +kernel
theorem dX10_machine_116 : decode cX10_machine 116 = .ok (.getfield 31, 3) := by decide +kernel
theorem dX10_machine_119 : decode cX10_machine 119 = .ok (.invokevirtual 228, 3) := by decide +kernel
theorem dX10_machine_122 : decode cX10_machine 122 = .ok (.ireturn, 1) := by decide +kernel
theorem dX10_machine_123 : decode cX10_machine 123 = .ok (.aload_n 0, 1) := by decide +kernel
theorem dX10_machine_124 : decode cX10_machine 124 = .ok (.getfield 31, 3) := by decide +kernel
theorem dX10_machine_127 : decode cX10_machine 127 = .ok (.invokevirtual 189, 3) := by decide +kernel
theorem dX10_machine_130 : decode cX10_machine 130 = .ok (.ireturn, 1) := by decide +kernel
theorem dX10_machine_131 : decode cX10_machine 131 = .ok (.aload_n 0, 1) := by decide +kernel
theorem dX10_machine_132 : decode cX10_machine 132 = .ok (.getfield 48, 3) := by decide +kernel
theorem dX10_machine_135 : decode cX10_machine 135 = .ok (.getfield 231, 3) := by decide +kernel
theorem dX10_machine_138 : decode cX10_machine 138 = .ok (.ireturn, 1) := by decide +kernel
theorem dX10_machine_139 : decode cX10_machine 139 = .ok (.aload_n 0, 1) := by decide +kernel
theorem dX10_machine_140 : decode cX10_machine 140 = .ok (.getfield 55, 3) := by decide +kernel
theorem dX10_machine_143 : decode cX10_machine 143 = .ok (.getfield 232, 3) := by decide +kernel
theorem dX10_machine_146 : decode cX10_machine 146 = .ok (.ireturn, 1) := by decide +kernel
theorem dX10_machine_147 : decode cX10_machine 147 = .ok (.aload_n 0, 1) := by decide +kernel
theorem dX10_machine_148 : decode cX10_machine 148 = .ok (.getfield 22, 3) := by decide +kernel
theorem dX10_machine_151 : decode cX10_machine 151 = .ok (.getfield 136, 3) := by decide +kernel
theorem dX10_machine_154 : decode cX10_machine 154 = .ok (.ireturn, 1) := by decide +kernel
theorem dX10_machine_155 : decode cX10_machine 155 = .ok (.aload_n 0, 1) := by decide +kernel
theorem dX10_machine_156 : decode cX10_machine 156 = .ok (.getfield 62, 3) := by decide +kernel
theorem dX10_machine_159 : decode cX10_machine 159 = .ok (.getfield 162, 3) := by decide +kernel
theorem dX10_machine_162 : decode cX10_machine 162 = .ok (.ifCond .ne 7, 3) := by decide +kernel
theorem dX10_machine_165 : decode cX10_machine 165 = .ok (.iconst (-1), 1) := by decide +kernel
theorem dX10_machine_166 : decode cX10_machine 166 = .ok (.goto 10, 3) := by decide +kernel
theorem dX10_machine_169 : decode cX10_machine 169 = .ok (.aload_n 0, 1) := by decide +kernel
theorem dX10_machine_170 : decode cX10_machine 170 = .ok (.getfield 62, 3) := by decide +kernel
theorem dX10_machine_173 : decode cX10_machine 173 = .ok (.getfield 207, 3) := by decide +kernel
theorem dX10_machine_176 : decode cX10_machine 176 = .ok (.ireturn, 1) := by decide +kernel
theorem dX10_machine_177 : decode cX10_machine 177 = .ok (.new 89, 3) := by decide +kernel
theorem dX10_machine_180 : decode cX10_machine 180 = .ok (.dup, 1) := by decide +kernel
theorem dX10_machine_181 : decode cX10_machine 181 = .ok (.ldc 233, 2) := by decide +kernel
theorem dX10_machine_183 : decode cX10_machine 183 = .ok (.invokespecial 93, 3) := by decide +kernel
theorem dX10_machine_186 : decode cX10_machine 186 = .ok (.athrow, 1) := by decide +kernel
theorem dX10_foot_0 : decode cX10_foot 0 = .ok (.aload_n 0, 1) := by decide +kernel
theorem dX10_foot_1 : decode cX10_foot 1 = .ok (.iload_n 1, 1) := by decide +kernel
theorem dX10_foot_2 : decode cX10_foot 2 = .ok (.invokevirtual 152, 3) := by decide +kernel
theorem dX10_foot_5 : decode cX10_foot 5 = .ok (.ifCond .ne 13, 3) := by decide +kernel
theorem dX10_foot_8 : decode cX10_foot 8 = .ok (.new 155, 3) := by decide +kernel
theorem dX10_foot_11 : decode cX10_foot 11 = .ok (.dup, 1) := by decide +kernel
theorem dX10_foot_12 : decode cX10_foot 12 = .ok (.ldc 157, 2) := by decide +kernel
theorem dX10_foot_14 : decode cX10_foot 14 = .ok (.invokespecial 159, 3) := by decide +kernel
theorem dX10_foot_17 : decode cX10_foot 17 = .ok (.athrow, 1) := by decide +kernel
theorem dX10_foot_18 : decode cX10_foot 18 = .ok (.aload_n 0, 1) := by decide +kernel
theorem dX10_foot_19 : decode cX10_foot 19 = .ok (.getfield 31, 3) := by decide +kernel
theorem dX10_foot_22 : decode cX10_foot 22 = .ok (.getfield 235, 3) := by decide +kernel
theorem dX10_foot_25 : decode cX10_foot 25 = .ok (.iload_n 1, 1) := by decide +kernel
theorem dX10_foot_26 : decode cX10_foot 26 = .ok (.invokevirtual 109, 3) := by decide +kernel
theorem dX10_foot_29 : decode cX10_foot 29 = .ok (.istore_n 3, 1) := by decide +kernel
theorem dX10_foot_30 : decode cX10_foot 30 = .ok (.iload_n 2, 1) := by decide +kernel
theorem dX10_foot_31 : decode cX10_foot 31 = .ok (.tableswitch 64 0 2 #[25, 36, 50], 25) := by decide +kernel
theorem dX10_foot_56 : decode cX10_foot 56 = .ok (.iload_n 3, 1) := by decide +kernel
theorem dX10_foot_57 : decode cX10_foot 57 = .ok (.iconst (-1), 1) := by decide +kernel
theorem dX10_foot_58 : decode cX10_foot 58 = .ok (.if_icmp .ne 7, 3) := by decide +kernel
theorem dX10_foot_61 : decode cX10_foot 61 = .ok (.iconst 0, 1) := by decide +kernel
theorem dX10_foot_62 : decode cX10_foot 62 = .ok (.goto 4, 3) := by decide +kernel
theorem dX10_foot_65 : decode cX10_foot 65 = .ok (.iconst 1, 1) := by decide +kernel
theorem dX10_foot_66 : decode cX10_foot 66 = .ok (.ireturn, 1) := by decide +kernel
theorem dX10_foot_67 : decode cX10_foot 67 = .ok (.iload_n 3, 1) := by decide +kernel
theorem dX10_foot_68 : decode cX10_foot 68 = .ok (.iconst (-1), 1) := by decide +kernel
theorem dX10_foot_69 : decode cX10_foot 69 = .ok (.if_icmp .ne 7, 3) := by decide +kernel
theorem dX10_foot_72 : decode cX10_foot 72 = .ok (.iconst (-1), 1) := by decide +kernel
theorem dX10_foot_73 : decode cX10_foot 73 = .ok (.goto 7, 3) := by decide +kernel
theorem dX10_foot_76 : decode cX10_foot 76 = .ok (.iload_n 3, 1) := by decide +kernel
theorem dX10_foot_77 : decode cX10_foot 77 = .ok (.invokestatic 238, 3) := by decide +kernel
theorem dX10_foot_80 : decode cX10_foot 80 = .ok (.ireturn, 1) := by decide +kernel
theorem dX10_foot_81 : decode cX10_foot 81 = .ok (.iload_n 3, 1) := by decide +kernel
theorem dX10_foot_82 : decode cX10_foot 82 = .ok (.iconst (-1), 1) := by decide +kernel
theorem dX10_foot_83 : decode cX10_foot 83 = .ok (.if_icmp .ne 7, 3) := by decide +kernel
theorem dX10_foot_86 : decode cX10_foot 86 = .ok (.iconst (-1), 1) := by decide +kernel
theorem dX10_foot_87 : decode cX10_foot 87 = .ok (.goto 7, 3) := by decide +kernel
theorem dX10_foot_90 : decode cX10_foot 90 = .ok (.iload_n 3, 1) := by decide +kernel
theorem dX10_foot_91 : decode cX10_foot 91 = .ok (.invokestatic 241, 3) := by decide +kernel
theorem dX10_foot_94 : decode cX10_foot 94 = .ok (.ireturn, 1) := by decide +kernel
theorem dX10_foot_95 : decode cX10_foot 95 = .ok (.new 89, 3) := by decide +kernel
theorem dX10_foot_98 : decode cX10_foot 98 = .ok (.dup, 1) := by decide +kernel
theorem dX10_foot_99 : decode cX10_foot 99 = .ok (.ldc 233, 2) := by decide +kernel
theorem dX10_foot_101 : decode cX10_foot 101 = .ok (.invokespecial 93, 3) := by decide +kernel
theorem dX10_foot_104 : decode cX10_foot 104 = .ok (.athrow, 1) := by decide +kernel
theorem dX10_point_0 : decode cX10_point 0 = .ok (.iload_n 1, 1) := by decide +kernel
theorem dX10_point_1 : decode cX10_point 1 = .ok (.iload_n 2, 1) := by decide +kernel
theorem dX10_point_2 : decode cX10_point 2 = .ok (.invokestatic 81, 3) := by decide +kernel
theorem dX10_point_5 : decode cX10_point 5 = .ok (.istore 4, 2) := by decide +kernel
theorem dX10_point_7 : decode cX10_point 7 = .ok (.iload 4, 2) := by decide +kernel
theorem dX10_point_9 : decode cX10_point 9 = .ok (.iconst (-1), 1) := by decide +kernel
theorem dX10_point_10 : decode cX10_point 10 = .ok (.if_icmp .ne 13, 3) := by decide +kernel
theorem dX10_point_13 : decode cX10_point 13 = .ok (.new 89, 3) := by decide +kernel
theorem dX10_point_16 : decode cX10_point 16 = .ok (.dup, 1) := by decide +kernel
theorem dX10_point_17 : decode cX10_point 17 = .ok (.ldc 195, 2) := by decide +kernel
theorem dX10_point_19 : decode cX10_point 19 = .ok (.invokespecial 93, 3) := by decide +kernel
theorem dX10_point_22 : decode cX10_point 22 = .ok (.athrow, 1) := by decide +kernel
theorem dX10_point_23 : decode cX10_point 23 = .ok (.iload_n 3, 1) := by decide +kernel
theorem dX10_point_24 : decode cX10_point 24 = .ok (.tableswitch 84 0 3 #[32, 45, 58, 71], 32) := by decide +kernel
theorem dX10_point_56 : decode cX10_point 56 = .ok (.aload_n 0, 1) := by decide +kernel
theorem dX10_point_57 : decode cX10_point 57 = .ok (.getfield 15, 3) := by decide +kernel
theorem dX10_point_60 : decode cX10_point 60 = .ok (.getfield 105, 3) := by decide +kernel
theorem dX10_point_63 : decode cX10_point 63 = .ok (.iload 4, 2) := by decide +kernel
theorem dX10_point_65 : decode cX10_point 65 = .ok (.invokevirtual 109, 3) := by decide +kernel
theorem dX10_point_68 : decode cX10_point 68 = .ok (.ireturn, 1) := by decide +kernel
theorem dX10_point_69 : decode cX10_point 69 = .ok (.aload_n 0, 1) := by decide +kernel
theorem dX10_point_70 : decode cX10_point 70 = .ok (.getfield 15, 3) := by decide +kernel
theorem dX10_point_73 : decode cX10_point 73 = .ok (.getfield 119, 3) := by decide +kernel
theorem dX10_point_76 : decode cX10_point 76 = .ok (.iload 4, 2) := by decide +kernel
theorem dX10_point_78 : decode cX10_point 78 = .ok (.invokevirtual 109, 3) := by decide +kernel
theorem dX10_point_81 : decode cX10_point 81 = .ok (.ireturn, 1) := by decide +kernel
theorem dX10_point_82 : decode cX10_point 82 = .ok (.aload_n 0, 1) := by decide +kernel
theorem dX10_point_83 : decode cX10_point 83 = .ok (.getfield 15, 3) := by decide +kernel
theorem dX10_point_86 : decode cX10_point 86 = .ok (.getfield 122, 3) := by decide +kernel
theorem dX10_point_89 : decode cX10_point 89 = .ok (.iload 4, 2) := by decide +kernel
theorem dX10_point_91 : decode cX10_point 91 = .ok (.invokevirtual 109, 3) := by decide +kernel
theorem dX10_point_94 : decode cX10_point 94 = .ok (.ireturn, 1) := by decide +kernel
theorem dX10_point_95 : decode cX10_point 95 = .ok (.aload_n 0, 1) := by decide +kernel
theorem dX10_point_96 : decode cX10_point 96 = .ok (.getfield 15, 3) := by decide +kernel
theorem dX10_point_99 : decode cX10_point 99 = .ok (.getfield 127, 3) := by decide +kernel
theorem dX10_point_102 : decode cX10_point 102 = .ok (.iload 4, 2) := by decide +kernel
theorem dX10_point_104 : decode cX10_point 104 = .ok (.invokevirtual 109, 3) := by decide +kernel
theorem dX10_point_107 : decode cX10_point 107 = .ok (.ireturn, 1) := by decide +kernel
theorem dX10_point_108 : decode cX10_point 108 = .ok (.new 89, 3) := by decide +kernel
theorem dX10_point_111 : decode cX10_point 111 = .ok (.dup, 1) := by decide +kernel
theorem dX10_point_112 : decode cX10_point 112 = .ok (.ldc 233, 2) := by decide +kernel
theorem dX10_point_114 : decode cX10_point 114 = .ok (.invokespecial 93, 3) := by decide +kernel
theorem dX10_point_117 : decode cX10_point 117 = .ok (.athrow, 1) := by decide +kernel
theorem dX10_isStable_0 : decode cX10_isStable 0 = .ok (.aload_n 0, 1) := by decide +kernel
theorem dX10_isStable_1 : decode cX10_isStable 1 = .ok (.getfield 31, 3) := by decide +kernel
theorem dX10_isStable_4 : decode cX10_isStable 4 = .ok (.iconst (-1), 1) := by decide +kernel
theorem dX10_isStable_5 : decode cX10_isStable 5 = .ok (.invokevirtual 244, 3) := by decide +kernel
theorem dX10_isStable_8 : decode cX10_isStable 8 = .ok (.ireturn, 1) := by decide +kernel
theorem dX10_isStableAnew_0 : decode cX10_isStableAnew 0 = .ok (.aload_n 0, 1) := by decide +kernel
theorem dX10_isStableAnew_1 : decode cX10_isStableAnew 1 = .ok (.getfield 41, 3) := by decide +kernel
theorem dX10_isStableAnew_4 : decode cX10_isStableAnew 4 = .ok (.aload_n 0, 1) := by decide +kernel
theorem dX10_isStableAnew_5 : decode cX10_isStableAnew 5 = .ok (.getfield 31, 3) := by decide +kernel
theorem dX10_isStableAnew_8 : decode cX10_isStableAnew 8 = .ok (.getfield 235, 3) := by decide +kernel
theorem dX10_isStableAnew_11 : decode cX10_isStableAnew 11 = .ok (.aload_n 0, 1) := by decide +kernel
theorem dX10_isStableAnew_12 : decode cX10_isStableAnew 12 = .ok (.getfield 31, 3) := by decide +kernel
theorem dX10_isStableAnew_15 : decode cX10_isStableAnew 15 = .ok (.invokevirtual 247, 3) := by decide +kernel
theorem dX10_isStableAnew_18 : decode cX10_isStableAnew 18 = .ok (.aload_n 0, 1) := by decide +kernel
theorem dX10_isStableAnew_19 : decode cX10_isStableAnew 19 = .ok (.getfield 31, 3) := by decide +kernel
theorem dX10_isStableAnew_22 : decode cX10_isStableAnew 22 = .ok (.invokevirtual 250, 3) := by decide +kernel
theorem dX10_isStableAnew_25 : decode cX10_isStableAnew 25 = .ok (.aload_n 0, 1) := by decide +kernel
theorem dX10_isStableAnew_26 : decode cX10_isStableAnew 26 = .ok (.getfield 22, 3) := by decide +kernel
theorem dX10_isStableAnew_29 : decode cX10_isStableAnew 29 = .ok (.invokevirtual 253, 3) := by decide +kernel
theorem dX10_isStableAnew_32 : decode cX10_isStableAnew 32 = .ok (.invokevirtual 256, 3) := by decide +kernel
theorem dX10_isStableAnew_35 : decode cX10_isStableAnew 35 = .ok (.aload_n 0, 1) := by decide +kernel
theorem dX10_isStableAnew_36 : decode cX10_isStableAnew 36 = .ok (.getfield 41, 3) := by decide +kernel
theorem dX10_isStableAnew_39 : decode cX10_isStableAnew 39 = .ok (.invokevirtual 260, 3) := by decide +kernel
theorem dX10_isStableAnew_42 : decode cX10_isStableAnew 42 = .ok (.ireturn, 1) := by decide +kernel
theorem dX10_margin_0 : decode cX10_margin 0 = .ok (.aload_n 0, 1) := by decide +kernel
theorem dX10_margin_1 : decode cX10_margin 1 = .ok (.getfield 31, 3) := by decide +kernel
theorem dX10_margin_4 : decode cX10_margin 4 = .ok (.iconst (-1), 1) := by decide +kernel
theorem dX10_margin_5 : decode cX10_margin 5 = .ok (.invokevirtual 244, 3) := by decide +kernel
theorem dX10_margin_8 : decode cX10_margin 8 = .ok (.ifCond .ne 7, 3) := by decide +kernel
theorem dX10_margin_11 : decode cX10_margin 11 = .ok (.ldc_w 263, 3) := by decide +kernel
theorem dX10_margin_14 : decode cX10_margin 14 = .ok (.ireturn, 1) := by decide +kernel
theorem dX10_margin_15 : decode cX10_margin 15 = .ok (.aload_n 0, 1) := by decide +kernel
theorem dX10_margin_16 : decode cX10_margin 16 = .ok (.getfield 31, 3) := by decide +kernel
theorem dX10_margin_19 : decode cX10_margin 19 = .ok (.getfield 264, 3) := by decide +kernel
theorem dX10_margin_22 : decode cX10_margin 22 = .ok (.astore_n 1, 1) := by decide +kernel
theorem dX10_margin_23 : decode cX10_margin 23 = .ok (.aload_n 1, 1) := by decide +kernel
theorem dX10_margin_24 : decode cX10_margin 24 = .ok (.getfield 268, 3) := by decide +kernel
theorem dX10_margin_27 : decode cX10_margin 27 = .ok (.iconst 3, 1) := by decide +kernel
theorem dX10_margin_28 : decode cX10_margin 28 = .ok (.if_icmp .ge 7, 3) := by decide +kernel
theorem dX10_margin_31 : decode cX10_margin 31 = .ok (.iconst 0, 1) := by decide +kernel
theorem dX10_margin_32 : decode cX10_margin 32 = .ok (.goto 31, 3) := by decide +kernel
theorem dX10_margin_35 : decode cX10_margin 35 = .ok (.aload_n 1, 1) := by decide +kernel
theorem dX10_margin_36 : decode cX10_margin 36 = .ok (.aload_n 0, 1) := by decide +kernel
theorem dX10_margin_37 : decode cX10_margin 37 = .ok (.getfield 31, 3) := by decide +kernel
theorem dX10_margin_40 : decode cX10_margin 40 = .ok (.invokevirtual 247, 3) := by decide +kernel
theorem dX10_margin_43 : decode cX10_margin 43 = .ok (.aload_n 0, 1) := by decide +kernel
theorem dX10_margin_44 : decode cX10_margin 44 = .ok (.getfield 31, 3) := by decide +kernel
theorem dX10_margin_47 : decode cX10_margin 47 = .ok (.invokevirtual 250, 3) := by decide +kernel
theorem dX10_margin_50 : decode cX10_margin 50 = .ok (.aload_n 0, 1) := by decide +kernel
theorem dX10_margin_51 : decode cX10_margin 51 = .ok (.getfield 22, 3) := by decide +kernel
theorem dX10_margin_54 : decode cX10_margin 54 = .ok (.invokevirtual 253, 3) := by decide +kernel
theorem dX10_margin_57 : decode cX10_margin 57 = .ok (.invokevirtual 271, 3) := by decide +kernel
theorem dX10_margin_60 : decode cX10_margin 60 = .ok (.invokestatic 275, 3) := by decide +kernel
theorem dX10_margin_63 : decode cX10_margin 63 = .ok (.ireturn, 1) := by decide +kernel
theorem dX10_corner_0 : decode cX10_corner 0 = .ok (.iload_n 1, 1) := by decide +kernel
theorem dX10_corner_1 : decode cX10_corner 1 = .ok (.ifCond .ge 14, 3) := by decide +kernel
theorem dX10_corner_4 : decode cX10_corner 4 = .ok (.new 89, 3) := by decide +kernel
theorem dX10_corner_7 : decode cX10_corner 7 = .ok (.dup, 1) := by decide +kernel
theorem dX10_corner_8 : decode cX10_corner 8 = .ok (.ldc_w 279, 3) := by decide +kernel
theorem dX10_corner_11 : decode cX10_corner 11 = .ok (.invokespecial 93, 3) := by decide +kernel
theorem dX10_corner_14 : decode cX10_corner 14 = .ok (.athrow, 1) := by decide +kernel
theorem dX10_corner_15 : decode cX10_corner 15 = .ok (.aload_n 0, 1) := by decide +kernel
theorem dX10_corner_16 : decode cX10_corner 16 = .ok (.getfield 31, 3) := by decide +kernel
theorem dX10_corner_19 : decode cX10_corner 19 = .ok (.getfield 264, 3) := by decide +kernel
theorem dX10_corner_22 : decode cX10_corner 22 = .ok (.aload_n 0, 1) := by decide +kernel
theorem dX10_corner_23 : decode cX10_corner 23 = .ok (.getfield 31, 3) := by decide +kernel
theorem dX10_corner_26 : decode cX10_corner 26 = .ok (.getfield 235, 3) := by decide +kernel
theorem dX10_corner_29 : decode cX10_corner 29 = .ok (.iconst (-1), 1) := by decide +kernel
theorem dX10_corner_30 : decode cX10_corner 30 = .ok (.invokevirtual 281, 3) := by decide +kernel
theorem dX10_corner_33 : decode cX10_corner 33 = .ok (.iload_n 1, 1) := by decide +kernel
theorem dX10_corner_34 : decode cX10_corner 34 = .ok (.aload_n 0, 1) := by decide +kernel
theorem dX10_corner_35 : decode cX10_corner 35 = .ok (.getfield 31, 3) := by decide +kernel
theorem dX10_corner_38 : decode cX10_corner 38 = .ok (.getfield 264, 3) := by decide +kernel
theorem dX10_corner_41 : decode cX10_corner 41 = .ok (.getfield 268, 3) := by decide +kernel
theorem dX10_corner_44 : decode cX10_corner 44 = .ok (.if_icmp .ge 20, 3) := by decide +kernel
theorem dX10_corner_47 : decode cX10_corner 47 = .ok (.aload_n 0, 1) := by decide +kernel
theorem dX10_corner_48 : decode cX10_corner 48 = .ok (.getfield 31, 3) := by decide +kernel
theorem dX10_corner_51 : decode cX10_corner 51 = .ok (.getfield 264, 3) := by decide +kernel
theorem dX10_corner_54 : decode cX10_corner 54 = .ok (.getfield 285, 3) := by decide +kernel
theorem dX10_corner_57 : decode cX10_corner 57 = .ok (.iload_n 1, 1) := by decide +kernel
theorem dX10_corner_58 : decode cX10_corner 58 = .ok (.invokevirtual 109, 3) := by decide +kernel
theorem dX10_corner_61 : decode cX10_corner 61 = .ok (.goto 4, 3) := by decide +kernel
theorem dX10_corner_64 : decode cX10_corner 64 = .ok (.iconst (-1), 1) := by decide +kernel
theorem dX10_corner_65 : decode cX10_corner 65 = .ok (.ireturn, 1) := by decide +kernel
theorem dX10_foothold_0 : decode cX10_foothold 0 = .ok (.aload_n 0, 1) := by decide +kernel
theorem dX10_foothold_1 : decode cX10_foothold 1 = .ok (.iload_n 1, 1) := by decide +kernel
theorem dX10_foothold_2 : decode cX10_foothold 2 = .ok (.invokevirtual 152, 3) := by decide +kernel
theorem dX10_foothold_5 : decode cX10_foothold 5 = .ok (.ifCond .ne 13, 3) := by decide +kernel
theorem dX10_foothold_8 : decode cX10_foothold 8 = .ok (.new 155, 3) := by decide +kernel
theorem dX10_foothold_11 : decode cX10_foothold 11 = .ok (.dup, 1) := by decide +kernel
theorem dX10_foothold_12 : decode cX10_foothold 12 = .ok (.ldc 157, 2) := by decide +kernel
theorem dX10_foothold_14 : decode cX10_foothold 14 = .ok (.invokespecial 159, 3) := by decide +kernel
theorem dX10_foothold_17 : decode cX10_foothold 17 = .ok (.athrow, 1) := by decide +kernel
theorem dX10_foothold_18 : decode cX10_foothold 18 = .ok (.aload_n 0, 1) := by decide +kernel
theorem dX10_foothold_19 : decode cX10_foothold 19 = .ok (.getfield 31, 3) := by decide +kernel
theorem dX10_foothold_22 : decode cX10_foothold 22 = .ok (.iload_n 1, 1) := by decide +kernel
theorem dX10_foothold_23 : decode cX10_foothold 23 = .ok (.invokevirtual 288, 3) := by decide +kernel
theorem dX10_foothold_26 : decode cX10_foothold 26 = .ok (.ireturn, 1) := by decide +kernel
theorem dX10_wouldLift_0 : decode cX10_wouldLift 0 = .ok (.aload_n 0, 1) := by decide +kernel
theorem dX10_wouldLift_1 : decode cX10_wouldLift 1 = .ok (.iload_n 1, 1) := by decide +kernel
theorem dX10_wouldLift_2 : decode cX10_wouldLift 2 = .ok (.invokevirtual 152, 3) := by decide +kernel
theorem dX10_wouldLift_5 : decode cX10_wouldLift 5 = .ok (.ifCond .ne 13, 3) := by decide +kernel
theorem dX10_wouldLift_8 : decode cX10_wouldLift 8 = .ok (.new 155, 3) := by decide +kernel
theorem dX10_wouldLift_11 : decode cX10_wouldLift 11 = .ok (.dup, 1) := by decide +kernel
theorem dX10_wouldLift_12 : decode cX10_wouldLift 12 = .ok (.ldc 157, 2) := by decide +kernel
theorem dX10_wouldLift_14 : decode cX10_wouldLift 14 = .ok (.invokespecial 159, 3) := by decide +kernel
theorem dX10_wouldLift_17 : decode cX10_wouldLift 17 = .ok (.athrow, 1) := by decide +kernel
theorem dX10_wouldLift_18 : decode cX10_wouldLift 18 = .ok (.aload_n 0, 1) := by decide +kernel
theorem dX10_wouldLift_19 : decode cX10_wouldLift 19 = .ok (.iload_n 1, 1) := by decide +kernel
theorem dX10_wouldLift_20 : decode cX10_wouldLift 20 = .ok (.invokevirtual 291, 3) := by decide +kernel
theorem dX10_wouldLift_23 : decode cX10_wouldLift 23 = .ok (.ifCond .ne 5, 3) := by decide +kernel
theorem dX10_wouldLift_26 : decode cX10_wouldLift 26 = .ok (.iconst (-1), 1) := by decide +kernel
theorem dX10_wouldLift_27 : decode cX10_wouldLift 27 = .ok (.ireturn, 1) := by decide +kernel
theorem dX10_wouldLift_28 : decode cX10_wouldLift 28 = .ok (.aload_n 0, 1) := by decide +kernel
theorem dX10_wouldLift_29 : decode cX10_wouldLift 29 = .ok (.getfield 35, 3) := by decide +kernel
theorem dX10_wouldLift_32 : decode cX10_wouldLift 32 = .ok (.aload_n 0, 1) := by decide +kernel
theorem dX10_wouldLift_33 : decode cX10_wouldLift 33 = .ok (.getfield 31, 3) := by decide +kernel
theorem dX10_wouldLift_36 : decode cX10_wouldLift 36 = .ok (.invokevirtual 294, 3) := by decide +kernel
theorem dX10_wouldLift_39 : decode cX10_wouldLift 39 = .ok (.aload_n 0, 1) := by decide +kernel
theorem dX10_wouldLift_40 : decode cX10_wouldLift 40 = .ok (.getfield 35, 3) := by decide +kernel
theorem dX10_wouldLift_43 : decode cX10_wouldLift 43 = .ok (.getfield 235, 3) := by decide +kernel
theorem dX10_wouldLift_46 : decode cX10_wouldLift 46 = .ok (.iload_n 1, 1) := by decide +kernel
theorem dX10_wouldLift_47 : decode cX10_wouldLift 47 = .ok (.iconst (-1), 1) := by decide +kernel
theorem dX10_wouldLift_48 : decode cX10_wouldLift 48 = .ok (.invokevirtual 115, 3) := by decide +kernel
theorem dX10_wouldLift_51 : decode cX10_wouldLift 51 = .ok (.aload_n 0, 1) := by decide +kernel
theorem dX10_wouldLift_52 : decode cX10_wouldLift 52 = .ok (.getfield 35, 3) := by decide +kernel
theorem dX10_wouldLift_55 : decode cX10_wouldLift 55 = .ok (.invokevirtual 298, 3) := by decide +kernel
theorem dX10_wouldLift_58 : decode cX10_wouldLift 58 = .ok (.ifCond .ne 5, 3) := by decide +kernel
theorem dX10_wouldLift_61 : decode cX10_wouldLift 61 = .ok (.iconst 0, 1) := by decide +kernel
theorem dX10_wouldLift_62 : decode cX10_wouldLift 62 = .ok (.ireturn, 1) := by decide +kernel
theorem dX10_wouldLift_63 : decode cX10_wouldLift 63 = .ok (.aload_n 0, 1) := by decide +kernel
theorem dX10_wouldLift_64 : decode cX10_wouldLift 64 = .ok (.getfield 35, 3) := by decide +kernel
theorem dX10_wouldLift_67 : decode cX10_wouldLift 67 = .ok (.iconst (-1), 1) := by decide +kernel
theorem dX10_wouldLift_68 : decode cX10_wouldLift 68 = .ok (.invokevirtual 244, 3) := by decide +kernel
theorem dX10_wouldLift_71 : decode cX10_wouldLift 71 = .ok (.ifCond .eq 7, 3) := by decide +kernel
theorem dX10_wouldLift_74 : decode cX10_wouldLift 74 = .ok (.iconst 1, 1) := by decide +kernel
theorem dX10_wouldLift_75 : decode cX10_wouldLift 75 = .ok (.goto 4, 3) := by decide +kernel
theorem dX10_wouldLift_78 : decode cX10_wouldLift 78 = .ok (.iconst 2, 1) := by decide +kernel
theorem dX10_wouldLift_79 : decode cX10_wouldLift 79 = .ok (.ireturn, 1) := by decide +kernel
theorem dX10_fewest_0 : decode cX10_fewest 0 = .ok (.iload_n 1, 1) := by decide +kernel
theorem dX10_fewest_1 : decode cX10_fewest 1 = .ok (.iload_n 2, 1) := by decide +kernel
theorem dX10_fewest_2 : decode cX10_fewest 2 = .ok (.invokestatic 81, 3) := by decide +kernel
theorem dX10_fewest_5 : decode cX10_fewest 5 = .ok (.istore_n 3, 1) := by decide +kernel
theorem dX10_fewest_6 : decode cX10_fewest 6 = .ok (.iload_n 3, 1) := by decide +kernel
theorem dX10_fewest_7 : decode cX10_fewest 7 = .ok (.iconst (-1), 1) := by decide +kernel
theorem dX10_fewest_8 : decode cX10_fewest 8 = .ok (.if_icmp .ne 13, 3) := by decide +kernel
theorem dX10_fewest_11 : decode cX10_fewest 11 = .ok (.new 89, 3) := by decide +kernel
theorem dX10_fewest_14 : decode cX10_fewest 14 = .ok (.dup, 1) := by decide +kernel
theorem dX10_fewest_15 : decode cX10_fewest 15 = .ok (.ldc 195, 2) := by decide +kernel
theorem dX10_fewest_17 : decode cX10_fewest 17 = .ok (.invokespecial 93, 3) := by decide +kernel
theorem dX10_fewest_20 : decode cX10_fewest 20 = .ok (.athrow, 1) := by decide +kernel
theorem dX10_fewest_21 : decode cX10_fewest 21 = .ok (.aload_n 0, 1) := by decide +kernel
theorem dX10_fewest_22 : decode cX10_fewest 22 = .ok (.getfield 73, 3) := by decide +kernel
theorem dX10_fewest_25 : decode cX10_fewest 25 = .ok (.ifCond .ne 5, 3) := by decide +kernel
theorem dX10_fewest_28 : decode cX10_fewest 28 = .ok (.iconst (-1), 1) := by decide +kernel
theorem dX10_fewest_29 : decode cX10_fewest 29 = .ok (.ireturn, 1) := by decide +kernel
theorem dX10_fewest_30 : decode cX10_fewest 30 = .ok (.aload_n 0, 1) := by decide +kernel
theorem dX10_fewest_31 : decode cX10_fewest 31 = .ok (.getfield 69, 3) := by decide +kernel
theorem dX10_fewest_34 : decode cX10_fewest 34 = .ok (.aload_n 0, 1) := by decide +kernel
theorem dX10_fewest_35 : decode cX10_fewest 35 = .ok (.getfield 31, 3) := by decide +kernel
theorem dX10_fewest_38 : decode cX10_fewest 38 = .ok (.iload_n 3, 1) := by decide +kernel
theorem dX10_fewest_39 : decode cX10_fewest 39 = .ok (.invokevirtual 301, 3) := by decide +kernel
theorem dX10_fewest_42 : decode cX10_fewest 42 = .ok (.aload_n 0, 1) := by decide +kernel
theorem dX10_fewest_43 : decode cX10_fewest 43 = .ok (.getfield 69, 3) := by decide +kernel
theorem dX10_fewest_46 : decode cX10_fewest 46 = .ok (.iconst 0, 1) := by decide +kernel
theorem dX10_fewest_47 : decode cX10_fewest 47 = .ok (.invokevirtual 305, 3) := by decide +kernel
theorem dX10_fewest_50 : decode cX10_fewest 50 = .ok (.istore 4, 2) := by decide +kernel
theorem dX10_fewest_52 : decode cX10_fewest 52 = .ok (.iload 4, 2) := by decide +kernel
theorem dX10_fewest_54 : decode cX10_fewest 54 = .ok (.iconst 3, 1) := by decide +kernel
theorem dX10_fewest_55 : decode cX10_fewest 55 = .ok (.if_icmp .gt 25, 3) := by decide +kernel
theorem dX10_fewest_58 : decode cX10_fewest 58 = .ok (.aload_n 0, 1) := by decide +kernel
theorem dX10_fewest_59 : decode cX10_fewest 59 = .ok (.getfield 69, 3) := by decide +kernel
theorem dX10_fewest_62 : decode cX10_fewest 62 = .ok (.iconst 0, 1) := by decide +kernel
theorem dX10_fewest_63 : decode cX10_fewest 63 = .ok (.iload 4, 2) := by decide +kernel
theorem dX10_fewest_65 : decode cX10_fewest 65 = .ok (.invokestatic 308, 3) := by decide +kernel
theorem dX10_fewest_68 : decode cX10_fewest 68 = .ok (.ifCond .eq 6, 3) := by decide +kernel
theorem dX10_fewest_71 : decode cX10_fewest 71 = .ok (.iload 4, 2) := by decide +kernel
theorem dX10_fewest_73 : decode cX10_fewest 73 = .ok (.ireturn, 1) := by decide +kernel
theorem dX10_fewest_74 : decode cX10_fewest 74 = .ok (.iinc 4 1, 3) := by decide +kernel
theorem dX10_fewest_77 : decode cX10_fewest 77 = .ok (.goto (-25), 3) := by decide +kernel
theorem dX10_fewest_80 : decode cX10_fewest 80 = .ok (.iconst (-1), 1) := by decide +kernel
theorem dX10_fewest_81 : decode cX10_fewest 81 = .ok (.ireturn, 1) := by decide +kernel
theorem dX10_fewestAnew_0 : decode cX10_fewestAnew 0 = .ok (.iload_n 1, 1) := by decide +kernel
theorem dX10_fewestAnew_1 : decode cX10_fewestAnew 1 = .ok (.iload_n 2, 1) := by decide +kernel
theorem dX10_fewestAnew_2 : decode cX10_fewestAnew 2 = .ok (.invokestatic 81, 3) := by decide +kernel
theorem dX10_fewestAnew_5 : decode cX10_fewestAnew 5 = .ok (.istore_n 3, 1) := by decide +kernel
theorem dX10_fewestAnew_6 : decode cX10_fewestAnew 6 = .ok (.iload_n 3, 1) := by decide +kernel
theorem dX10_fewestAnew_7 : decode cX10_fewestAnew 7 = .ok (.iconst (-1), 1) := by decide +kernel
theorem dX10_fewestAnew_8 : decode cX10_fewestAnew 8 = .ok (.if_icmp .ne 13, 3) := by decide +kernel
theorem dX10_fewestAnew_11 : decode cX10_fewestAnew 11 = .ok (.new 89, 3) := by decide +kernel
theorem dX10_fewestAnew_14 : decode cX10_fewestAnew 14 = .ok (.dup, 1) := by decide +kernel
theorem dX10_fewestAnew_15 : decode cX10_fewestAnew 15 = .ok (.ldc 195, 2) := by decide +kernel
theorem dX10_fewestAnew_17 : decode cX10_fewestAnew 17 = .ok (.invokespecial 93, 3) := by decide +kernel
theorem dX10_fewestAnew_20 : decode cX10_fewestAnew 20 = .ok (.athrow, 1) := by decide +kernel
theorem dX10_fewestAnew_21 : decode cX10_fewestAnew 21 = .ok (.aload_n 0, 1) := by decide +kernel
theorem dX10_fewestAnew_22 : decode cX10_fewestAnew 22 = .ok (.getfield 73, 3) := by decide +kernel
theorem dX10_fewestAnew_25 : decode cX10_fewestAnew 25 = .ok (.ifCond .ne 5, 3) := by decide +kernel
theorem dX10_fewestAnew_28 : decode cX10_fewestAnew 28 = .ok (.iconst (-1), 1) := by decide +kernel
theorem dX10_fewestAnew_29 : decode cX10_fewestAnew 29 = .ok (.ireturn, 1) := by decide +kernel
theorem dX10_fewestAnew_30 : decode cX10_fewestAnew 30 = .ok (.aload_n 0, 1) := by decide +kernel
theorem dX10_fewestAnew_31 : decode cX10_fewestAnew 31 = .ok (.getfield 69, 3) := by decide +kernel
theorem dX10_fewestAnew_34 : decode cX10_fewestAnew 34 = .ok (.aload_n 0, 1) := by decide +kernel
theorem dX10_fewestAnew_35 : decode cX10_fewestAnew 35 = .ok (.getfield 31, 3) := by decide +kernel
theorem dX10_fewestAnew_38 : decode cX10_fewestAnew 38 = .ok (.iload_n 3, 1) := by decide +kernel
theorem dX10_fewestAnew_39 : decode cX10_fewestAnew 39 = .ok (.invokevirtual 301, 3) := by decide +kernel
theorem dX10_fewestAnew_42 : decode cX10_fewestAnew 42 = .ok (.aload_n 0, 1) := by decide +kernel
theorem dX10_fewestAnew_43 : decode cX10_fewestAnew 43 = .ok (.getfield 69, 3) := by decide +kernel
theorem dX10_fewestAnew_46 : decode cX10_fewestAnew 46 = .ok (.iconst 0, 1) := by decide +kernel
theorem dX10_fewestAnew_47 : decode cX10_fewestAnew 47 = .ok (.invokestatic 312, 3) := by decide +kernel
theorem dX10_fewestAnew_50 : decode cX10_fewestAnew 50 = .ok (.istore 4, 2) := by decide +kernel
theorem dX10_fewestAnew_52 : decode cX10_fewestAnew 52 = .ok (.iload 4, 2) := by decide +kernel
theorem dX10_fewestAnew_54 : decode cX10_fewestAnew 54 = .ok (.iconst 3, 1) := by decide +kernel
theorem dX10_fewestAnew_55 : decode cX10_fewestAnew 55 = .ok (.if_icmp .le 7, 3) := by decide +kernel
theorem dX10_fewestAnew_58 : decode cX10_fewestAnew 58 = .ok (.iconst (-1), 1) := by decide +kernel
theorem dX10_fewestAnew_59 : decode cX10_fewestAnew 59 = .ok (.goto 5, 3) := by decide +kernel
theorem dX10_fewestAnew_62 : decode cX10_fewestAnew 62 = .ok (.iload 4, 2) := by decide +kernel
theorem dX10_fewestAnew_64 : decode cX10_fewestAnew 64 = .ok (.ireturn, 1) := by decide +kernel
theorem dX10_fall_0 : decode cX10_fall 0 = .ok (.iload_n 1, 1) := by decide +kernel
theorem dX10_fall_1 : decode cX10_fall 1 = .ok (.ifCond .lt 14, 3) := by decide +kernel
theorem dX10_fall_4 : decode cX10_fall 4 = .ok (.iload_n 1, 1) := by decide +kernel
theorem dX10_fall_5 : decode cX10_fall 5 = .ok (.aload_n 0, 1) := by decide +kernel
theorem dX10_fall_6 : decode cX10_fall 6 = .ok (.getfield 55, 3) := by decide +kernel
theorem dX10_fall_9 : decode cX10_fall 9 = .ok (.invokevirtual 316, 3) := by decide +kernel
theorem dX10_fall_12 : decode cX10_fall 12 = .ok (.if_icmp .lt 14, 3) := by decide +kernel
theorem dX10_fall_15 : decode cX10_fall 15 = .ok (.new 155, 3) := by decide +kernel
theorem dX10_fall_18 : decode cX10_fall 18 = .ok (.dup, 1) := by decide +kernel
theorem dX10_fall_19 : decode cX10_fall 19 = .ok (.ldc_w 319, 3) := by decide +kernel
theorem dX10_fall_22 : decode cX10_fall 22 = .ok (.invokespecial 159, 3) := by decide +kernel
theorem dX10_fall_25 : decode cX10_fall 25 = .ok (.athrow, 1) := by decide +kernel
theorem dX10_fall_26 : decode cX10_fall 26 = .ok (.iload_n 2, 1) := by decide +kernel
theorem dX10_fall_27 : decode cX10_fall 27 = .ok (.tableswitch 83 0 3 #[29, 41, 53, 68], 29) := by decide +kernel
theorem dX10_fall_56 : decode cX10_fall 56 = .ok (.aload_n 0, 1) := by decide +kernel
theorem dX10_fall_57 : decode cX10_fall 57 = .ok (.getfield 55, 3) := by decide +kernel
theorem dX10_fall_60 : decode cX10_fall 60 = .ok (.getfield 321, 3) := by decide +kernel
theorem dX10_fall_63 : decode cX10_fall 63 = .ok (.iload_n 1, 1) := by decide +kernel
theorem dX10_fall_64 : decode cX10_fall 64 = .ok (.invokevirtual 109, 3) := by decide +kernel
theorem dX10_fall_67 : decode cX10_fall 67 = .ok (.ireturn, 1) := by decide +kernel
theorem dX10_fall_68 : decode cX10_fall 68 = .ok (.aload_n 0, 1) := by decide +kernel
theorem dX10_fall_69 : decode cX10_fall 69 = .ok (.getfield 55, 3) := by decide +kernel
theorem dX10_fall_72 : decode cX10_fall 72 = .ok (.getfield 324, 3) := by decide +kernel
theorem dX10_fall_75 : decode cX10_fall 75 = .ok (.iload_n 1, 1) := by decide +kernel
theorem dX10_fall_76 : decode cX10_fall 76 = .ok (.invokevirtual 109, 3) := by decide +kernel
theorem dX10_fall_79 : decode cX10_fall 79 = .ok (.ireturn, 1) := by decide +kernel
theorem dX10_fall_80 : decode cX10_fall 80 = .ok (.aload_n 0, 1) := by decide +kernel
theorem dX10_fall_81 : decode cX10_fall 81 = .ok (.getfield 55, 3) := by decide +kernel
theorem dX10_fall_84 : decode cX10_fall 84 = .ok (.getfield 327, 3) := by decide +kernel
theorem dX10_fall_87 : decode cX10_fall 87 = .ok (.iload_n 1, 1) := by decide +kernel
theorem dX10_fall_88 : decode cX10_fall 88 = .ok (.invokevirtual 109, 3) := by decide +kernel
theorem dX10_fall_91 : decode cX10_fall 91 = .ok (.invokestatic 238, 3) := by decide +kernel
theorem dX10_fall_94 : decode cX10_fall 94 = .ok (.ireturn, 1) := by decide +kernel
theorem dX10_fall_95 : decode cX10_fall 95 = .ok (.aload_n 0, 1) := by decide +kernel
theorem dX10_fall_96 : decode cX10_fall 96 = .ok (.getfield 55, 3) := by decide +kernel
theorem dX10_fall_99 : decode cX10_fall 99 = .ok (.getfield 327, 3) := by decide +kernel
theorem dX10_fall_102 : decode cX10_fall 102 = .ok (.iload_n 1, 1) := by decide +kernel
theorem dX10_fall_103 : decode cX10_fall 103 = .ok (.invokevirtual 109, 3) := by decide +kernel
theorem dX10_fall_106 : decode cX10_fall 106 = .ok (.invokestatic 241, 3) := by decide +kernel
theorem dX10_fall_109 : decode cX10_fall 109 = .ok (.ireturn, 1) := by decide +kernel
theorem dX10_fall_110 : decode cX10_fall 110 = .ok (.new 89, 3) := by decide +kernel
theorem dX10_fall_113 : decode cX10_fall 113 = .ok (.dup, 1) := by decide +kernel
theorem dX10_fall_114 : decode cX10_fall 114 = .ok (.ldc 233, 2) := by decide +kernel
theorem dX10_fall_116 : decode cX10_fall 116 = .ok (.invokespecial 93, 3) := by decide +kernel
theorem dX10_fall_119 : decode cX10_fall 119 = .ok (.athrow, 1) := by decide +kernel
theorem dX10_takeLoad_0 : decode cX10_takeLoad 0 = .ok (.aload_n 0, 1) := by decide +kernel
theorem dX10_takeLoad_1 : decode cX10_takeLoad 1 = .ok (.getfield 22, 3) := by decide +kernel
theorem dX10_takeLoad_4 : decode cX10_takeLoad 4 = .ok (.getfield 222, 3) := by decide +kernel
theorem dX10_takeLoad_7 : decode cX10_takeLoad 7 = .ok (.istore 4, 2) := by decide +kernel
theorem dX10_takeLoad_9 : decode cX10_takeLoad 9 = .ok (.aload_n 0, 1) := by decide +kernel
theorem dX10_takeLoad_10 : decode cX10_takeLoad 10 = .ok (.getfield 22, 3) := by decide +kernel
theorem dX10_takeLoad_13 : decode cX10_takeLoad 13 = .ok (.getfield 330, 3) := by decide +kernel
theorem dX10_takeLoad_16 : decode cX10_takeLoad 16 = .ok (.istore 5, 2) := by decide +kernel
theorem dX10_takeLoad_18 : decode cX10_takeLoad 18 = .ok (.aload_n 0, 1) := by decide +kernel
theorem dX10_takeLoad_19 : decode cX10_takeLoad 19 = .ok (.getfield 22, 3) := by decide +kernel
theorem dX10_takeLoad_22 : decode cX10_takeLoad 22 = .ok (.getfield 333, 3) := by decide +kernel
theorem dX10_takeLoad_25 : decode cX10_takeLoad 25 = .ok (.istore 6, 2) := by decide +kernel
theorem dX10_takeLoad_27 : decode cX10_takeLoad 27 = .ok (.aload_n 0, 1) := by decide +kernel
theorem dX10_takeLoad_28 : decode cX10_takeLoad 28 = .ok (.getfield 22, 3) := by decide +kernel
theorem dX10_takeLoad_31 : decode cX10_takeLoad 31 = .ok (.iload_n 1, 1) := by decide +kernel
theorem dX10_takeLoad_32 : decode cX10_takeLoad 32 = .ok (.iload_n 2, 1) := by decide +kernel
theorem dX10_takeLoad_33 : decode cX10_takeLoad 33 = .ok (.iload_n 3, 1) := by decide +kernel
theorem dX10_takeLoad_34 : decode cX10_takeLoad 34 = .ok (.invokevirtual 336, 3) := by decide +kernel
theorem dX10_takeLoad_37 : decode cX10_takeLoad 37 = .ok (.aload_n 0, 1) := by decide +kernel
theorem dX10_takeLoad_38 : decode cX10_takeLoad 38 = .ok (.getfield 73, 3) := by decide +kernel
theorem dX10_takeLoad_41 : decode cX10_takeLoad 41 = .ok (.ifCond .eq 29, 3) := by decide +kernel
theorem dX10_takeLoad_44 : decode cX10_takeLoad 44 = .ok (.aload_n 0, 1) := by decide +kernel
theorem dX10_takeLoad_45 : decode cX10_takeLoad 45 = .ok (.getfield 31, 3) := by decide +kernel
theorem dX10_takeLoad_48 : decode cX10_takeLoad 48 = .ok (.iconst (-1), 1) := by decide +kernel
theorem dX10_takeLoad_49 : decode cX10_takeLoad 49 = .ok (.invokevirtual 244, 3) := by decide +kernel
theorem dX10_takeLoad_52 : decode cX10_takeLoad 52 = .ok (.ifCond .ne 18, 3) := by decide +kernel
theorem dX10_takeLoad_55 : decode cX10_takeLoad 55 = .ok (.aload_n 0, 1) := by decide +kernel
theorem dX10_takeLoad_56 : decode cX10_takeLoad 56 = .ok (.getfield 22, 3) := by decide +kernel
theorem dX10_takeLoad_59 : decode cX10_takeLoad 59 = .ok (.iload 4, 2) := by decide +kernel
theorem dX10_takeLoad_61 : decode cX10_takeLoad 61 = .ok (.iload 5, 2) := by decide +kernel
theorem dX10_takeLoad_63 : decode cX10_takeLoad 63 = .ok (.iload 6, 2) := by decide +kernel
theorem dX10_takeLoad_65 : decode cX10_takeLoad 65 = .ok (.invokevirtual 336, 3) := by decide +kernel
theorem dX10_takeLoad_68 : decode cX10_takeLoad 68 = .ok (.iconst 0, 1) := by decide +kernel
theorem dX10_takeLoad_69 : decode cX10_takeLoad 69 = .ok (.ireturn, 1) := by decide +kernel
theorem dX10_takeLoad_70 : decode cX10_takeLoad 70 = .ok (.aload_n 0, 1) := by decide +kernel
theorem dX10_takeLoad_71 : decode cX10_takeLoad 71 = .ok (.getfield 48, 3) := by decide +kernel
theorem dX10_takeLoad_74 : decode cX10_takeLoad 74 = .ok (.invokevirtual 340, 3) := by decide +kernel
theorem dX10_takeLoad_77 : decode cX10_takeLoad 77 = .ok (.iconst 1, 1) := by decide +kernel
theorem dX10_takeLoad_78 : decode cX10_takeLoad 78 = .ok (.ireturn, 1) := by decide +kernel
theorem dX10_getUp_0 : decode cX10_getUp 0 = .ok (.aload_n 0, 1) := by decide +kernel
theorem dX10_getUp_1 : decode cX10_getUp 1 = .ok (.getfield 73, 3) := by decide +kernel
theorem dX10_getUp_4 : decode cX10_getUp 4 = .ok (.ifCond .ne 19, 3) := by decide +kernel
theorem dX10_getUp_7 : decode cX10_getUp 7 = .ok (.aload_n 0, 1) := by decide +kernel
theorem dX10_getUp_8 : decode cX10_getUp 8 = .ok (.getfield 77, 3) := by decide +kernel
theorem dX10_getUp_11 : decode cX10_getUp 11 = .ok (.bipush 20, 2) := by decide +kernel
theorem dX10_getUp_13 : decode cX10_getUp 13 = .ok (.if_icmp .lt 10, 3) := by decide +kernel
theorem dX10_getUp_16 : decode cX10_getUp 16 = .ok (.aload_n 0, 1) := by decide +kernel
theorem dX10_getUp_17 : decode cX10_getUp 17 = .ok (.invokevirtual 343, 3) := by decide +kernel
theorem dX10_getUp_20 : decode cX10_getUp 20 = .ok (.ifCond .ne 5, 3) := by decide +kernel
theorem dX10_getUp_23 : decode cX10_getUp 23 = .ok (.iconst 0, 1) := by decide +kernel
theorem dX10_getUp_24 : decode cX10_getUp 24 = .ok (.ireturn, 1) := by decide +kernel
theorem dX10_getUp_25 : decode cX10_getUp 25 = .ok (.aload_n 0, 1) := by decide +kernel
theorem dX10_getUp_26 : decode cX10_getUp 26 = .ok (.dup, 1) := by decide +kernel
theorem dX10_getUp_27 : decode cX10_getUp 27 = .ok (.getfield 77, 3) := by decide +kernel
theorem dX10_getUp_30 : decode cX10_getUp 30 = .ok (.bipush 20, 2) := by decide +kernel
theorem dX10_getUp_32 : decode cX10_getUp 32 = .ok (.isub, 1) := by decide +kernel
theorem dX10_getUp_33 : decode cX10_getUp 33 = .ok (.putfield 77, 3) := by decide +kernel
theorem dX10_getUp_36 : decode cX10_getUp 36 = .ok (.aload_n 0, 1) := by decide +kernel
theorem dX10_getUp_37 : decode cX10_getUp 37 = .ok (.iconst 1, 1) := by decide +kernel
theorem dX10_getUp_38 : decode cX10_getUp 38 = .ok (.putfield 73, 3) := by decide +kernel
theorem dX10_getUp_41 : decode cX10_getUp 41 = .ok (.aload_n 0, 1) := by decide +kernel
theorem dX10_getUp_42 : decode cX10_getUp 42 = .ok (.getfield 48, 3) := by decide +kernel
theorem dX10_getUp_45 : decode cX10_getUp 45 = .ok (.invokevirtual 346, 3) := by decide +kernel
theorem dX10_getUp_48 : decode cX10_getUp 48 = .ok (.iconst 0, 1) := by decide +kernel
theorem dX10_getUp_49 : decode cX10_getUp 49 = .ok (.istore_n 1, 1) := by decide +kernel
theorem dX10_getUp_50 : decode cX10_getUp 50 = .ok (.iload_n 1, 1) := by decide +kernel
theorem dX10_getUp_51 : decode cX10_getUp 51 = .ok (.aload_n 0, 1) := by decide +kernel
theorem dX10_getUp_52 : decode cX10_getUp 52 = .ok (.getfield 22, 3) := by decide +kernel
theorem dX10_getUp_55 : decode cX10_getUp 55 = .ok (.getfield 136, 3) := by decide +kernel
theorem dX10_getUp_58 : decode cX10_getUp 58 = .ok (.if_icmp .ge 52, 3) := by decide +kernel
theorem dX10_getUp_61 : decode cX10_getUp 61 = .ok (.aload_n 0, 1) := by decide +kernel
theorem dX10_getUp_62 : decode cX10_getUp 62 = .ok (.getfield 31, 3) := by decide +kernel
theorem dX10_getUp_65 : decode cX10_getUp 65 = .ok (.iload_n 1, 1) := by decide +kernel
theorem dX10_getUp_66 : decode cX10_getUp 66 = .ok (.invokevirtual 349, 3) := by decide +kernel
theorem dX10_getUp_69 : decode cX10_getUp 69 = .ok (.aload_n 0, 1) := by decide +kernel
theorem dX10_getUp_70 : decode cX10_getUp 70 = .ok (.getfield 31, 3) := by decide +kernel
theorem dX10_getUp_73 : decode cX10_getUp 73 = .ok (.iload_n 1, 1) := by decide +kernel
theorem dX10_getUp_74 : decode cX10_getUp 74 = .ok (.invokevirtual 352, 3) := by decide +kernel
theorem dX10_getUp_77 : decode cX10_getUp 77 = .ok (.invokestatic 81, 3) := by decide +kernel
theorem dX10_getUp_80 : decode cX10_getUp 80 = .ok (.istore_n 2, 1) := by decide +kernel
theorem dX10_getUp_81 : decode cX10_getUp 81 = .ok (.iload_n 2, 1) := by decide +kernel
theorem dX10_getUp_82 : decode cX10_getUp 82 = .ok (.iconst (-1), 1) := by decide +kernel
theorem dX10_getUp_83 : decode cX10_getUp 83 = .ok (.if_icmp .eq 21, 3) := by decide +kernel
theorem dX10_getUp_86 : decode cX10_getUp 86 = .ok (.aload_n 0, 1) := by decide +kernel
theorem dX10_getUp_87 : decode cX10_getUp 87 = .ok (.getfield 31, 3) := by decide +kernel
theorem dX10_getUp_90 : decode cX10_getUp 90 = .ok (.iload_n 2, 1) := by decide +kernel
theorem dX10_getUp_91 : decode cX10_getUp 91 = .ok (.iconst (-1), 1) := by decide +kernel
theorem dX10_getUp_92 : decode cX10_getUp 92 = .ok (.invokevirtual 96, 3) := by decide +kernel
theorem dX10_getUp_95 : decode cX10_getUp 95 = .ok (.ifCond .ne 9, 3) := by decide +kernel
theorem dX10_getUp_98 : decode cX10_getUp 98 = .ok (.aload_n 0, 1) := by decide +kernel
theorem dX10_getUp_99 : decode cX10_getUp 99 = .ok (.iload_n 1, 1) := by decide +kernel
theorem dX10_getUp_100 : decode cX10_getUp 100 = .ok (.iload_n 2, 1) := by decide +kernel
theorem dX10_getUp_101 : decode cX10_getUp 101 = .ok (.invokevirtual 355, 3) := by decide +kernel
theorem dX10_getUp_104 : decode cX10_getUp 104 = .ok (.iinc 1 1, 3) := by decide +kernel
theorem dX10_getUp_107 : decode cX10_getUp 107 = .ok (.goto (-57), 3) := by decide +kernel
theorem dX10_getUp_110 : decode cX10_getUp 110 = .ok (.iconst 1, 1) := by decide +kernel
theorem dX10_getUp_111 : decode cX10_getUp 111 = .ok (.ireturn, 1) := by decide +kernel
theorem dX10_liftFoot_0 : decode cX10_liftFoot 0 = .ok (.aload_n 0, 1) := by decide +kernel
theorem dX10_liftFoot_1 : decode cX10_liftFoot 1 = .ok (.iload_n 1, 1) := by decide +kernel
theorem dX10_liftFoot_2 : decode cX10_liftFoot 2 = .ok (.invokevirtual 291, 3) := by decide +kernel
theorem dX10_liftFoot_5 : decode cX10_liftFoot 5 = .ok (.ifCond .ne 5, 3) := by decide +kernel
theorem dX10_liftFoot_8 : decode cX10_liftFoot 8 = .ok (.iconst 0, 1) := by decide +kernel
theorem dX10_liftFoot_9 : decode cX10_liftFoot 9 = .ok (.ireturn, 1) := by decide +kernel
theorem dX10_liftFoot_10 : decode cX10_liftFoot 10 = .ok (.aload_n 0, 1) := by decide +kernel
theorem dX10_liftFoot_11 : decode cX10_liftFoot 11 = .ok (.dup, 1) := by decide +kernel
theorem dX10_liftFoot_12 : decode cX10_liftFoot 12 = .ok (.getfield 77, 3) := by decide +kernel
theorem dX10_liftFoot_15 : decode cX10_liftFoot 15 = .ok (.iconst 1, 1) := by decide +kernel
theorem dX10_liftFoot_16 : decode cX10_liftFoot 16 = .ok (.isub, 1) := by decide +kernel
theorem dX10_liftFoot_17 : decode cX10_liftFoot 17 = .ok (.putfield 77, 3) := by decide +kernel
theorem dX10_liftFoot_20 : decode cX10_liftFoot 20 = .ok (.aload_n 0, 1) := by decide +kernel
theorem dX10_liftFoot_21 : decode cX10_liftFoot 21 = .ok (.getfield 48, 3) := by decide +kernel
theorem dX10_liftFoot_24 : decode cX10_liftFoot 24 = .ok (.invokevirtual 340, 3) := by decide +kernel
theorem dX10_liftFoot_27 : decode cX10_liftFoot 27 = .ok (.aload_n 0, 1) := by decide +kernel
theorem dX10_liftFoot_28 : decode cX10_liftFoot 28 = .ok (.getfield 31, 3) := by decide +kernel
theorem dX10_liftFoot_31 : decode cX10_liftFoot 31 = .ok (.getfield 235, 3) := by decide +kernel
theorem dX10_liftFoot_34 : decode cX10_liftFoot 34 = .ok (.iload_n 1, 1) := by decide +kernel
theorem dX10_liftFoot_35 : decode cX10_liftFoot 35 = .ok (.iconst (-1), 1) := by decide +kernel
theorem dX10_liftFoot_36 : decode cX10_liftFoot 36 = .ok (.invokevirtual 115, 3) := by decide +kernel
theorem dX10_liftFoot_39 : decode cX10_liftFoot 39 = .ok (.iconst 1, 1) := by decide +kernel
theorem dX10_liftFoot_40 : decode cX10_liftFoot 40 = .ok (.ireturn, 1) := by decide +kernel
theorem dX10_placeFoot_0 : decode cX10_placeFoot 0 = .ok (.iconst 1, 1) := by decide +kernel
theorem dX10_placeFoot_1 : decode cX10_placeFoot 1 = .ok (.aload_n 0, 1) := by decide +kernel
theorem dX10_placeFoot_2 : decode cX10_placeFoot 2 = .ok (.getfield 31, 3) := by decide +kernel
theorem dX10_placeFoot_5 : decode cX10_placeFoot 5 = .ok (.iload_n 1, 1) := by decide +kernel
theorem dX10_placeFoot_6 : decode cX10_placeFoot 6 = .ok (.iload_n 2, 1) := by decide +kernel
theorem dX10_placeFoot_7 : decode cX10_placeFoot 7 = .ok (.invokevirtual 358, 3) := by decide +kernel
theorem dX10_placeFoot_10 : decode cX10_placeFoot 10 = .ok (.iadd, 1) := by decide +kernel
theorem dX10_placeFoot_11 : decode cX10_placeFoot 11 = .ok (.istore_n 3, 1) := by decide +kernel
theorem dX10_placeFoot_12 : decode cX10_placeFoot 12 = .ok (.aload_n 0, 1) := by decide +kernel
theorem dX10_placeFoot_13 : decode cX10_placeFoot 13 = .ok (.getfield 15, 3) := by decide +kernel
theorem dX10_placeFoot_16 : decode cX10_placeFoot 16 = .ok (.getfield 127, 3) := by decide +kernel
theorem dX10_placeFoot_19 : decode cX10_placeFoot 19 = .ok (.iload_n 2, 1) := by decide +kernel
theorem dX10_placeFoot_20 : decode cX10_placeFoot 20 = .ok (.invokevirtual 109, 3) := by decide +kernel
theorem dX10_placeFoot_23 : decode cX10_placeFoot 23 = .ok (.aload_n 0, 1) := by decide +kernel
theorem dX10_placeFoot_24 : decode cX10_placeFoot 24 = .ok (.getfield 31, 3) := by decide +kernel
theorem dX10_placeFoot_27 : decode cX10_placeFoot 27 = .ok (.iconst (-1), 1) := by decide +kernel
theorem dX10_placeFoot_28 : decode cX10_placeFoot 28 = .ok (.invokevirtual 225, 3) := by decide +kernel
theorem dX10_placeFoot_31 : decode cX10_placeFoot 31 = .ok (.isub, 1) := by decide +kernel
theorem dX10_placeFoot_32 : decode cX10_placeFoot 32 = .ok (.invokestatic 361, 3) := by decide +kernel
theorem dX10_placeFoot_35 : decode cX10_placeFoot 35 = .ok (.istore 4, 2) := by decide +kernel
theorem dX10_placeFoot_37 : decode cX10_placeFoot 37 = .ok (.aload_n 0, 1) := by decide +kernel
theorem dX10_placeFoot_38 : decode cX10_placeFoot 38 = .ok (.getfield 73, 3) := by decide +kernel
theorem dX10_placeFoot_41 : decode cX10_placeFoot 41 = .ok (.ifCond .eq 56, 3) := by decide +kernel
theorem dX10_placeFoot_44 : decode cX10_placeFoot 44 = .ok (.aload_n 0, 1) := by decide +kernel
theorem dX10_placeFoot_45 : decode cX10_placeFoot 45 = .ok (.getfield 77, 3) := by decide +kernel
theorem dX10_placeFoot_48 : decode cX10_placeFoot 48 = .ok (.iload_n 3, 1) := by decide +kernel
theorem dX10_placeFoot_49 : decode cX10_placeFoot 49 = .ok (.if_icmp .lt 48, 3) := by decide +kernel
theorem dX10_placeFoot_52 : decode cX10_placeFoot 52 = .ok (.aload_n 0, 1) := by decide +kernel
theorem dX10_placeFoot_53 : decode cX10_placeFoot 53 = .ok (.getfield 31, 3) := by decide +kernel
theorem dX10_placeFoot_56 : decode cX10_placeFoot 56 = .ok (.getfield 235, 3) := by decide +kernel
theorem dX10_placeFoot_59 : decode cX10_placeFoot 59 = .ok (.iload_n 1, 1) := by decide +kernel
theorem dX10_placeFoot_60 : decode cX10_placeFoot 60 = .ok (.invokevirtual 109, 3) := by decide +kernel
theorem dX10_placeFoot_63 : decode cX10_placeFoot 63 = .ok (.iconst (-1), 1) := by decide +kernel
theorem dX10_placeFoot_64 : decode cX10_placeFoot 64 = .ok (.if_icmp .ne 33, 3) := by decide +kernel
theorem dX10_placeFoot_67 : decode cX10_placeFoot 67 = .ok (.iload 4, 2) := by decide +kernel
theorem dX10_placeFoot_69 : decode cX10_placeFoot 69 = .ok (.iconst 2, 1) := by decide +kernel
theorem dX10_placeFoot_70 : decode cX10_placeFoot 70 = .ok (.if_icmp .gt 27, 3) := by decide +kernel
theorem dX10_placeFoot_73 : decode cX10_placeFoot 73 = .ok (.aload_n 0, 1) := by decide +kernel
theorem dX10_placeFoot_74 : decode cX10_placeFoot 74 = .ok (.getfield 31, 3) := by decide +kernel
theorem dX10_placeFoot_77 : decode cX10_placeFoot 77 = .ok (.iload_n 1, 1) := by decide +kernel
theorem dX10_placeFoot_78 : decode cX10_placeFoot 78 = .ok (.iload_n 2, 1) := by decide +kernel
theorem dX10_placeFoot_79 : decode cX10_placeFoot 79 = .ok (.invokevirtual 364, 3) := by decide +kernel
theorem dX10_placeFoot_82 : decode cX10_placeFoot 82 = .ok (.ifCond .eq 15, 3) := by decide +kernel
theorem dX10_placeFoot_85 : decode cX10_placeFoot 85 = .ok (.aload_n 0, 1) := by decide +kernel
theorem dX10_placeFoot_86 : decode cX10_placeFoot 86 = .ok (.getfield 31, 3) := by decide +kernel
theorem dX10_placeFoot_89 : decode cX10_placeFoot 89 = .ok (.iload_n 2, 1) := by decide +kernel
theorem dX10_placeFoot_90 : decode cX10_placeFoot 90 = .ok (.iconst (-1), 1) := by decide +kernel
theorem dX10_placeFoot_91 : decode cX10_placeFoot 91 = .ok (.invokevirtual 96, 3) := by decide +kernel
theorem dX10_placeFoot_94 : decode cX10_placeFoot 94 = .ok (.ifCond .eq 5, 3) := by decide +kernel
theorem dX10_placeFoot_97 : decode cX10_placeFoot 97 = .ok (.iconst 0, 1) := by decide +kernel
theorem dX10_placeFoot_98 : decode cX10_placeFoot 98 = .ok (.ireturn, 1) := by decide +kernel
theorem dX10_placeFoot_99 : decode cX10_placeFoot 99 = .ok (.aload_n 0, 1) := by decide +kernel
theorem dX10_placeFoot_100 : decode cX10_placeFoot 100 = .ok (.dup, 1) := by decide +kernel
theorem dX10_placeFoot_101 : decode cX10_placeFoot 101 = .ok (.getfield 77, 3) := by decide +kernel
theorem dX10_placeFoot_104 : decode cX10_placeFoot 104 = .ok (.iload_n 3, 1) := by decide +kernel
theorem dX10_placeFoot_105 : decode cX10_placeFoot 105 = .ok (.isub, 1) := by decide +kernel
theorem dX10_placeFoot_106 : decode cX10_placeFoot 106 = .ok (.putfield 77, 3) := by decide +kernel
theorem dX10_placeFoot_109 : decode cX10_placeFoot 109 = .ok (.aload_n 0, 1) := by decide +kernel
theorem dX10_placeFoot_110 : decode cX10_placeFoot 110 = .ok (.getfield 48, 3) := by decide +kernel
theorem dX10_placeFoot_113 : decode cX10_placeFoot 113 = .ok (.invokevirtual 340, 3) := by decide +kernel
theorem dX10_placeFoot_116 : decode cX10_placeFoot 116 = .ok (.aload_n 0, 1) := by decide +kernel
theorem dX10_placeFoot_117 : decode cX10_placeFoot 117 = .ok (.iload_n 1, 1) := by decide +kernel
theorem dX10_placeFoot_118 : decode cX10_placeFoot 118 = .ok (.iload_n 2, 1) := by decide +kernel
theorem dX10_placeFoot_119 : decode cX10_placeFoot 119 = .ok (.invokevirtual 355, 3) := by decide +kernel
theorem dX10_placeFoot_122 : decode cX10_placeFoot 122 = .ok (.iconst 1, 1) := by decide +kernel
theorem dX10_placeFoot_123 : decode cX10_placeFoot 123 = .ok (.ireturn, 1) := by decide +kernel
theorem dX10_shiftBody_0 : decode cX10_shiftBody 0 = .ok (.aload_n 0, 1) := by decide +kernel
theorem dX10_shiftBody_1 : decode cX10_shiftBody 1 = .ok (.getfield 22, 3) := by decide +kernel
theorem dX10_shiftBody_4 : decode cX10_shiftBody 4 = .ok (.invokevirtual 253, 3) := by decide +kernel
theorem dX10_shiftBody_7 : decode cX10_shiftBody 7 = .ok (.bipush 10, 2) := by decide +kernel
theorem dX10_shiftBody_9 : decode cX10_shiftBody 9 = .ok (.invokestatic 367, 3) := by decide +kernel
theorem dX10_shiftBody_12 : decode cX10_shiftBody 12 = .ok (.istore_n 3, 1) := by decide +kernel
theorem dX10_shiftBody_13 : decode cX10_shiftBody 13 = .ok (.aload_n 0, 1) := by decide +kernel
theorem dX10_shiftBody_14 : decode cX10_shiftBody 14 = .ok (.getfield 35, 3) := by decide +kernel
theorem dX10_shiftBody_17 : decode cX10_shiftBody 17 = .ok (.aload_n 0, 1) := by decide +kernel
theorem dX10_shiftBody_18 : decode cX10_shiftBody 18 = .ok (.getfield 31, 3) := by decide +kernel
theorem dX10_shiftBody_21 : decode cX10_shiftBody 21 = .ok (.invokevirtual 294, 3) := by decide +kernel
theorem dX10_shiftBody_24 : decode cX10_shiftBody 24 = .ok (.aload_n 0, 1) := by decide +kernel
theorem dX10_shiftBody_25 : decode cX10_shiftBody 25 = .ok (.getfield 73, 3) := by decide +kernel
theorem dX10_shiftBody_28 : decode cX10_shiftBody 28 = .ok (.ifCond .eq 23, 3) := by decide +kernel
theorem dX10_shiftBody_31 : decode cX10_shiftBody 31 = .ok (.aload_n 0, 1) := by decide +kernel
theorem dX10_shiftBody_32 : decode cX10_shiftBody 32 = .ok (.getfield 77, 3) := by decide +kernel
theorem dX10_shiftBody_35 : decode cX10_shiftBody 35 = .ok (.iload_n 3, 1) := by decide +kernel
theorem dX10_shiftBody_36 : decode cX10_shiftBody 36 = .ok (.if_icmp .lt 15, 3) := by decide +kernel
theorem dX10_shiftBody_39 : decode cX10_shiftBody 39 = .ok (.aload_n 0, 1) := by decide +kernel
theorem dX10_shiftBody_40 : decode cX10_shiftBody 40 = .ok (.getfield 35, 3) := by decide +kernel
theorem dX10_shiftBody_43 : decode cX10_shiftBody 43 = .ok (.iload_n 1, 1) := by decide +kernel
theorem dX10_shiftBody_44 : decode cX10_shiftBody 44 = .ok (.iload_n 2, 1) := by decide +kernel
theorem dX10_shiftBody_45 : decode cX10_shiftBody 45 = .ok (.invokevirtual 370, 3) := by decide +kernel
theorem dX10_shiftBody_48 : decode cX10_shiftBody 48 = .ok (.ifCond .ne 5, 3) := by decide +kernel
theorem dX10_shiftBody_51 : decode cX10_shiftBody 51 = .ok (.iconst 0, 1) := by decide +kernel
theorem dX10_shiftBody_52 : decode cX10_shiftBody 52 = .ok (.ireturn, 1) := by decide +kernel
theorem dX10_shiftBody_53 : decode cX10_shiftBody 53 = .ok (.aload_n 0, 1) := by decide +kernel
theorem dX10_shiftBody_54 : decode cX10_shiftBody 54 = .ok (.dup, 1) := by decide +kernel
theorem dX10_shiftBody_55 : decode cX10_shiftBody 55 = .ok (.getfield 77, 3) := by decide +kernel
theorem dX10_shiftBody_58 : decode cX10_shiftBody 58 = .ok (.iload_n 3, 1) := by decide +kernel
theorem dX10_shiftBody_59 : decode cX10_shiftBody 59 = .ok (.isub, 1) := by decide +kernel
theorem dX10_shiftBody_60 : decode cX10_shiftBody 60 = .ok (.putfield 77, 3) := by decide +kernel
theorem dX10_shiftBody_63 : decode cX10_shiftBody 63 = .ok (.aload_n 0, 1) := by decide +kernel
theorem dX10_shiftBody_64 : decode cX10_shiftBody 64 = .ok (.getfield 48, 3) := by decide +kernel
theorem dX10_shiftBody_67 : decode cX10_shiftBody 67 = .ok (.invokevirtual 340, 3) := by decide +kernel
theorem dX10_shiftBody_70 : decode cX10_shiftBody 70 = .ok (.aload_n 0, 1) := by decide +kernel
theorem dX10_shiftBody_71 : decode cX10_shiftBody 71 = .ok (.getfield 31, 3) := by decide +kernel
theorem dX10_shiftBody_74 : decode cX10_shiftBody 74 = .ok (.aload_n 0, 1) := by decide +kernel
theorem dX10_shiftBody_75 : decode cX10_shiftBody 75 = .ok (.getfield 35, 3) := by decide +kernel
theorem dX10_shiftBody_78 : decode cX10_shiftBody 78 = .ok (.invokevirtual 294, 3) := by decide +kernel
theorem dX10_shiftBody_81 : decode cX10_shiftBody 81 = .ok (.iconst 1, 1) := by decide +kernel
theorem dX10_shiftBody_82 : decode cX10_shiftBody 82 = .ok (.ireturn, 1) := by decide +kernel
theorem dX10_isPhaseDone_0 : decode cX10_isPhaseDone 0 = .ok (.aload_n 0, 1) := by decide +kernel
theorem dX10_isPhaseDone_1 : decode cX10_isPhaseDone 1 = .ok (.getfield 62, 3) := by decide +kernel
theorem dX10_isPhaseDone_4 : decode cX10_isPhaseDone 4 = .ok (.getfield 373, 3) := by decide +kernel
theorem dX10_isPhaseDone_7 : decode cX10_isPhaseDone 7 = .ok (.iload_n 1, 1) := by decide +kernel
theorem dX10_isPhaseDone_8 : decode cX10_isPhaseDone 8 = .ok (.invokevirtual 109, 3) := by decide +kernel
theorem dX10_isPhaseDone_11 : decode cX10_isPhaseDone 11 = .ok (.istore_n 2, 1) := by decide +kernel
theorem dX10_isPhaseDone_12 : decode cX10_isPhaseDone 12 = .ok (.aload_n 0, 1) := by decide +kernel
theorem dX10_isPhaseDone_13 : decode cX10_isPhaseDone 13 = .ok (.getfield 31, 3) := by decide +kernel
theorem dX10_isPhaseDone_16 : decode cX10_isPhaseDone 16 = .ok (.getfield 235, 3) := by decide +kernel
theorem dX10_isPhaseDone_19 : decode cX10_isPhaseDone 19 = .ok (.iload_n 2, 1) := by decide +kernel
theorem dX10_isPhaseDone_20 : decode cX10_isPhaseDone 20 = .ok (.invokevirtual 109, 3) := by decide +kernel
theorem dX10_isPhaseDone_23 : decode cX10_isPhaseDone 23 = .ok (.istore_n 3, 1) := by decide +kernel
theorem dX10_isPhaseDone_24 : decode cX10_isPhaseDone 24 = .ok (.aload_n 0, 1) := by decide +kernel
theorem dX10_isPhaseDone_25 : decode cX10_isPhaseDone 25 = .ok (.iload_n 2, 1) := by decide +kernel
theorem dX10_isPhaseDone_26 : decode cX10_isPhaseDone 26 = .ok (.invokevirtual 192, 3) := by decide +kernel
theorem dX10_isPhaseDone_29 : decode cX10_isPhaseDone 29 = .ok (.ifCond .eq 10, 3) := by decide +kernel
theorem dX10_isPhaseDone_32 : decode cX10_isPhaseDone 32 = .ok (.aload_n 0, 1) := by decide +kernel
theorem dX10_isPhaseDone_33 : decode cX10_isPhaseDone 33 = .ok (.invokevirtual 181, 3) := by decide +kernel
theorem dX10_isPhaseDone_36 : decode cX10_isPhaseDone 36 = .ok (.ifCond .eq 5, 3) := by decide +kernel
theorem dX10_isPhaseDone_39 : decode cX10_isPhaseDone 39 = .ok (.iconst 0, 1) := by decide +kernel
theorem dX10_isPhaseDone_40 : decode cX10_isPhaseDone 40 = .ok (.ireturn, 1) := by decide +kernel
theorem dX10_isPhaseDone_41 : decode cX10_isPhaseDone 41 = .ok (.iload_n 3, 1) := by decide +kernel
theorem dX10_isPhaseDone_42 : decode cX10_isPhaseDone 42 = .ok (.invokestatic 238, 3) := by decide +kernel
theorem dX10_isPhaseDone_45 : decode cX10_isPhaseDone 45 = .ok (.aload_n 0, 1) := by decide +kernel
theorem dX10_isPhaseDone_46 : decode cX10_isPhaseDone 46 = .ok (.getfield 62, 3) := by decide +kernel
theorem dX10_isPhaseDone_49 : decode cX10_isPhaseDone 49 = .ok (.getfield 376, 3) := by decide +kernel
theorem dX10_isPhaseDone_52 : decode cX10_isPhaseDone 52 = .ok (.iload_n 1, 1) := by decide +kernel
theorem dX10_isPhaseDone_53 : decode cX10_isPhaseDone 53 = .ok (.invokevirtual 109, 3) := by decide +kernel
theorem dX10_isPhaseDone_56 : decode cX10_isPhaseDone 56 = .ok (.iadd, 1) := by decide +kernel
theorem dX10_isPhaseDone_57 : decode cX10_isPhaseDone 57 = .ok (.iload_n 3, 1) := by decide +kernel
theorem dX10_isPhaseDone_58 : decode cX10_isPhaseDone 58 = .ok (.invokestatic 241, 3) := by decide +kernel
theorem dX10_isPhaseDone_61 : decode cX10_isPhaseDone 61 = .ok (.aload_n 0, 1) := by decide +kernel
theorem dX10_isPhaseDone_62 : decode cX10_isPhaseDone 62 = .ok (.getfield 62, 3) := by decide +kernel
theorem dX10_isPhaseDone_65 : decode cX10_isPhaseDone 65 = .ok (.getfield 379, 3) := by decide +kernel
theorem dX10_isPhaseDone_68 : decode cX10_isPhaseDone 68 = .ok (.iload_n 1, 1) := by decide +kernel
theorem dX10_isPhaseDone_69 : decode cX10_isPhaseDone 69 = .ok (.invokevirtual 109, 3) := by decide +kernel
theorem dX10_isPhaseDone_72 : decode cX10_isPhaseDone 72 = .ok (.iadd, 1) := by decide +kernel
theorem dX10_isPhaseDone_73 : decode cX10_isPhaseDone 73 = .ok (.invokestatic 81, 3) := by decide +kernel
theorem dX10_isPhaseDone_76 : decode cX10_isPhaseDone 76 = .ok (.istore 4, 2) := by decide +kernel
theorem dX10_isPhaseDone_78 : decode cX10_isPhaseDone 78 = .ok (.iload 4, 2) := by decide +kernel
theorem dX10_isPhaseDone_80 : decode cX10_isPhaseDone 80 = .ok (.iconst (-1), 1) := by decide +kernel
theorem dX10_isPhaseDone_81 : decode cX10_isPhaseDone 81 = .ok (.if_icmp .eq 20, 3) := by decide +kernel
theorem dX10_isPhaseDone_84 : decode cX10_isPhaseDone 84 = .ok (.aload_n 0, 1) := by decide +kernel
theorem dX10_isPhaseDone_85 : decode cX10_isPhaseDone 85 = .ok (.iload_n 2, 1) := by decide +kernel
theorem dX10_isPhaseDone_86 : decode cX10_isPhaseDone 86 = .ok (.iload 4, 2) := by decide +kernel
theorem dX10_isPhaseDone_88 : decode cX10_isPhaseDone 88 = .ok (.invokevirtual 197, 3) := by decide +kernel
theorem dX10_isPhaseDone_91 : decode cX10_isPhaseDone 91 = .ok (.ifCond .eq 10, 3) := by decide +kernel
theorem dX10_isPhaseDone_94 : decode cX10_isPhaseDone 94 = .ok (.aload_n 0, 1) := by decide +kernel
theorem dX10_isPhaseDone_95 : decode cX10_isPhaseDone 95 = .ok (.invokevirtual 181, 3) := by decide +kernel
theorem dX10_isPhaseDone_98 : decode cX10_isPhaseDone 98 = .ok (.ifCond .eq 5, 3) := by decide +kernel
theorem dX10_isPhaseDone_101 : decode cX10_isPhaseDone 101 = .ok (.iconst 0, 1) := by decide +kernel
theorem dX10_isPhaseDone_102 : decode cX10_isPhaseDone 102 = .ok (.ireturn, 1) := by decide +kernel
theorem dX10_isPhaseDone_103 : decode cX10_isPhaseDone 103 = .ok (.aload_n 0, 1) := by decide +kernel
theorem dX10_isPhaseDone_104 : decode cX10_isPhaseDone 104 = .ok (.getfield 62, 3) := by decide +kernel
theorem dX10_isPhaseDone_107 : decode cX10_isPhaseDone 107 = .ok (.getfield 382, 3) := by decide +kernel
theorem dX10_isPhaseDone_110 : decode cX10_isPhaseDone 110 = .ok (.iload_n 1, 1) := by decide +kernel
theorem dX10_isPhaseDone_111 : decode cX10_isPhaseDone 111 = .ok (.invokevirtual 109, 3) := by decide +kernel
theorem dX10_isPhaseDone_114 : decode cX10_isPhaseDone 114 = .ok (.istore 5, 2) := by decide +kernel
theorem dX10_isPhaseDone_116 : decode cX10_isPhaseDone 116 = .ok (.aload_n 0, 1) := by decide +kernel
theorem dX10_isPhaseDone_117 : decode cX10_isPhaseDone 117 = .ok (.getfield 62, 3) := by decide +kernel
theorem dX10_isPhaseDone_120 : decode cX10_isPhaseDone 120 = .ok (.getfield 384, 3) := by decide +kernel
theorem dX10_isPhaseDone_123 : decode cX10_isPhaseDone 123 = .ok (.iload_n 1, 1) := by decide +kernel
theorem dX10_isPhaseDone_124 : decode cX10_isPhaseDone 124 = .ok (.invokevirtual 109, 3) := by decide +kernel
theorem dX10_isPhaseDone_127 : decode cX10_isPhaseDone 127 = .ok (.istore 6, 2) := by decide +kernel
theorem dX10_isPhaseDone_129 : decode cX10_isPhaseDone 129 = .ok (.iload 5, 2) := by decide +kernel
theorem dX10_isPhaseDone_131 : decode cX10_isPhaseDone 131 = .ok (.ifCond .ne 8, 3) := by decide +kernel
theorem dX10_isPhaseDone_134 : decode cX10_isPhaseDone 134 = .ok (.iload 6, 2) := by decide +kernel
theorem dX10_isPhaseDone_136 : decode cX10_isPhaseDone 136 = .ok (.ifCond .eq 21, 3) := by decide +kernel
theorem dX10_isPhaseDone_139 : decode cX10_isPhaseDone 139 = .ok (.aload_n 0, 1) := by decide +kernel
theorem dX10_isPhaseDone_140 : decode cX10_isPhaseDone 140 = .ok (.iload 5, 2) := by decide +kernel
theorem dX10_isPhaseDone_142 : decode cX10_isPhaseDone 142 = .ok (.iload 6, 2) := by decide +kernel
theorem dX10_isPhaseDone_144 : decode cX10_isPhaseDone 144 = .ok (.invokevirtual 200, 3) := by decide +kernel
theorem dX10_isPhaseDone_147 : decode cX10_isPhaseDone 147 = .ok (.ifCond .eq 14, 3) := by decide +kernel
theorem dX10_isPhaseDone_150 : decode cX10_isPhaseDone 150 = .ok (.aload_n 0, 1) := by decide +kernel
theorem dX10_isPhaseDone_151 : decode cX10_isPhaseDone 151 = .ok (.invokevirtual 181, 3) := by decide +kernel
theorem dX10_isPhaseDone_154 : decode cX10_isPhaseDone 154 = .ok (.ifCond .ne 7, 3) := by decide +kernel
theorem dX10_isPhaseDone_157 : decode cX10_isPhaseDone 157 = .ok (.iconst 1, 1) := by decide +kernel
theorem dX10_isPhaseDone_158 : decode cX10_isPhaseDone 158 = .ok (.goto 4, 3) := by decide +kernel
theorem dX10_isPhaseDone_161 : decode cX10_isPhaseDone 161 = .ok (.iconst 0, 1) := by decide +kernel
theorem dX10_isPhaseDone_162 : decode cX10_isPhaseDone 162 = .ok (.ireturn, 1) := by decide +kernel
theorem dX10_mayLift_0 : decode cX10_mayLift 0 = .ok (.aload_n 0, 1) := by decide +kernel
theorem dX10_mayLift_1 : decode cX10_mayLift 1 = .ok (.getfield 73, 3) := by decide +kernel
theorem dX10_mayLift_4 : decode cX10_mayLift 4 = .ok (.ifCond .eq 41, 3) := by decide +kernel
theorem dX10_mayLift_7 : decode cX10_mayLift 7 = .ok (.aload_n 0, 1) := by decide +kernel
theorem dX10_mayLift_8 : decode cX10_mayLift 8 = .ok (.getfield 77, 3) := by decide +kernel
theorem dX10_mayLift_11 : decode cX10_mayLift 11 = .ok (.iconst 1, 1) := by decide +kernel
theorem dX10_mayLift_12 : decode cX10_mayLift 12 = .ok (.if_icmp .lt 33, 3) := by decide +kernel
theorem dX10_mayLift_15 : decode cX10_mayLift 15 = .ok (.aload_n 0, 1) := by decide +kernel
theorem dX10_mayLift_16 : decode cX10_mayLift 16 = .ok (.getfield 31, 3) := by decide +kernel
theorem dX10_mayLift_19 : decode cX10_mayLift 19 = .ok (.getfield 235, 3) := by decide +kernel
theorem dX10_mayLift_22 : decode cX10_mayLift 22 = .ok (.iload_n 1, 1) := by decide +kernel
theorem dX10_mayLift_23 : decode cX10_mayLift 23 = .ok (.invokevirtual 109, 3) := by decide +kernel
theorem dX10_mayLift_26 : decode cX10_mayLift 26 = .ok (.iconst (-1), 1) := by decide +kernel
theorem dX10_mayLift_27 : decode cX10_mayLift 27 = .ok (.if_icmp .eq 18, 3) := by decide +kernel
theorem dX10_mayLift_30 : decode cX10_mayLift 30 = .ok (.aload_n 0, 1) := by decide +kernel
theorem dX10_mayLift_31 : decode cX10_mayLift 31 = .ok (.getfield 31, 3) := by decide +kernel
theorem dX10_mayLift_34 : decode cX10_mayLift 34 = .ok (.iload_n 1, 1) := by decide +kernel
theorem dX10_mayLift_35 : decode cX10_mayLift 35 = .ok (.invokevirtual 244, 3) := by decide +kernel
theorem dX10_mayLift_38 : decode cX10_mayLift 38 = .ok (.ifCond .eq 7, 3) := by decide +kernel
theorem dX10_mayLift_41 : decode cX10_mayLift 41 = .ok (.iconst 1, 1) := by decide +kernel
theorem dX10_mayLift_42 : decode cX10_mayLift 42 = .ok (.goto 4, 3) := by decide +kernel
theorem dX10_mayLift_45 : decode cX10_mayLift 45 = .ok (.iconst 0, 1) := by decide +kernel
theorem dX10_mayLift_46 : decode cX10_mayLift 46 = .ok (.ireturn, 1) := by decide +kernel
theorem dX10_hipsBear_0 : decode cX10_hipsBear 0 = .ok (.bipush 9, 2) := by decide +kernel
theorem dX10_hipsBear_2 : decode cX10_hipsBear 2 = .ok (.istore_n 1, 1) := by decide +kernel
theorem dX10_hipsBear_3 : decode cX10_hipsBear 3 = .ok (.iconst 0, 1) := by decide +kernel
theorem dX10_hipsBear_4 : decode cX10_hipsBear 4 = .ok (.istore_n 2, 1) := by decide +kernel
theorem dX10_hipsBear_5 : decode cX10_hipsBear 5 = .ok (.aload_n 0, 1) := by decide +kernel
theorem dX10_hipsBear_6 : decode cX10_hipsBear 6 = .ok (.getfield 35, 3) := by decide +kernel
theorem dX10_hipsBear_9 : decode cX10_hipsBear 9 = .ok (.aload_n 0, 1) := by decide +kernel
theorem dX10_hipsBear_10 : decode cX10_hipsBear 10 = .ok (.getfield 31, 3) := by decide +kernel
theorem dX10_hipsBear_13 : decode cX10_hipsBear 13 = .ok (.invokevirtual 294, 3) := by decide +kernel
theorem dX10_hipsBear_16 : decode cX10_hipsBear 16 = .ok (.iconst 0, 1) := by decide +kernel
theorem dX10_hipsBear_17 : decode cX10_hipsBear 17 = .ok (.istore_n 3, 1) := by decide +kernel
theorem dX10_hipsBear_18 : decode cX10_hipsBear 18 = .ok (.iload_n 3, 1) := by decide +kernel
theorem dX10_hipsBear_19 : decode cX10_hipsBear 19 = .ok (.aload_n 0, 1) := by decide +kernel
theorem dX10_hipsBear_20 : decode cX10_hipsBear 20 = .ok (.getfield 22, 3) := by decide +kernel
theorem dX10_hipsBear_23 : decode cX10_hipsBear 23 = .ok (.getfield 136, 3) := by decide +kernel
theorem dX10_hipsBear_26 : decode cX10_hipsBear 26 = .ok (.if_icmp .ge 98, 3) := by decide +kernel
theorem dX10_hipsBear_29 : decode cX10_hipsBear 29 = .ok (.aload_n 0, 1) := by decide +kernel
theorem dX10_hipsBear_30 : decode cX10_hipsBear 30 = .ok (.getfield 31, 3) := by decide +kernel
theorem dX10_hipsBear_33 : decode cX10_hipsBear 33 = .ok (.iload_n 3, 1) := by decide +kernel
theorem dX10_hipsBear_34 : decode cX10_hipsBear 34 = .ok (.invokevirtual 349, 3) := by decide +kernel
theorem dX10_hipsBear_37 : decode cX10_hipsBear 37 = .ok (.aload_n 0, 1) := by decide +kernel
theorem dX10_hipsBear_38 : decode cX10_hipsBear 38 = .ok (.getfield 31, 3) := by decide +kernel
theorem dX10_hipsBear_41 : decode cX10_hipsBear 41 = .ok (.iload_n 3, 1) := by decide +kernel
theorem dX10_hipsBear_42 : decode cX10_hipsBear 42 = .ok (.invokevirtual 352, 3) := by decide +kernel
theorem dX10_hipsBear_45 : decode cX10_hipsBear 45 = .ok (.invokestatic 81, 3) := by decide +kernel
theorem dX10_hipsBear_48 : decode cX10_hipsBear 48 = .ok (.istore 4, 2) := by decide +kernel
theorem dX10_hipsBear_50 : decode cX10_hipsBear 50 = .ok (.iload 4, 2) := by decide +kernel
theorem dX10_hipsBear_52 : decode cX10_hipsBear 52 = .ok (.iconst (-1), 1) := by decide +kernel
theorem dX10_hipsBear_53 : decode cX10_hipsBear 53 = .ok (.if_icmp .eq 16, 3) := by decide +kernel
theorem dX10_hipsBear_56 : decode cX10_hipsBear 56 = .ok (.aload_n 0, 1) := by decide +kernel
theorem dX10_hipsBear_57 : decode cX10_hipsBear 57 = .ok (.getfield 35, 3) := by decide +kernel
theorem dX10_hipsBear_60 : decode cX10_hipsBear 60 = .ok (.iload 4, 2) := by decide +kernel
theorem dX10_hipsBear_62 : decode cX10_hipsBear 62 = .ok (.iconst (-1), 1) := by decide +kernel
theorem dX10_hipsBear_63 : decode cX10_hipsBear 63 = .ok (.invokevirtual 96, 3) := by decide +kernel
theorem dX10_hipsBear_66 : decode cX10_hipsBear 66 = .ok (.ifCond .eq 5, 3) := by decide +kernel
theorem dX10_hipsBear_69 : decode cX10_hipsBear 69 = .ok (.iconst 0, 1) := by decide +kernel
theorem dX10_hipsBear_70 : decode cX10_hipsBear 70 = .ok (.ireturn, 1) := by decide +kernel
theorem dX10_hipsBear_71 : decode cX10_hipsBear 71 = .ok (.aload_n 0, 1) := by decide +kernel
theorem dX10_hipsBear_72 : decode cX10_hipsBear 72 = .ok (.getfield 35, 3) := by decide +kernel
theorem dX10_hipsBear_75 : decode cX10_hipsBear 75 = .ok (.getfield 235, 3) := by decide +kernel
theorem dX10_hipsBear_78 : decode cX10_hipsBear 78 = .ok (.iload_n 3, 1) := by decide +kernel
theorem dX10_hipsBear_79 : decode cX10_hipsBear 79 = .ok (.iload 4, 2) := by decide +kernel
theorem dX10_hipsBear_81 : decode cX10_hipsBear 81 = .ok (.invokevirtual 115, 3) := by decide +kernel
theorem dX10_hipsBear_84 : decode cX10_hipsBear 84 = .ok (.iload_n 1, 1) := by decide +kernel
theorem dX10_hipsBear_85 : decode cX10_hipsBear 85 = .ok (.aload_n 0, 1) := by decide +kernel
theorem dX10_hipsBear_86 : decode cX10_hipsBear 86 = .ok (.getfield 15, 3) := by decide +kernel
theorem dX10_hipsBear_89 : decode cX10_hipsBear 89 = .ok (.getfield 127, 3) := by decide +kernel
theorem dX10_hipsBear_92 : decode cX10_hipsBear 92 = .ok (.iload 4, 2) := by decide +kernel
theorem dX10_hipsBear_94 : decode cX10_hipsBear 94 = .ok (.invokevirtual 109, 3) := by decide +kernel
theorem dX10_hipsBear_97 : decode cX10_hipsBear 97 = .ok (.invokestatic 147, 3) := by decide +kernel
theorem dX10_hipsBear_100 : decode cX10_hipsBear 100 = .ok (.istore_n 1, 1) := by decide +kernel
theorem dX10_hipsBear_101 : decode cX10_hipsBear 101 = .ok (.iload_n 2, 1) := by decide +kernel
theorem dX10_hipsBear_102 : decode cX10_hipsBear 102 = .ok (.aload_n 0, 1) := by decide +kernel
theorem dX10_hipsBear_103 : decode cX10_hipsBear 103 = .ok (.getfield 15, 3) := by decide +kernel
theorem dX10_hipsBear_106 : decode cX10_hipsBear 106 = .ok (.getfield 127, 3) := by decide +kernel
theorem dX10_hipsBear_109 : decode cX10_hipsBear 109 = .ok (.iload 4, 2) := by decide +kernel
theorem dX10_hipsBear_111 : decode cX10_hipsBear 111 = .ok (.invokevirtual 109, 3) := by decide +kernel
theorem dX10_hipsBear_114 : decode cX10_hipsBear 114 = .ok (.invokestatic 386, 3) := by decide +kernel
theorem dX10_hipsBear_117 : decode cX10_hipsBear 117 = .ok (.istore_n 2, 1) := by decide +kernel
theorem dX10_hipsBear_118 : decode cX10_hipsBear 118 = .ok (.iinc 3 1, 3) := by decide +kernel
theorem dX10_hipsBear_121 : decode cX10_hipsBear 121 = .ok (.goto (-103), 3) := by decide +kernel
theorem dX10_hipsBear_124 : decode cX10_hipsBear 124 = .ok (.iload_n 2, 1) := by decide +kernel
theorem dX10_hipsBear_125 : decode cX10_hipsBear 125 = .ok (.iload_n 1, 1) := by decide +kernel
theorem dX10_hipsBear_126 : decode cX10_hipsBear 126 = .ok (.isub, 1) := by decide +kernel
theorem dX10_hipsBear_127 : decode cX10_hipsBear 127 = .ok (.iconst 2, 1) := by decide +kernel
theorem dX10_hipsBear_128 : decode cX10_hipsBear 128 = .ok (.if_icmp .gt 18, 3) := by decide +kernel
theorem dX10_hipsBear_131 : decode cX10_hipsBear 131 = .ok (.aload_n 0, 1) := by decide +kernel
theorem dX10_hipsBear_132 : decode cX10_hipsBear 132 = .ok (.getfield 35, 3) := by decide +kernel
theorem dX10_hipsBear_135 : decode cX10_hipsBear 135 = .ok (.iconst (-1), 1) := by decide +kernel
theorem dX10_hipsBear_136 : decode cX10_hipsBear 136 = .ok (.invokevirtual 244, 3) := by decide +kernel
theorem dX10_hipsBear_139 : decode cX10_hipsBear 139 = .ok (.ifCond .eq 7, 3) := by decide +kernel
theorem dX10_hipsBear_142 : decode cX10_hipsBear 142 = .ok (.iconst 1, 1) := by decide +kernel
theorem dX10_hipsBear_143 : decode cX10_hipsBear 143 = .ok (.goto 4, 3) := by decide +kernel
theorem dX10_hipsBear_146 : decode cX10_hipsBear 146 = .ok (.iconst 0, 1) := by decide +kernel
theorem dX10_hipsBear_147 : decode cX10_hipsBear 147 = .ok (.ireturn, 1) := by decide +kernel
theorem dX10_setFoot_0 : decode cX10_setFoot 0 = .ok (.aload_n 0, 1) := by decide +kernel
theorem dX10_setFoot_1 : decode cX10_setFoot 1 = .ok (.getfield 15, 3) := by decide +kernel
theorem dX10_setFoot_4 : decode cX10_setFoot 4 = .ok (.getfield 105, 3) := by decide +kernel
theorem dX10_setFoot_7 : decode cX10_setFoot 7 = .ok (.iload_n 2, 1) := by decide +kernel
theorem dX10_setFoot_8 : decode cX10_setFoot 8 = .ok (.invokevirtual 109, 3) := by decide +kernel
theorem dX10_setFoot_11 : decode cX10_setFoot 11 = .ok (.aload_n 0, 1) := by decide +kernel
theorem dX10_setFoot_12 : decode cX10_setFoot 12 = .ok (.getfield 15, 3) := by decide +kernel
theorem dX10_setFoot_15 : decode cX10_setFoot 15 = .ok (.getfield 127, 3) := by decide +kernel
theorem dX10_setFoot_18 : decode cX10_setFoot 18 = .ok (.iload_n 2, 1) := by decide +kernel
theorem dX10_setFoot_19 : decode cX10_setFoot 19 = .ok (.invokevirtual 109, 3) := by decide +kernel
theorem dX10_setFoot_22 : decode cX10_setFoot 22 = .ok (.isub, 1) := by decide +kernel
theorem dX10_setFoot_23 : decode cX10_setFoot 23 = .ok (.invokestatic 361, 3) := by decide +kernel
theorem dX10_setFoot_26 : decode cX10_setFoot 26 = .ok (.iconst 2, 1) := by decide +kernel
theorem dX10_setFoot_27 : decode cX10_setFoot 27 = .ok (.if_icmp .lt 7, 3) := by decide +kernel
theorem dX10_setFoot_30 : decode cX10_setFoot 30 = .ok (.iconst 1, 1) := by decide +kernel
theorem dX10_setFoot_31 : decode cX10_setFoot 31 = .ok (.goto 4, 3) := by decide +kernel
theorem dX10_setFoot_34 : decode cX10_setFoot 34 = .ok (.iconst 0, 1) := by decide +kernel
theorem dX10_setFoot_35 : decode cX10_setFoot 35 = .ok (.istore_n 3, 1) := by decide +kernel
theorem dX10_setFoot_36 : decode cX10_setFoot 36 = .ok (.aload_n 0, 1) := by decide +kernel
theorem dX10_setFoot_37 : decode cX10_setFoot 37 = .ok (.getfield 15, 3) := by decide +kernel
theorem dX10_setFoot_40 : decode cX10_setFoot 40 = .ok (.iload_n 2, 1) := by decide +kernel
theorem dX10_setFoot_41 : decode cX10_setFoot 41 = .ok (.invokevirtual 389, 3) := by decide +kernel
theorem dX10_setFoot_44 : decode cX10_setFoot 44 = .ok (.iload_n 3, 1) := by decide +kernel
theorem dX10_setFoot_45 : decode cX10_setFoot 45 = .ok (.ifCond .eq 13, 3) := by decide +kernel
theorem dX10_setFoot_48 : decode cX10_setFoot 48 = .ok (.aload_n 0, 1) := by decide +kernel
theorem dX10_setFoot_49 : decode cX10_setFoot 49 = .ok (.getfield 48, 3) := by decide +kernel
theorem dX10_setFoot_52 : decode cX10_setFoot 52 = .ok (.iconst 1, 1) := by decide +kernel
theorem dX10_setFoot_53 : decode cX10_setFoot 53 = .ok (.iload_n 2, 1) := by decide +kernel
theorem dX10_setFoot_54 : decode cX10_setFoot 54 = .ok (.invokevirtual 393, 3) := by decide +kernel
theorem dX10_setFoot_57 : decode cX10_setFoot 57 = .ok (.return_, 1) := by decide +kernel
theorem dX10_setFoot_58 : decode cX10_setFoot 58 = .ok (.aload_n 0, 1) := by decide +kernel
theorem dX10_setFoot_59 : decode cX10_setFoot 59 = .ok (.getfield 15, 3) := by decide +kernel
theorem dX10_setFoot_62 : decode cX10_setFoot 62 = .ok (.iload_n 2, 1) := by decide +kernel
theorem dX10_setFoot_63 : decode cX10_setFoot 63 = .ok (.invokevirtual 396, 3) := by decide +kernel
theorem dX10_setFoot_66 : decode cX10_setFoot 66 = .ok (.istore 4, 2) := by decide +kernel
theorem dX10_setFoot_68 : decode cX10_setFoot 68 = .ok (.iload 4, 2) := by decide +kernel
theorem dX10_setFoot_70 : decode cX10_setFoot 70 = .ok (.iconst (-1), 1) := by decide +kernel
theorem dX10_setFoot_71 : decode cX10_setFoot 71 = .ok (.if_icmp .ne 16, 3) := by decide +kernel
theorem dX10_setFoot_74 : decode cX10_setFoot 74 = .ok (.aload_n 0, 1) := by decide +kernel
theorem dX10_setFoot_75 : decode cX10_setFoot 75 = .ok (.getfield 31, 3) := by decide +kernel
theorem dX10_setFoot_78 : decode cX10_setFoot 78 = .ok (.getfield 235, 3) := by decide +kernel
theorem dX10_setFoot_81 : decode cX10_setFoot 81 = .ok (.iload_n 1, 1) := by decide +kernel
theorem dX10_setFoot_82 : decode cX10_setFoot 82 = .ok (.iload_n 2, 1) := by decide +kernel
theorem dX10_setFoot_83 : decode cX10_setFoot 83 = .ok (.invokevirtual 115, 3) := by decide +kernel
theorem dX10_setFoot_86 : decode cX10_setFoot 86 = .ok (.return_, 1) := by decide +kernel
theorem dX10_setFoot_87 : decode cX10_setFoot 87 = .ok (.aload_n 0, 1) := by decide +kernel
theorem dX10_setFoot_88 : decode cX10_setFoot 88 = .ok (.getfield 15, 3) := by decide +kernel
theorem dX10_setFoot_91 : decode cX10_setFoot 91 = .ok (.iload 4, 2) := by decide +kernel
theorem dX10_setFoot_93 : decode cX10_setFoot 93 = .ok (.invokevirtual 389, 3) := by decide +kernel
theorem dX10_setFoot_96 : decode cX10_setFoot 96 = .ok (.aload_n 0, 1) := by decide +kernel
theorem dX10_setFoot_97 : decode cX10_setFoot 97 = .ok (.getfield 48, 3) := by decide +kernel
theorem dX10_setFoot_100 : decode cX10_setFoot 100 = .ok (.iconst 3, 1) := by decide +kernel
theorem dX10_setFoot_101 : decode cX10_setFoot 101 = .ok (.iload_n 2, 1) := by decide +kernel
theorem dX10_setFoot_102 : decode cX10_setFoot 102 = .ok (.invokevirtual 393, 3) := by decide +kernel
theorem dX10_setFoot_105 : decode cX10_setFoot 105 = .ok (.aload_n 0, 1) := by decide +kernel
theorem dX10_setFoot_106 : decode cX10_setFoot 106 = .ok (.getfield 31, 3) := by decide +kernel
theorem dX10_setFoot_109 : decode cX10_setFoot 109 = .ok (.iload_n 1, 1) := by decide +kernel
theorem dX10_setFoot_110 : decode cX10_setFoot 110 = .ok (.iload 4, 2) := by decide +kernel
theorem dX10_setFoot_112 : decode cX10_setFoot 112 = .ok (.invokevirtual 364, 3) := by decide +kernel
theorem dX10_setFoot_115 : decode cX10_setFoot 115 = .ok (.ifCond .eq 29, 3) := by decide +kernel
theorem dX10_setFoot_118 : decode cX10_setFoot 118 = .ok (.aload_n 0, 1) := by decide +kernel
theorem dX10_setFoot_119 : decode cX10_setFoot 119 = .ok (.getfield 31, 3) := by decide +kernel
theorem dX10_setFoot_122 : decode cX10_setFoot 122 = .ok (.iload 4, 2) := by decide +kernel
theorem dX10_setFoot_124 : decode cX10_setFoot 124 = .ok (.iload_n 1, 1) := by decide +kernel
theorem dX10_setFoot_125 : decode cX10_setFoot 125 = .ok (.invokevirtual 96, 3) := by decide +kernel
theorem dX10_setFoot_128 : decode cX10_setFoot 128 = .ok (.ifCond .ne 16, 3) := by decide +kernel
theorem dX10_setFoot_131 : decode cX10_setFoot 131 = .ok (.aload_n 0, 1) := by decide +kernel
theorem dX10_setFoot_132 : decode cX10_setFoot 132 = .ok (.getfield 31, 3) := by decide +kernel
theorem dX10_setFoot_135 : decode cX10_setFoot 135 = .ok (.getfield 235, 3) := by decide +kernel
theorem dX10_setFoot_138 : decode cX10_setFoot 138 = .ok (.iload_n 1, 1) := by decide +kernel
theorem dX10_setFoot_139 : decode cX10_setFoot 139 = .ok (.iload 4, 2) := by decide +kernel
theorem dX10_setFoot_141 : decode cX10_setFoot 141 = .ok (.invokevirtual 115, 3) := by decide +kernel
theorem dX10_setFoot_144 : decode cX10_setFoot 144 = .ok (.return_, 1) := by decide +kernel
theorem dX10_settled_0 : decode cX10_settled 0 = .ok (.aload_n 0, 1) := by decide +kernel
theorem dX10_settled_1 : decode cX10_settled 1 = .ok (.getfield 73, 3) := by decide +kernel
theorem dX10_settled_4 : decode cX10_settled 4 = .ok (.ifCond .eq 65, 3) := by decide +kernel
theorem dX10_settled_7 : decode cX10_settled 7 = .ok (.aload_n 0, 1) := by decide +kernel
theorem dX10_settled_8 : decode cX10_settled 8 = .ok (.getfield 31, 3) := by decide +kernel
theorem dX10_settled_11 : decode cX10_settled 11 = .ok (.invokevirtual 399, 3) := by decide +kernel
theorem dX10_settled_14 : decode cX10_settled 14 = .ok (.istore_n 1, 1) := by decide +kernel
theorem dX10_settled_15 : decode cX10_settled 15 = .ok (.iconst 0, 1) := by decide +kernel
theorem dX10_settled_16 : decode cX10_settled 16 = .ok (.istore_n 2, 1) := by decide +kernel
theorem dX10_settled_17 : decode cX10_settled 17 = .ok (.iload_n 1, 1) := by decide +kernel
theorem dX10_settled_18 : decode cX10_settled 18 = .ok (.ifCond .eq 36, 3) := by decide +kernel
theorem dX10_settled_21 : decode cX10_settled 21 = .ok (.iload_n 2, 1) := by decide +kernel
theorem dX10_settled_22 : decode cX10_settled 22 = .ok (.bipush 6, 2) := by decide +kernel
theorem dX10_settled_24 : decode cX10_settled 24 = .ok (.if_icmp .ge 30, 3) := by decide +kernel
theorem dX10_settled_27 : decode cX10_settled 27 = .ok (.aload_n 0, 1) := by decide +kernel
theorem dX10_settled_28 : decode cX10_settled 28 = .ok (.iload_n 1, 1) := by decide +kernel
theorem dX10_settled_29 : decode cX10_settled 29 = .ok (.invokevirtual 402, 3) := by decide +kernel
theorem dX10_settled_32 : decode cX10_settled 32 = .ok (.aload_n 0, 1) := by decide +kernel
theorem dX10_settled_33 : decode cX10_settled 33 = .ok (.getfield 31, 3) := by decide +kernel
theorem dX10_settled_36 : decode cX10_settled 36 = .ok (.iload_n 1, 1) := by decide +kernel
theorem dX10_settled_37 : decode cX10_settled 37 = .ok (.invokevirtual 405, 3) := by decide +kernel
theorem dX10_settled_40 : decode cX10_settled 40 = .ok (.aload_n 0, 1) := by decide +kernel
theorem dX10_settled_41 : decode cX10_settled 41 = .ok (.getfield 31, 3) := by decide +kernel
theorem dX10_settled_44 : decode cX10_settled 44 = .ok (.invokevirtual 399, 3) := by decide +kernel
theorem dX10_settled_47 : decode cX10_settled 47 = .ok (.istore_n 1, 1) := by decide +kernel
theorem dX10_settled_48 : decode cX10_settled 48 = .ok (.iinc 2 1, 3) := by decide +kernel
theorem dX10_settled_51 : decode cX10_settled 51 = .ok (.goto (-34), 3) := by decide +kernel
theorem dX10_settled_54 : decode cX10_settled 54 = .ok (.aload_n 0, 1) := by decide +kernel
theorem dX10_settled_55 : decode cX10_settled 55 = .ok (.getfield 31, 3) := by decide +kernel
theorem dX10_settled_58 : decode cX10_settled 58 = .ok (.iconst (-1), 1) := by decide +kernel
theorem dX10_settled_59 : decode cX10_settled 59 = .ok (.invokevirtual 244, 3) := by decide +kernel
theorem dX10_settled_62 : decode cX10_settled 62 = .ok (.ifCond .ne 7, 3) := by decide +kernel
theorem dX10_settled_65 : decode cX10_settled 65 = .ok (.aload_n 0, 1) := by decide +kernel
theorem dX10_settled_66 : decode cX10_settled 66 = .ok (.invokevirtual 408, 3) := by decide +kernel
theorem dX10_settled_69 : decode cX10_settled 69 = .ok (.aload_n 0, 1) := by decide +kernel
theorem dX10_settled_70 : decode cX10_settled 70 = .ok (.getfield 48, 3) := by decide +kernel
theorem dX10_settled_73 : decode cX10_settled 73 = .ok (.getfield 411, 3) := by decide +kernel
theorem dX10_settled_76 : decode cX10_settled 76 = .ok (.ireturn, 1) := by decide +kernel
theorem dX10_breakGround_0 : decode cX10_breakGround 0 = .ok (.iconst 0, 1) := by decide +kernel
theorem dX10_breakGround_1 : decode cX10_breakGround 1 = .ok (.istore_n 2, 1) := by decide +kernel
theorem dX10_breakGround_2 : decode cX10_breakGround 2 = .ok (.iload_n 2, 1) := by decide +kernel
theorem dX10_breakGround_3 : decode cX10_breakGround 3 = .ok (.bipush 6, 2) := by decide +kernel
theorem dX10_breakGround_5 : decode cX10_breakGround 5 = .ok (.if_icmp .ge 46, 3) := by decide +kernel
theorem dX10_breakGround_8 : decode cX10_breakGround 8 = .ok (.iload_n 1, 1) := by decide +kernel
theorem dX10_breakGround_9 : decode cX10_breakGround 9 = .ok (.iload_n 2, 1) := by decide +kernel
theorem dX10_breakGround_10 : decode cX10_breakGround 10 = .ok (.ishr, 1) := by decide +kernel
theorem dX10_breakGround_11 : decode cX10_breakGround 11 = .ok (.iconst 1, 1) := by decide +kernel
theorem dX10_breakGround_12 : decode cX10_breakGround 12 = .ok (.iand, 1) := by decide +kernel
theorem dX10_breakGround_13 : decode cX10_breakGround 13 = .ok (.ifCond .eq 32, 3) := by decide +kernel
theorem dX10_breakGround_16 : decode cX10_breakGround 16 = .ok (.aload_n 0, 1) := by decide +kernel
theorem dX10_breakGround_17 : decode cX10_breakGround 17 = .ok (.getfield 31, 3) := by decide +kernel
theorem dX10_breakGround_20 : decode cX10_breakGround 20 = .ok (.getfield 235, 3) := by decide +kernel
theorem dX10_breakGround_23 : decode cX10_breakGround 23 = .ok (.iload_n 2, 1) := by decide +kernel
theorem dX10_breakGround_24 : decode cX10_breakGround 24 = .ok (.invokevirtual 109, 3) := by decide +kernel
theorem dX10_breakGround_27 : decode cX10_breakGround 27 = .ok (.istore_n 3, 1) := by decide +kernel
theorem dX10_breakGround_28 : decode cX10_breakGround 28 = .ok (.aload_n 0, 1) := by decide +kernel
theorem dX10_breakGround_29 : decode cX10_breakGround 29 = .ok (.getfield 15, 3) := by decide +kernel
theorem dX10_breakGround_32 : decode cX10_breakGround 32 = .ok (.iload_n 3, 1) := by decide +kernel
theorem dX10_breakGround_33 : decode cX10_breakGround 33 = .ok (.invokevirtual 414, 3) := by decide +kernel
theorem dX10_breakGround_36 : decode cX10_breakGround 36 = .ok (.aload_n 0, 1) := by decide +kernel
theorem dX10_breakGround_37 : decode cX10_breakGround 37 = .ok (.getfield 48, 3) := by decide +kernel
theorem dX10_breakGround_40 : decode cX10_breakGround 40 = .ok (.iconst 2, 1) := by decide +kernel
theorem dX10_breakGround_41 : decode cX10_breakGround 41 = .ok (.iload_n 3, 1) := by decide +kernel
theorem dX10_breakGround_42 : decode cX10_breakGround 42 = .ok (.invokevirtual 393, 3) := by decide +kernel
theorem dX10_breakGround_45 : decode cX10_breakGround 45 = .ok (.iinc 2 1, 3) := by decide +kernel
theorem dX10_breakGround_48 : decode cX10_breakGround 48 = .ok (.goto (-46), 3) := by decide +kernel
theorem dX10_breakGround_51 : decode cX10_breakGround 51 = .ok (.return_, 1) := by decide +kernel
theorem dX10_toppleOver_0 : decode cX10_toppleOver 0 = .ok (.aload_n 0, 1) := by decide +kernel
theorem dX10_toppleOver_1 : decode cX10_toppleOver 1 = .ok (.getfield 55, 3) := by decide +kernel
theorem dX10_toppleOver_4 : decode cX10_toppleOver 4 = .ok (.aload_n 0, 1) := by decide +kernel
theorem dX10_toppleOver_5 : decode cX10_toppleOver 5 = .ok (.getfield 31, 3) := by decide +kernel
theorem dX10_toppleOver_8 : decode cX10_toppleOver 8 = .ok (.invokevirtual 417, 3) := by decide +kernel
theorem dX10_toppleOver_11 : decode cX10_toppleOver 11 = .ok (.aload_n 0, 1) := by decide +kernel
theorem dX10_toppleOver_12 : decode cX10_toppleOver 12 = .ok (.getfield 48, 3) := by decide +kernel
theorem dX10_toppleOver_15 : decode cX10_toppleOver 15 = .ok (.getfield 419, 3) := by decide +kernel
theorem dX10_toppleOver_18 : decode cX10_toppleOver 18 = .ok (.aload_n 0, 1) := by decide +kernel
theorem dX10_toppleOver_19 : decode cX10_toppleOver 19 = .ok (.getfield 48, 3) := by decide +kernel
theorem dX10_toppleOver_22 : decode cX10_toppleOver 22 = .ok (.getfield 422, 3) := by decide +kernel
theorem dX10_toppleOver_25 : decode cX10_toppleOver 25 = .ok (.invokevirtual 425, 3) := by decide +kernel
theorem dX10_toppleOver_28 : decode cX10_toppleOver 28 = .ok (.aload_n 0, 1) := by decide +kernel
theorem dX10_toppleOver_29 : decode cX10_toppleOver 29 = .ok (.iconst 0, 1) := by decide +kernel
theorem dX10_toppleOver_30 : decode cX10_toppleOver 30 = .ok (.putfield 73, 3) := by decide +kernel
theorem dX10_toppleOver_33 : decode cX10_toppleOver 33 = .ok (.aload_n 0, 1) := by decide +kernel
theorem dX10_toppleOver_34 : decode cX10_toppleOver 34 = .ok (.getfield 31, 3) := by decide +kernel
theorem dX10_toppleOver_37 : decode cX10_toppleOver 37 = .ok (.getfield 235, 3) := by decide +kernel
theorem dX10_toppleOver_40 : decode cX10_toppleOver 40 = .ok (.iconst (-1), 1) := by decide +kernel
theorem dX10_toppleOver_41 : decode cX10_toppleOver 41 = .ok (.invokevirtual 428, 3) := by decide +kernel
theorem dX10_toppleOver_44 : decode cX10_toppleOver 44 = .ok (.return_, 1) := by decide +kernel
theorem dX10_isLeg_0 : decode cX10_isLeg 0 = .ok (.iload_n 1, 1) := by decide +kernel
theorem dX10_isLeg_1 : decode cX10_isLeg 1 = .ok (.ifCond .lt 18, 3) := by decide +kernel
theorem dX10_isLeg_4 : decode cX10_isLeg 4 = .ok (.iload_n 1, 1) := by decide +kernel
theorem dX10_isLeg_5 : decode cX10_isLeg 5 = .ok (.aload_n 0, 1) := by decide +kernel
theorem dX10_isLeg_6 : decode cX10_isLeg 6 = .ok (.getfield 22, 3) := by decide +kernel
theorem dX10_isLeg_9 : decode cX10_isLeg 9 = .ok (.getfield 136, 3) := by decide +kernel
theorem dX10_isLeg_12 : decode cX10_isLeg 12 = .ok (.if_icmp .ge 7, 3) := by decide +kernel
theorem dX10_isLeg_15 : decode cX10_isLeg 15 = .ok (.iconst 1, 1) := by decide +kernel
theorem dX10_isLeg_16 : decode cX10_isLeg 16 = .ok (.goto 4, 3) := by decide +kernel
theorem dX10_isLeg_19 : decode cX10_isLeg 19 = .ok (.iconst 0, 1) := by decide +kernel
theorem dX10_isLeg_20 : decode cX10_isLeg 20 = .ok (.ireturn, 1) := by decide +kernel
theorem dX10_isWithin_0 : decode cX10_isWithin 0 = .ok (.iload_n 0, 1) := by decide +kernel
theorem dX10_isWithin_1 : decode cX10_isWithin 1 = .ok (.iload_n 1, 1) := by decide +kernel
theorem dX10_isWithin_2 : decode cX10_isWithin 2 = .ok (.if_icmp .lt 12, 3) := by decide +kernel
theorem dX10_isWithin_5 : decode cX10_isWithin 5 = .ok (.iload_n 0, 1) := by decide +kernel
theorem dX10_isWithin_6 : decode cX10_isWithin 6 = .ok (.iload_n 2, 1) := by decide +kernel
theorem dX10_isWithin_7 : decode cX10_isWithin 7 = .ok (.if_icmp .gt 7, 3) := by decide +kernel
theorem dX10_isWithin_10 : decode cX10_isWithin 10 = .ok (.iconst 1, 1) := by decide +kernel
theorem dX10_isWithin_11 : decode cX10_isWithin 11 = .ok (.goto 4, 3) := by decide +kernel
theorem dX10_isWithin_14 : decode cX10_isWithin 14 = .ok (.iconst 0, 1) := by decide +kernel
theorem dX10_isWithin_15 : decode cX10_isWithin 15 = .ok (.ireturn, 1) := by decide +kernel
theorem dX10_isAside_0 : decode cX10_isAside 0 = .ok (.iload_n 0, 1) := by decide +kernel
theorem dX10_isAside_1 : decode cX10_isAside 1 = .ok (.bipush (-5), 2) := by decide +kernel
theorem dX10_isAside_3 : decode cX10_isAside 3 = .ok (.iconst 5, 1) := by decide +kernel
theorem dX10_isAside_4 : decode cX10_isAside 4 = .ok (.invokestatic 85, 3) := by decide +kernel
theorem dX10_isAside_7 : decode cX10_isAside 7 = .ok (.ireturn, 1) := by decide +kernel
theorem dX10_pointAt_0 : decode cX10_pointAt 0 = .ok (.iload_n 0, 1) := by decide +kernel
theorem dX10_pointAt_1 : decode cX10_pointAt 1 = .ok (.ifCond .lt 28, 3) := by decide +kernel
theorem dX10_pointAt_4 : decode cX10_pointAt 4 = .ok (.iload_n 0, 1) := by decide +kernel
theorem dX10_pointAt_5 : decode cX10_pointAt 5 = .ok (.bipush 20, 2) := by decide +kernel
theorem dX10_pointAt_7 : decode cX10_pointAt 7 = .ok (.if_icmp .ge 22, 3) := by decide +kernel
theorem dX10_pointAt_10 : decode cX10_pointAt 10 = .ok (.iload_n 1, 1) := by decide +kernel
theorem dX10_pointAt_11 : decode cX10_pointAt 11 = .ok (.ifCond .lt 18, 3) := by decide +kernel
theorem dX10_pointAt_14 : decode cX10_pointAt 14 = .ok (.iload_n 1, 1) := by decide +kernel
theorem dX10_pointAt_15 : decode cX10_pointAt 15 = .ok (.bipush 20, 2) := by decide +kernel
theorem dX10_pointAt_17 : decode cX10_pointAt 17 = .ok (.if_icmp .ge 12, 3) := by decide +kernel
theorem dX10_pointAt_20 : decode cX10_pointAt 20 = .ok (.bipush 20, 2) := by decide +kernel
theorem dX10_pointAt_22 : decode cX10_pointAt 22 = .ok (.iload_n 1, 1) := by decide +kernel
theorem dX10_pointAt_23 : decode cX10_pointAt 23 = .ok (.imul, 1) := by decide +kernel
theorem dX10_pointAt_24 : decode cX10_pointAt 24 = .ok (.iload_n 0, 1) := by decide +kernel
theorem dX10_pointAt_25 : decode cX10_pointAt 25 = .ok (.iadd, 1) := by decide +kernel
theorem dX10_pointAt_26 : decode cX10_pointAt 26 = .ok (.goto 4, 3) := by decide +kernel
theorem dX10_pointAt_29 : decode cX10_pointAt 29 = .ok (.iconst (-1), 1) := by decide +kernel
theorem dX10_pointAt_30 : decode cX10_pointAt 30 = .ok (.ireturn, 1) := by decide +kernel
theorem dX10_xOf_0 : decode cX10_xOf 0 = .ok (.iload_n 0, 1) := by decide +kernel
theorem dX10_xOf_1 : decode cX10_xOf 1 = .ok (.bipush 20, 2) := by decide +kernel
theorem dX10_xOf_3 : decode cX10_xOf 3 = .ok (.irem, 1) := by decide +kernel
theorem dX10_xOf_4 : decode cX10_xOf 4 = .ok (.ireturn, 1) := by decide +kernel
theorem dX10_yOf_0 : decode cX10_yOf 0 = .ok (.iload_n 0, 1) := by decide +kernel
theorem dX10_yOf_1 : decode cX10_yOf 1 = .ok (.bipush 20, 2) := by decide +kernel
theorem dX10_yOf_3 : decode cX10_yOf 3 = .ok (.idiv, 1) := by decide +kernel
theorem dX10_yOf_4 : decode cX10_yOf 4 = .ok (.ireturn, 1) := by decide +kernel
theorem dX10_roundedUp_0 : decode cX10_roundedUp 0 = .ok (.iload_n 1, 1) := by decide +kernel
theorem dX10_roundedUp_1 : decode cX10_roundedUp 1 = .ok (.ifCond .gt 7, 3) := by decide +kernel
theorem dX10_roundedUp_4 : decode cX10_roundedUp 4 = .ok (.iconst 0, 1) := by decide +kernel
theorem dX10_roundedUp_5 : decode cX10_roundedUp 5 = .ok (.goto 10, 3) := by decide +kernel
theorem dX10_roundedUp_8 : decode cX10_roundedUp 8 = .ok (.iload_n 0, 1) := by decide +kernel
theorem dX10_roundedUp_9 : decode cX10_roundedUp 9 = .ok (.iload_n 1, 1) := by decide +kernel
theorem dX10_roundedUp_10 : decode cX10_roundedUp 10 = .ok (.iadd, 1) := by decide +kernel
theorem dX10_roundedUp_11 : decode cX10_roundedUp 11 = .ok (.iconst 1, 1) := by decide +kernel
theorem dX10_roundedUp_12 : decode cX10_roundedUp 12 = .ok (.isub, 1) := by decide +kernel
theorem dX10_roundedUp_13 : decode cX10_roundedUp 13 = .ok (.iload_n 1, 1) := by decide +kernel
theorem dX10_roundedUp_14 : decode cX10_roundedUp 14 = .ok (.idiv, 1) := by decide +kernel
theorem dX10_roundedUp_15 : decode cX10_roundedUp 15 = .ok (.ireturn, 1) := by decide +kernel
theorem dX10_bitsOf_0 : decode cX10_bitsOf 0 = .ok (.fload_n 0, 1) := by decide +kernel
theorem dX10_bitsOf_1 : decode cX10_bitsOf 1 = .ok (.fconst 0, 1) := by decide +kernel
theorem dX10_bitsOf_2 : decode cX10_bitsOf 2 = .ok (.fcmp .g, 1) := by decide +kernel
theorem dX10_bitsOf_3 : decode cX10_bitsOf 3 = .ok (.ifCond .gt 5, 3) := by decide +kernel
theorem dX10_bitsOf_6 : decode cX10_bitsOf 6 = .ok (.iconst 0, 1) := by decide +kernel
theorem dX10_bitsOf_7 : decode cX10_bitsOf 7 = .ok (.ireturn, 1) := by decide +kernel
theorem dX10_bitsOf_8 : decode cX10_bitsOf 8 = .ok (.bipush 127, 2) := by decide +kernel
theorem dX10_bitsOf_10 : decode cX10_bitsOf 10 = .ok (.istore_n 1, 1) := by decide +kernel
theorem dX10_bitsOf_11 : decode cX10_bitsOf 11 = .ok (.fload_n 0, 1) := by decide +kernel
theorem dX10_bitsOf_12 : decode cX10_bitsOf 12 = .ok (.fstore_n 2, 1) := by decide +kernel
theorem dX10_bitsOf_13 : decode cX10_bitsOf 13 = .ok (.iconst 0, 1) := by decide +kernel
theorem dX10_bitsOf_14 : decode cX10_bitsOf 14 = .ok (.istore_n 3, 1) := by decide +kernel
theorem dX10_bitsOf_15 : decode cX10_bitsOf 15 = .ok (.iload_n 3, 1) := by decide +kernel
theorem dX10_bitsOf_16 : decode cX10_bitsOf 16 = .ok (.bipush 126, 2) := by decide +kernel
theorem dX10_bitsOf_18 : decode cX10_bitsOf 18 = .ok (.if_icmp .ge 22, 3) := by decide +kernel
theorem dX10_bitsOf_21 : decode cX10_bitsOf 21 = .ok (.fload_n 2, 1) := by decide +kernel
theorem dX10_bitsOf_22 : decode cX10_bitsOf 22 = .ok (.fconst 2, 1) := by decide +kernel
theorem dX10_bitsOf_23 : decode cX10_bitsOf 23 = .ok (.fcmp .l, 1) := by decide +kernel
theorem dX10_bitsOf_24 : decode cX10_bitsOf 24 = .ok (.ifCond .lt 16, 3) := by decide +kernel
theorem dX10_bitsOf_27 : decode cX10_bitsOf 27 = .ok (.fload_n 2, 1) := by decide +kernel
theorem dX10_bitsOf_28 : decode cX10_bitsOf 28 = .ok (.fconst 2, 1) := by decide +kernel
theorem dX10_bitsOf_29 : decode cX10_bitsOf 29 = .ok (.fdiv, 1) := by decide +kernel
theorem dX10_bitsOf_30 : decode cX10_bitsOf 30 = .ok (.fstore_n 2, 1) := by decide +kernel
theorem dX10_bitsOf_31 : decode cX10_bitsOf 31 = .ok (.iinc 1 1, 3) := by decide +kernel
theorem dX10_bitsOf_34 : decode cX10_bitsOf 34 = .ok (.iinc 3 1, 3) := by decide +kernel
theorem dX10_bitsOf_37 : decode cX10_bitsOf 37 = .ok (.goto (-22), 3) := by decide +kernel
theorem dX10_bitsOf_40 : decode cX10_bitsOf 40 = .ok (.iconst 0, 1) := by decide +kernel
theorem dX10_bitsOf_41 : decode cX10_bitsOf 41 = .ok (.istore_n 3, 1) := by decide +kernel
theorem dX10_bitsOf_42 : decode cX10_bitsOf 42 = .ok (.iload_n 3, 1) := by decide +kernel
theorem dX10_bitsOf_43 : decode cX10_bitsOf 43 = .ok (.bipush 126, 2) := by decide +kernel
theorem dX10_bitsOf_45 : decode cX10_bitsOf 45 = .ok (.if_icmp .ge 22, 3) := by decide +kernel
theorem dX10_bitsOf_48 : decode cX10_bitsOf 48 = .ok (.fload_n 2, 1) := by decide +kernel
theorem dX10_bitsOf_49 : decode cX10_bitsOf 49 = .ok (.fconst 1, 1) := by decide +kernel
theorem dX10_bitsOf_50 : decode cX10_bitsOf 50 = .ok (.fcmp .g, 1) := by decide +kernel
theorem dX10_bitsOf_51 : decode cX10_bitsOf 51 = .ok (.ifCond .ge 16, 3) := by decide +kernel
theorem dX10_bitsOf_54 : decode cX10_bitsOf 54 = .ok (.fload_n 2, 1) := by decide +kernel
theorem dX10_bitsOf_55 : decode cX10_bitsOf 55 = .ok (.fconst 2, 1) := by decide +kernel
theorem dX10_bitsOf_56 : decode cX10_bitsOf 56 = .ok (.fmul, 1) := by decide +kernel
theorem dX10_bitsOf_57 : decode cX10_bitsOf 57 = .ok (.fstore_n 2, 1) := by decide +kernel
theorem dX10_bitsOf_58 : decode cX10_bitsOf 58 = .ok (.iinc 1 (-1), 3) := by decide +kernel
theorem dX10_bitsOf_61 : decode cX10_bitsOf 61 = .ok (.iinc 3 1, 3) := by decide +kernel
theorem dX10_bitsOf_64 : decode cX10_bitsOf 64 = .ok (.goto (-22), 3) := by decide +kernel
theorem dX10_bitsOf_67 : decode cX10_bitsOf 67 = .ok (.iload_n 1, 1) := by decide +kernel
theorem dX10_bitsOf_68 : decode cX10_bitsOf 68 = .ok (.bipush 23, 2) := by decide +kernel
theorem dX10_bitsOf_70 : decode cX10_bitsOf 70 = .ok (.ishl, 1) := by decide +kernel
theorem dX10_bitsOf_71 : decode cX10_bitsOf 71 = .ok (.fload_n 2, 1) := by decide +kernel
theorem dX10_bitsOf_72 : decode cX10_bitsOf 72 = .ok (.fconst 1, 1) := by decide +kernel
theorem dX10_bitsOf_73 : decode cX10_bitsOf 73 = .ok (.fsub, 1) := by decide +kernel
theorem dX10_bitsOf_74 : decode cX10_bitsOf 74 = .ok (.ldc_w 431, 3) := by decide +kernel
theorem dX10_bitsOf_77 : decode cX10_bitsOf 77 = .ok (.fmul, 1) := by decide +kernel
theorem dX10_bitsOf_78 : decode cX10_bitsOf 78 = .ok (.f2i, 1) := by decide +kernel
theorem dX10_bitsOf_79 : decode cX10_bitsOf 79 = .ok (.ior, 1) := by decide +kernel
theorem dX10_bitsOf_80 : decode cX10_bitsOf 80 = .ok (.ireturn, 1) := by decide +kernel
theorem dX10_isReachedBy_0 : decode cX10_isReachedBy 0 = .ok (.aload_n 0, 1) := by decide +kernel
theorem dX10_isReachedBy_1 : decode cX10_isReachedBy 1 = .ok (.iload_n 1, 1) := by decide +kernel
theorem dX10_isReachedBy_2 : decode cX10_isReachedBy 2 = .ok (.invokevirtual 305, 3) := by decide +kernel
theorem dX10_isReachedBy_5 : decode cX10_isReachedBy 5 = .ok (.istore_n 3, 1) := by decide +kernel
theorem dX10_isReachedBy_6 : decode cX10_isReachedBy 6 = .ok (.iload_n 3, 1) := by decide +kernel
theorem dX10_isReachedBy_7 : decode cX10_isReachedBy 7 = .ok (.ifCond .ne 5, 3) := by decide +kernel
theorem dX10_isReachedBy_10 : decode cX10_isReachedBy 10 = .ok (.iconst 1, 1) := by decide +kernel
theorem dX10_isReachedBy_11 : decode cX10_isReachedBy 11 = .ok (.ireturn, 1) := by decide +kernel
theorem dX10_isReachedBy_12 : decode cX10_isReachedBy 12 = .ok (.iload_n 3, 1) := by decide +kernel
theorem dX10_isReachedBy_13 : decode cX10_isReachedBy 13 = .ok (.iload_n 2, 1) := by decide +kernel
theorem dX10_isReachedBy_14 : decode cX10_isReachedBy 14 = .ok (.if_icmp .gt 8, 3) := by decide +kernel
theorem dX10_isReachedBy_17 : decode cX10_isReachedBy 17 = .ok (.iload_n 1, 1) := by decide +kernel
theorem dX10_isReachedBy_18 : decode cX10_isReachedBy 18 = .ok (.iconst 3, 1) := by decide +kernel
theorem dX10_isReachedBy_19 : decode cX10_isReachedBy 19 = .ok (.if_icmp .lt 5, 3) := by decide +kernel
theorem dX10_isReachedBy_22 : decode cX10_isReachedBy 22 = .ok (.iconst 0, 1) := by decide +kernel
theorem dX10_isReachedBy_23 : decode cX10_isReachedBy 23 = .ok (.ireturn, 1) := by decide +kernel
theorem dX10_isReachedBy_24 : decode cX10_isReachedBy 24 = .ok (.iconst 0, 1) := by decide +kernel
theorem dX10_isReachedBy_25 : decode cX10_isReachedBy 25 = .ok (.istore 4, 2) := by decide +kernel
theorem dX10_isReachedBy_27 : decode cX10_isReachedBy 27 = .ok (.iload 4, 2) := by decide +kernel
theorem dX10_isReachedBy_29 : decode cX10_isReachedBy 29 = .ok (.bipush 10, 2) := by decide +kernel
theorem dX10_isReachedBy_31 : decode cX10_isReachedBy 31 = .ok (.if_icmp .ge 34, 3) := by decide +kernel
theorem dX10_isReachedBy_34 : decode cX10_isReachedBy 34 = .ok (.aload_n 0, 1) := by decide +kernel
theorem dX10_isReachedBy_35 : decode cX10_isReachedBy 35 = .ok (.iload_n 1, 1) := by decide +kernel
theorem dX10_isReachedBy_36 : decode cX10_isReachedBy 36 = .ok (.iload 4, 2) := by decide +kernel
theorem dX10_isReachedBy_38 : decode cX10_isReachedBy 38 = .ok (.invokevirtual 432, 3) := by decide +kernel
theorem dX10_isReachedBy_41 : decode cX10_isReachedBy 41 = .ok (.ifCond .eq 18, 3) := by decide +kernel
theorem dX10_isReachedBy_44 : decode cX10_isReachedBy 44 = .ok (.aload_n 0, 1) := by decide +kernel
theorem dX10_isReachedBy_45 : decode cX10_isReachedBy 45 = .ok (.iload_n 1, 1) := by decide +kernel
theorem dX10_isReachedBy_46 : decode cX10_isReachedBy 46 = .ok (.iconst 1, 1) := by decide +kernel
theorem dX10_isReachedBy_47 : decode cX10_isReachedBy 47 = .ok (.iadd, 1) := by decide +kernel
theorem dX10_isReachedBy_48 : decode cX10_isReachedBy 48 = .ok (.iload_n 2, 1) := by decide +kernel
theorem dX10_isReachedBy_49 : decode cX10_isReachedBy 49 = .ok (.iconst 1, 1) := by decide +kernel
theorem dX10_isReachedBy_50 : decode cX10_isReachedBy 50 = .ok (.isub, 1) := by decide +kernel
theorem dX10_isReachedBy_51 : decode cX10_isReachedBy 51 = .ok (.invokestatic 308, 3) := by decide +kernel
theorem dX10_isReachedBy_54 : decode cX10_isReachedBy 54 = .ok (.ifCond .eq 5, 3) := by decide +kernel
theorem dX10_isReachedBy_57 : decode cX10_isReachedBy 57 = .ok (.iconst 1, 1) := by decide +kernel
theorem dX10_isReachedBy_58 : decode cX10_isReachedBy 58 = .ok (.ireturn, 1) := by decide +kernel
theorem dX10_isReachedBy_59 : decode cX10_isReachedBy 59 = .ok (.iinc 4 1, 3) := by decide +kernel
theorem dX10_isReachedBy_62 : decode cX10_isReachedBy 62 = .ok (.goto (-35), 3) := by decide +kernel
theorem dX10_isReachedBy_65 : decode cX10_isReachedBy 65 = .ok (.iconst 0, 1) := by decide +kernel
theorem dX10_isReachedBy_66 : decode cX10_isReachedBy 66 = .ok (.ireturn, 1) := by decide +kernel
theorem dX10_shortestRow_0 : decode cX10_shortestRow 0 = .ok (.aload_n 0, 1) := by decide +kernel
theorem dX10_shortestRow_1 : decode cX10_shortestRow 1 = .ok (.iload_n 1, 1) := by decide +kernel
theorem dX10_shortestRow_2 : decode cX10_shortestRow 2 = .ok (.invokevirtual 305, 3) := by decide +kernel
theorem dX10_shortestRow_5 : decode cX10_shortestRow 5 = .ok (.ifCond .ne 7, 3) := by decide +kernel
theorem dX10_shortestRow_8 : decode cX10_shortestRow 8 = .ok (.iload_n 1, 1) := by decide +kernel
theorem dX10_shortestRow_9 : decode cX10_shortestRow 9 = .ok (.goto 4, 3) := by decide +kernel
theorem dX10_shortestRow_12 : decode cX10_shortestRow 12 = .ok (.iconst 4, 1) := by decide +kernel
theorem dX10_shortestRow_13 : decode cX10_shortestRow 13 = .ok (.istore_n 2, 1) := by decide +kernel
theorem dX10_shortestRow_14 : decode cX10_shortestRow 14 = .ok (.iload_n 1, 1) := by decide +kernel
theorem dX10_shortestRow_15 : decode cX10_shortestRow 15 = .ok (.iconst 3, 1) := by decide +kernel
theorem dX10_shortestRow_16 : decode cX10_shortestRow 16 = .ok (.if_icmp .lt 5, 3) := by decide +kernel
theorem dX10_shortestRow_19 : decode cX10_shortestRow 19 = .ok (.iload_n 2, 1) := by decide +kernel
theorem dX10_shortestRow_20 : decode cX10_shortestRow 20 = .ok (.ireturn, 1) := by decide +kernel
theorem dX10_shortestRow_21 : decode cX10_shortestRow 21 = .ok (.iconst 0, 1) := by decide +kernel
theorem dX10_shortestRow_22 : decode cX10_shortestRow 22 = .ok (.istore_n 3, 1) := by decide +kernel
theorem dX10_shortestRow_23 : decode cX10_shortestRow 23 = .ok (.iload_n 3, 1) := by decide +kernel
theorem dX10_shortestRow_24 : decode cX10_shortestRow 24 = .ok (.bipush 10, 2) := by decide +kernel
theorem dX10_shortestRow_26 : decode cX10_shortestRow 26 = .ok (.if_icmp .ge 30, 3) := by decide +kernel
theorem dX10_shortestRow_29 : decode cX10_shortestRow 29 = .ok (.aload_n 0, 1) := by decide +kernel
theorem dX10_shortestRow_30 : decode cX10_shortestRow 30 = .ok (.iload_n 1, 1) := by decide +kernel
theorem dX10_shortestRow_31 : decode cX10_shortestRow 31 = .ok (.iload_n 3, 1) := by decide +kernel
theorem dX10_shortestRow_32 : decode cX10_shortestRow 32 = .ok (.invokevirtual 432, 3) := by decide +kernel
theorem dX10_shortestRow_35 : decode cX10_shortestRow 35 = .ok (.ifCond .eq 15, 3) := by decide +kernel
theorem dX10_shortestRow_38 : decode cX10_shortestRow 38 = .ok (.iload_n 2, 1) := by decide +kernel
theorem dX10_shortestRow_39 : decode cX10_shortestRow 39 = .ok (.aload_n 0, 1) := by decide +kernel
theorem dX10_shortestRow_40 : decode cX10_shortestRow 40 = .ok (.iload_n 1, 1) := by decide +kernel
theorem dX10_shortestRow_41 : decode cX10_shortestRow 41 = .ok (.iconst 1, 1) := by decide +kernel
theorem dX10_shortestRow_42 : decode cX10_shortestRow 42 = .ok (.iadd, 1) := by decide +kernel
theorem dX10_shortestRow_43 : decode cX10_shortestRow 43 = .ok (.invokestatic 312, 3) := by decide +kernel
theorem dX10_shortestRow_46 : decode cX10_shortestRow 46 = .ok (.invokestatic 147, 3) := by decide +kernel
theorem dX10_shortestRow_49 : decode cX10_shortestRow 49 = .ok (.istore_n 2, 1) := by decide +kernel
theorem dX10_shortestRow_50 : decode cX10_shortestRow 50 = .ok (.iinc 3 1, 3) := by decide +kernel
theorem dX10_shortestRow_53 : decode cX10_shortestRow 53 = .ok (.goto (-30), 3) := by decide +kernel
theorem dX10_shortestRow_56 : decode cX10_shortestRow 56 = .ok (.iload_n 2, 1) := by decide +kernel
theorem dX10_shortestRow_57 : decode cX10_shortestRow 57 = .ok (.ireturn, 1) := by decide +kernel
theorem dX11_init_0 : decode cX11_init 0 = .ok (.aload_n 0, 1) := by decide +kernel
theorem dX11_init_1 : decode cX11_init 1 = .ok (.invokespecial 1, 3) := by decide +kernel
theorem dX11_init_4 : decode cX11_init 4 = .ok (.aload_n 0, 1) := by decide +kernel
theorem dX11_init_5 : decode cX11_init 5 = .ok (.sipush 400, 3) := by decide +kernel
theorem dX11_init_8 : decode cX11_init 8 = .ok (.newarray .int, 2) := by decide +kernel
theorem dX11_init_10 : decode cX11_init 10 = .ok (.putfield 7, 3) := by decide +kernel
theorem dX11_init_13 : decode cX11_init 13 = .ok (.aload_n 0, 1) := by decide +kernel
theorem dX11_init_14 : decode cX11_init 14 = .ok (.sipush 400, 3) := by decide +kernel
theorem dX11_init_17 : decode cX11_init 17 = .ok (.newarray .int, 2) := by decide +kernel
theorem dX11_init_19 : decode cX11_init 19 = .ok (.putfield 13, 3) := by decide +kernel
theorem dX11_init_22 : decode cX11_init 22 = .ok (.aload_n 0, 1) := by decide +kernel
theorem dX11_init_23 : decode cX11_init 23 = .ok (.sipush 400, 3) := by decide +kernel
theorem dX11_init_26 : decode cX11_init 26 = .ok (.newarray .int, 2) := by decide +kernel
theorem dX11_init_28 : decode cX11_init 28 = .ok (.putfield 16, 3) := by decide +kernel
theorem dX11_init_31 : decode cX11_init 31 = .ok (.aload_n 0, 1) := by decide +kernel
theorem dX11_init_32 : decode cX11_init 32 = .ok (.sipush 400, 3) := by decide +kernel
theorem dX11_init_35 : decode cX11_init 35 = .ok (.newarray .int, 2) := by decide +kernel
theorem dX11_init_37 : decode cX11_init 37 = .ok (.putfield 19, 3) := by decide +kernel
theorem dX11_init_40 : decode cX11_init 40 = .ok (.aload_n 0, 1) := by decide +kernel
theorem dX11_init_41 : decode cX11_init 41 = .ok (.bipush 10, 2) := by decide +kernel
theorem dX11_init_43 : decode cX11_init 43 = .ok (.putfield 22, 3) := by decide +kernel
theorem dX11_init_46 : decode cX11_init 46 = .ok (.aload_n 0, 1) := by decide +kernel
theorem dX11_init_47 : decode cX11_init 47 = .ok (.bipush 10, 2) := by decide +kernel
theorem dX11_init_49 : decode cX11_init 49 = .ok (.putfield 26, 3) := by decide +kernel
theorem dX11_init_52 : decode cX11_init 52 = .ok (.aload_n 0, 1) := by decide +kernel
theorem dX11_init_53 : decode cX11_init 53 = .ok (.sipush 1000, 3) := by decide +kernel
theorem dX11_init_56 : decode cX11_init 56 = .ok (.putfield 29, 3) := by decide +kernel
theorem dX11_init_59 : decode cX11_init 59 = .ok (.aload_n 0, 1) := by decide +kernel
theorem dX11_init_60 : decode cX11_init 60 = .ok (.bipush 6, 2) := by decide +kernel
theorem dX11_init_62 : decode cX11_init 62 = .ok (.newarray .int, 2) := by decide +kernel
theorem dX11_init_64 : decode cX11_init 64 = .ok (.putfield 32, 3) := by decide +kernel
theorem dX11_init_67 : decode cX11_init 67 = .ok (.aload_n 0, 1) := by decide +kernel
theorem dX11_init_68 : decode cX11_init 68 = .ok (.bipush 6, 2) := by decide +kernel
theorem dX11_init_70 : decode cX11_init 70 = .ok (.newarray .int, 2) := by decide +kernel
theorem dX11_init_72 : decode cX11_init 72 = .ok (.putfield 35, 3) := by decide +kernel
theorem dX11_init_75 : decode cX11_init 75 = .ok (.aload_n 0, 1) := by decide +kernel
theorem dX11_init_76 : decode cX11_init 76 = .ok (.bipush 6, 2) := by decide +kernel
theorem dX11_init_78 : decode cX11_init 78 = .ok (.newarray .int, 2) := by decide +kernel
theorem dX11_init_80 : decode cX11_init 80 = .ok (.putfield 38, 3) := by decide +kernel
theorem dX11_init_83 : decode cX11_init 83 = .ok (.aload_n 0, 1) := by decide +kernel
theorem dX11_init_84 : decode cX11_init 84 = .ok (.bipush 6, 2) := by decide +kernel
theorem dX11_init_86 : decode cX11_init 86 = .ok (.newarray .int, 2) := by decide +kernel
theorem dX11_init_88 : decode cX11_init 88 = .ok (.putfield 41, 3) := by decide +kernel
theorem dX11_init_91 : decode cX11_init 91 = .ok (.aload_n 0, 1) := by decide +kernel
theorem dX11_init_92 : decode cX11_init 92 = .ok (.bipush 6, 2) := by decide +kernel
theorem dX11_init_94 : decode cX11_init 94 = .ok (.newarray .int, 2) := by decide +kernel
theorem dX11_init_96 : decode cX11_init 96 = .ok (.putfield 44, 3) := by decide +kernel
theorem dX11_init_99 : decode cX11_init 99 = .ok (.aload_n 0, 1) := by decide +kernel
theorem dX11_init_100 : decode cX11_init 100 = .ok (.sipush 160, 3) := by decide +kernel
theorem dX11_init_103 : decode cX11_init 103 = .ok (.newarray .int, 2) := by decide +kernel
theorem dX11_init_105 : decode cX11_init 105 = .ok (.putfield 47, 3) := by decide +kernel
theorem dX11_init_108 : decode cX11_init 108 = .ok (.aload_n 0, 1) := by decide +kernel
theorem dX11_init_109 : decode cX11_init 109 = .ok (.bipush 40, 2) := by decide +kernel
theorem dX11_init_111 : decode cX11_init 111 = .ok (.newarray .int, 2) := by decide +kernel
theorem dX11_init_113 : decode cX11_init 113 = .ok (.putfield 50, 3) := by decide +kernel
theorem dX11_init_116 : decode cX11_init 116 = .ok (.aload_n 0, 1) := by decide +kernel
theorem dX11_init_117 : decode cX11_init 117 = .ok (.bipush 7, 2) := by decide +kernel
theorem dX11_init_119 : decode cX11_init 119 = .ok (.newarray .int, 2) := by decide +kernel
theorem dX11_init_121 : decode cX11_init 121 = .ok (.putfield 53, 3) := by decide +kernel
theorem dX11_init_124 : decode cX11_init 124 = .ok (.iconst 0, 1) := by decide +kernel
theorem dX11_init_125 : decode cX11_init 125 = .ok (.istore_n 1, 1) := by decide +kernel
theorem dX11_init_126 : decode cX11_init 126 = .ok (.iload_n 1, 1) := by decide +kernel
theorem dX11_init_127 : decode cX11_init 127 = .ok (.sipush 400, 3) := by decide +kernel
theorem dX11_init_130 : decode cX11_init 130 = .ok (.if_icmp .ge 25, 3) := by decide +kernel
theorem dX11_init_133 : decode cX11_init 133 = .ok (.aload_n 0, 1) := by decide +kernel
theorem dX11_init_134 : decode cX11_init 134 = .ok (.getfield 13, 3) := by decide +kernel
theorem dX11_init_137 : decode cX11_init 137 = .ok (.iload_n 1, 1) := by decide +kernel
theorem dX11_init_138 : decode cX11_init 138 = .ok (.bipush 99, 2) := by decide +kernel
theorem dX11_init_140 : decode cX11_init 140 = .ok (.iastore, 1) := by decide +kernel
theorem dX11_init_141 : decode cX11_init 141 = .ok (.aload_n 0, 1) := by decide +kernel
theorem dX11_init_142 : decode cX11_init 142 = .ok (.getfield 16, 3) := by decide +kernel
theorem dX11_init_145 : decode cX11_init 145 = .ok (.iload_n 1, 1) := by decide +kernel
theorem dX11_init_146 : decode cX11_init 146 = .ok (.bipush 9, 2) := by decide +kernel
theorem dX11_init_148 : decode cX11_init 148 = .ok (.iastore, 1) := by decide +kernel
theorem dX11_init_149 : decode cX11_init 149 = .ok (.iinc 1 1, 3) := by decide +kernel
theorem dX11_init_152 : decode cX11_init 152 = .ok (.goto (-26), 3) := by decide +kernel
theorem dX11_init_155 : decode cX11_init 155 = .ok (.return_, 1) := by decide +kernel
theorem dX11_thrown_0 : decode cX11_thrown 0 = .ok (.aload_n 0, 1) := by decide +kernel
theorem dX11_thrown_1 : decode cX11_thrown 1 = .ok (.getfield 56, 3) := by decide +kernel
theorem dX11_thrown_4 : decode cX11_thrown 4 = .ok (.ireturn, 1) := by decide +kernel
theorem dX11_fails_0 : decode cX11_fails 0 = .ok (.aload_n 0, 1) := by decide +kernel
theorem dX11_fails_1 : decode cX11_fails 1 = .ok (.iload_n 1, 1) := by decide +kernel
theorem dX11_fails_2 : decode cX11_fails 2 = .ok (.putfield 56, 3) := by decide +kernel
theorem dX11_fails_5 : decode cX11_fails 5 = .ok (.iload_n 1, 1) := by decide +kernel
theorem dX11_fails_6 : decode cX11_fails 6 = .ok (.ifCond .le 7, 3) := by decide +kernel
theorem dX11_fails_9 : decode cX11_fails 9 = .ok (.iconst 1, 1) := by decide +kernel
theorem dX11_fails_10 : decode cX11_fails 10 = .ok (.goto 4, 3) := by decide +kernel
theorem dX11_fails_13 : decode cX11_fails 13 = .ok (.iconst 0, 1) := by decide +kernel
theorem dX11_fails_14 : decode cX11_fails 14 = .ok (.ireturn, 1) := by decide +kernel
theorem dX11_isIn_0 : decode cX11_isIn 0 = .ok (.iload_n 0, 1) := by decide +kernel
theorem dX11_isIn_1 : decode cX11_isIn 1 = .ok (.iload_n 1, 1) := by decide +kernel
theorem dX11_isIn_2 : decode cX11_isIn 2 = .ok (.if_icmp .lt 12, 3) := by decide +kernel
theorem dX11_isIn_5 : decode cX11_isIn 5 = .ok (.iload_n 0, 1) := by decide +kernel
theorem dX11_isIn_6 : decode cX11_isIn 6 = .ok (.iload_n 2, 1) := by decide +kernel
theorem dX11_isIn_7 : decode cX11_isIn 7 = .ok (.if_icmp .gt 7, 3) := by decide +kernel
theorem dX11_isIn_10 : decode cX11_isIn 10 = .ok (.iconst 1, 1) := by decide +kernel
theorem dX11_isIn_11 : decode cX11_isIn 11 = .ok (.goto 4, 3) := by decide +kernel
theorem dX11_isIn_14 : decode cX11_isIn 14 = .ok (.iconst 0, 1) := by decide +kernel
theorem dX11_isIn_15 : decode cX11_isIn 15 = .ok (.ireturn, 1) := by decide +kernel
theorem dX11_isPoint_0 : decode cX11_isPoint 0 = .ok (.iload_n 0, 1) := by decide +kernel
theorem dX11_isPoint_1 : decode cX11_isPoint 1 = .ok (.iconst 0, 1) := by decide +kernel
theorem dX11_isPoint_2 : decode cX11_isPoint 2 = .ok (.bipush 19, 2) := by decide +kernel
theorem dX11_isPoint_4 : decode cX11_isPoint 4 = .ok (.invokestatic 59, 3) := by decide +kernel
theorem dX11_isPoint_7 : decode cX11_isPoint 7 = .ok (.ifCond .eq 17, 3) := by decide +kernel
theorem dX11_isPoint_10 : decode cX11_isPoint 10 = .ok (.iload_n 1, 1) := by decide +kernel
theorem dX11_isPoint_11 : decode cX11_isPoint 11 = .ok (.iconst 0, 1) := by decide +kernel
theorem dX11_isPoint_12 : decode cX11_isPoint 12 = .ok (.bipush 19, 2) := by decide +kernel
theorem dX11_isPoint_14 : decode cX11_isPoint 14 = .ok (.invokestatic 59, 3) := by decide +kernel
theorem dX11_isPoint_17 : decode cX11_isPoint 17 = .ok (.ifCond .eq 7, 3) := by decide +kernel
theorem dX11_isPoint_20 : decode cX11_isPoint 20 = .ok (.iconst 1, 1) := by decide +kernel
theorem dX11_isPoint_21 : decode cX11_isPoint 21 = .ok (.goto 4, 3) := by decide +kernel
theorem dX11_isPoint_24 : decode cX11_isPoint 24 = .ok (.iconst 0, 1) := by decide +kernel
theorem dX11_isPoint_25 : decode cX11_isPoint 25 = .ok (.ireturn, 1) := by decide +kernel
theorem dX11_at_0 : decode cX11_at 0 = .ok (.bipush 20, 2) := by decide +kernel
theorem dX11_at_2 : decode cX11_at 2 = .ok (.iload_n 1, 1) := by decide +kernel
theorem dX11_at_3 : decode cX11_at 3 = .ok (.imul, 1) := by decide +kernel
theorem dX11_at_4 : decode cX11_at 4 = .ok (.iload_n 0, 1) := by decide +kernel
theorem dX11_at_5 : decode cX11_at 5 = .ok (.iadd, 1) := by decide +kernel
theorem dX11_at_6 : decode cX11_at 6 = .ok (.ireturn, 1) := by decide +kernel
theorem dX11_isLeg_0 : decode cX11_isLeg 0 = .ok (.iload_n 1, 1) := by decide +kernel
theorem dX11_isLeg_1 : decode cX11_isLeg 1 = .ok (.iconst 0, 1) := by decide +kernel
theorem dX11_isLeg_2 : decode cX11_isLeg 2 = .ok (.aload_n 0, 1) := by decide +kernel
theorem dX11_isLeg_3 : decode cX11_isLeg 3 = .ok (.getfield 63, 3) := by decide +kernel
theorem dX11_isLeg_6 : decode cX11_isLeg 6 = .ok (.iconst 1, 1) := by decide +kernel
theorem dX11_isLeg_7 : decode cX11_isLeg 7 = .ok (.isub, 1) := by decide +kernel
theorem dX11_isLeg_8 : decode cX11_isLeg 8 = .ok (.invokestatic 59, 3) := by decide +kernel
theorem dX11_isLeg_11 : decode cX11_isLeg 11 = .ok (.ireturn, 1) := by decide +kernel
theorem dX11_isDown_0 : decode cX11_isDown 0 = .ok (.aload_n 0, 1) := by decide +kernel
theorem dX11_isDown_1 : decode cX11_isDown 1 = .ok (.getfield 66, 3) := by decide +kernel
theorem dX11_isDown_4 : decode cX11_isDown 4 = .ok (.iload_n 1, 1) := by decide +kernel
theorem dX11_isDown_5 : decode cX11_isDown 5 = .ok (.ishr, 1) := by decide +kernel
theorem dX11_isDown_6 : decode cX11_isDown 6 = .ok (.iconst 1, 1) := by decide +kernel
theorem dX11_isDown_7 : decode cX11_isDown 7 = .ok (.iand, 1) := by decide +kernel
theorem dX11_isDown_8 : decode cX11_isDown 8 = .ok (.iconst 1, 1) := by decide +kernel
theorem dX11_isDown_9 : decode cX11_isDown 9 = .ok (.if_icmp .ne 7, 3) := by decide +kernel
theorem dX11_isDown_12 : decode cX11_isDown 12 = .ok (.iconst 1, 1) := by decide +kernel
theorem dX11_isDown_13 : decode cX11_isDown 13 = .ok (.goto 4, 3) := by decide +kernel
theorem dX11_isDown_16 : decode cX11_isDown 16 = .ok (.iconst 0, 1) := by decide +kernel
theorem dX11_isDown_17 : decode cX11_isDown 17 = .ok (.ireturn, 1) := by decide +kernel
theorem dX11_count_0 : decode cX11_count 0 = .ok (.iconst 0, 1) := by decide +kernel
theorem dX11_count_1 : decode cX11_count 1 = .ok (.istore_n 1, 1) := by decide +kernel
theorem dX11_count_2 : decode cX11_count 2 = .ok (.iconst 0, 1) := by decide +kernel
theorem dX11_count_3 : decode cX11_count 3 = .ok (.istore_n 2, 1) := by decide +kernel
theorem dX11_count_4 : decode cX11_count 4 = .ok (.iload_n 2, 1) := by decide +kernel
theorem dX11_count_5 : decode cX11_count 5 = .ok (.bipush 6, 2) := by decide +kernel
theorem dX11_count_7 : decode cX11_count 7 = .ok (.if_icmp .ge 17, 3) := by decide +kernel
theorem dX11_count_10 : decode cX11_count 10 = .ok (.iload_n 1, 1) := by decide +kernel
theorem dX11_count_11 : decode cX11_count 11 = .ok (.iload_n 0, 1) := by decide +kernel
theorem dX11_count_12 : decode cX11_count 12 = .ok (.iload_n 2, 1) := by decide +kernel
theorem dX11_count_13 : decode cX11_count 13 = .ok (.ishr, 1) := by decide +kernel
theorem dX11_count_14 : decode cX11_count 14 = .ok (.iconst 1, 1) := by decide +kernel
theorem dX11_count_15 : decode cX11_count 15 = .ok (.iand, 1) := by decide +kernel
theorem dX11_count_16 : decode cX11_count 16 = .ok (.iadd, 1) := by decide +kernel
theorem dX11_count_17 : decode cX11_count 17 = .ok (.istore_n 1, 1) := by decide +kernel
theorem dX11_count_18 : decode cX11_count 18 = .ok (.iinc 2 1, 3) := by decide +kernel
theorem dX11_count_21 : decode cX11_count 21 = .ok (.goto (-17), 3) := by decide +kernel
theorem dX11_count_24 : decode cX11_count 24 = .ok (.iload_n 1, 1) := by decide +kernel
theorem dX11_count_25 : decode cX11_count 25 = .ok (.ireturn, 1) := by decide +kernel
theorem dX11_ground_0 : decode cX11_ground 0 = .ok (.iload_n 1, 1) := by decide +kernel
theorem dX11_ground_1 : decode cX11_ground 1 = .ok (.iload_n 2, 1) := by decide +kernel
theorem dX11_ground_2 : decode cX11_ground 2 = .ok (.invokestatic 69, 3) := by decide +kernel
theorem dX11_ground_5 : decode cX11_ground 5 = .ok (.ifCond .eq 39, 3) := by decide +kernel
theorem dX11_ground_8 : decode cX11_ground 8 = .ok (.iload_n 3, 1) := by decide +kernel
theorem dX11_ground_9 : decode cX11_ground 9 = .ok (.iconst 0, 1) := by decide +kernel
theorem dX11_ground_10 : decode cX11_ground 10 = .ok (.bipush 9, 2) := by decide +kernel
theorem dX11_ground_12 : decode cX11_ground 12 = .ok (.invokestatic 59, 3) := by decide +kernel
theorem dX11_ground_15 : decode cX11_ground 15 = .ok (.ifCond .eq 29, 3) := by decide +kernel
theorem dX11_ground_18 : decode cX11_ground 18 = .ok (.iload 4, 2) := by decide +kernel
theorem dX11_ground_20 : decode cX11_ground 20 = .ok (.iconst 0, 1) := by decide +kernel
theorem dX11_ground_21 : decode cX11_ground 21 = .ok (.bipush 99, 2) := by decide +kernel
theorem dX11_ground_23 : decode cX11_ground 23 = .ok (.invokestatic 59, 3) := by decide +kernel
theorem dX11_ground_26 : decode cX11_ground 26 = .ok (.ifCond .eq 18, 3) := by decide +kernel
theorem dX11_ground_29 : decode cX11_ground 29 = .ok (.iload 5, 2) := by decide +kernel
theorem dX11_ground_31 : decode cX11_ground 31 = .ok (.iconst 0, 1) := by decide +kernel
theorem dX11_ground_32 : decode cX11_ground 32 = .ok (.bipush 9, 2) := by decide +kernel
theorem dX11_ground_34 : decode cX11_ground 34 = .ok (.invokestatic 59, 3) := by decide +kernel
theorem dX11_ground_37 : decode cX11_ground 37 = .ok (.ifCond .eq 7, 3) := by decide +kernel
theorem dX11_ground_40 : decode cX11_ground 40 = .ok (.iconst 1, 1) := by decide +kernel
theorem dX11_ground_41 : decode cX11_ground 41 = .ok (.goto 4, 3) := by decide +kernel
theorem dX11_ground_44 : decode cX11_ground 44 = .ok (.iconst 0, 1) := by decide +kernel
theorem dX11_ground_45 : decode cX11_ground 45 = .ok (.istore 6, 2) := by decide +kernel
theorem dX11_ground_47 : decode cX11_ground 47 = .ok (.aload_n 0, 1) := by decide +kernel
theorem dX11_ground_48 : decode cX11_ground 48 = .ok (.iload 6, 2) := by decide +kernel
theorem dX11_ground_50 : decode cX11_ground 50 = .ok (.ifCond .ne 7, 3) := by decide +kernel
theorem dX11_ground_53 : decode cX11_ground 53 = .ok (.iconst 1, 1) := by decide +kernel
theorem dX11_ground_54 : decode cX11_ground 54 = .ok (.goto 18, 3) := by decide +kernel
theorem dX11_ground_57 : decode cX11_ground 57 = .ok (.aload_n 0, 1) := by decide +kernel
theorem dX11_ground_58 : decode cX11_ground 58 = .ok (.iload_n 1, 1) := by decide +kernel
theorem dX11_ground_59 : decode cX11_ground 59 = .ok (.iload_n 2, 1) := by decide +kernel
theorem dX11_ground_60 : decode cX11_ground 60 = .ok (.invokevirtual 73, 3) := by decide +kernel
theorem dX11_ground_63 : decode cX11_ground 63 = .ok (.iconst (-1), 1) := by decide +kernel
theorem dX11_ground_64 : decode cX11_ground 64 = .ok (.if_icmp .eq 7, 3) := by decide +kernel
theorem dX11_ground_67 : decode cX11_ground 67 = .ok (.iconst 2, 1) := by decide +kernel
theorem dX11_ground_68 : decode cX11_ground 68 = .ok (.goto 4, 3) := by decide +kernel
theorem dX11_ground_71 : decode cX11_ground 71 = .ok (.iconst 0, 1) := by decide +kernel
theorem dX11_ground_72 : decode cX11_ground 72 = .ok (.invokevirtual 77, 3) := by decide +kernel
theorem dX11_ground_75 : decode cX11_ground 75 = .ok (.ifCond .eq 5, 3) := by decide +kernel
theorem dX11_ground_78 : decode cX11_ground 78 = .ok (.iconst 0, 1) := by decide +kernel
theorem dX11_ground_79 : decode cX11_ground 79 = .ok (.ireturn, 1) := by decide +kernel
theorem dX11_ground_80 : decode cX11_ground 80 = .ok (.aload_n 0, 1) := by decide +kernel
theorem dX11_ground_81 : decode cX11_ground 81 = .ok (.getfield 7, 3) := by decide +kernel
theorem dX11_ground_84 : decode cX11_ground 84 = .ok (.iload_n 1, 1) := by decide +kernel
theorem dX11_ground_85 : decode cX11_ground 85 = .ok (.iload_n 2, 1) := by decide +kernel
theorem dX11_ground_86 : decode cX11_ground 86 = .ok (.invokestatic 81, 3) := by decide +kernel
theorem dX11_ground_89 : decode cX11_ground 89 = .ok (.iaload, 1) := by decide +kernel
theorem dX11_ground_90 : decode cX11_ground 90 = .ok (.istore 7, 2) := by decide +kernel
theorem dX11_ground_92 : decode cX11_ground 92 = .ok (.aload_n 0, 1) := by decide +kernel
theorem dX11_ground_93 : decode cX11_ground 93 = .ok (.getfield 7, 3) := by decide +kernel
theorem dX11_ground_96 : decode cX11_ground 96 = .ok (.iload_n 1, 1) := by decide +kernel
theorem dX11_ground_97 : decode cX11_ground 97 = .ok (.iload_n 2, 1) := by decide +kernel
theorem dX11_ground_98 : decode cX11_ground 98 = .ok (.invokestatic 81, 3) := by decide +kernel
theorem dX11_ground_101 : decode cX11_ground 101 = .ok (.iload_n 3, 1) := by decide +kernel
theorem dX11_ground_102 : decode cX11_ground 102 = .ok (.iastore, 1) := by decide +kernel
theorem dX11_ground_103 : decode cX11_ground 103 = .ok (.aload_n 0, 1) := by decide +kernel
theorem dX11_ground_104 : decode cX11_ground 104 = .ok (.getfield 13, 3) := by decide +kernel
theorem dX11_ground_107 : decode cX11_ground 107 = .ok (.iload_n 1, 1) := by decide +kernel
theorem dX11_ground_108 : decode cX11_ground 108 = .ok (.iload_n 2, 1) := by decide +kernel
theorem dX11_ground_109 : decode cX11_ground 109 = .ok (.invokestatic 81, 3) := by decide +kernel
theorem dX11_ground_112 : decode cX11_ground 112 = .ok (.iload 4, 2) := by decide +kernel
theorem dX11_ground_114 : decode cX11_ground 114 = .ok (.iastore, 1) := by decide +kernel
theorem dX11_ground_115 : decode cX11_ground 115 = .ok (.aload_n 0, 1) := by decide +kernel
theorem dX11_ground_116 : decode cX11_ground 116 = .ok (.getfield 16, 3) := by decide +kernel
theorem dX11_ground_119 : decode cX11_ground 119 = .ok (.iload_n 1, 1) := by decide +kernel
theorem dX11_ground_120 : decode cX11_ground 120 = .ok (.iload_n 2, 1) := by decide +kernel
theorem dX11_ground_121 : decode cX11_ground 121 = .ok (.invokestatic 81, 3) := by decide +kernel
theorem dX11_ground_124 : decode cX11_ground 124 = .ok (.iload 5, 2) := by decide +kernel
theorem dX11_ground_126 : decode cX11_ground 126 = .ok (.iastore, 1) := by decide +kernel
theorem dX11_ground_127 : decode cX11_ground 127 = .ok (.iload 7, 2) := by decide +kernel
theorem dX11_ground_129 : decode cX11_ground 129 = .ok (.ireturn, 1) := by decide +kernel
theorem dX11_chart_0 : decode cX11_chart 0 = .ok (.aload_n 0, 1) := by decide +kernel
theorem dX11_chart_1 : decode cX11_chart 1 = .ok (.iload_n 1, 1) := by decide +kernel
theorem dX11_chart_2 : decode cX11_chart 2 = .ok (.iload_n 2, 1) := by decide +kernel
theorem dX11_chart_3 : decode cX11_chart 3 = .ok (.invokestatic 69, 3) := by decide +kernel
theorem dX11_chart_6 : decode cX11_chart 6 = .ok (.ifCond .eq 17, 3) := by decide +kernel
theorem dX11_chart_9 : decode cX11_chart 9 = .ok (.iload_n 3, 1) := by decide +kernel
theorem dX11_chart_10 : decode cX11_chart 10 = .ok (.iconst 0, 1) := by decide +kernel
theorem dX11_chart_11 : decode cX11_chart 11 = .ok (.bipush 9, 2) := by decide +kernel
theorem dX11_chart_13 : decode cX11_chart 13 = .ok (.invokestatic 59, 3) := by decide +kernel
theorem dX11_chart_16 : decode cX11_chart 16 = .ok (.ifCond .eq 7, 3) := by decide +kernel
theorem dX11_chart_19 : decode cX11_chart 19 = .ok (.iconst 0, 1) := by decide +kernel
theorem dX11_chart_20 : decode cX11_chart 20 = .ok (.goto 4, 3) := by decide +kernel
theorem dX11_chart_23 : decode cX11_chart 23 = .ok (.iconst 1, 1) := by decide +kernel
theorem dX11_chart_24 : decode cX11_chart 24 = .ok (.invokevirtual 77, 3) := by decide +kernel
theorem dX11_chart_27 : decode cX11_chart 27 = .ok (.ifCond .eq 5, 3) := by decide +kernel
theorem dX11_chart_30 : decode cX11_chart 30 = .ok (.iconst 0, 1) := by decide +kernel
theorem dX11_chart_31 : decode cX11_chart 31 = .ok (.ireturn, 1) := by decide +kernel
theorem dX11_chart_32 : decode cX11_chart 32 = .ok (.aload_n 0, 1) := by decide +kernel
theorem dX11_chart_33 : decode cX11_chart 33 = .ok (.getfield 19, 3) := by decide +kernel
theorem dX11_chart_36 : decode cX11_chart 36 = .ok (.iload_n 1, 1) := by decide +kernel
theorem dX11_chart_37 : decode cX11_chart 37 = .ok (.iload_n 2, 1) := by decide +kernel
theorem dX11_chart_38 : decode cX11_chart 38 = .ok (.invokestatic 81, 3) := by decide +kernel
theorem dX11_chart_41 : decode cX11_chart 41 = .ok (.iaload, 1) := by decide +kernel
theorem dX11_chart_42 : decode cX11_chart 42 = .ok (.istore 4, 2) := by decide +kernel
theorem dX11_chart_44 : decode cX11_chart 44 = .ok (.aload_n 0, 1) := by decide +kernel
theorem dX11_chart_45 : decode cX11_chart 45 = .ok (.getfield 19, 3) := by decide +kernel
theorem dX11_chart_48 : decode cX11_chart 48 = .ok (.iload_n 1, 1) := by decide +kernel
theorem dX11_chart_49 : decode cX11_chart 49 = .ok (.iload_n 2, 1) := by decide +kernel
theorem dX11_chart_50 : decode cX11_chart 50 = .ok (.invokestatic 81, 3) := by decide +kernel
theorem dX11_chart_53 : decode cX11_chart 53 = .ok (.iload_n 3, 1) := by decide +kernel
theorem dX11_chart_54 : decode cX11_chart 54 = .ok (.iastore, 1) := by decide +kernel
theorem dX11_chart_55 : decode cX11_chart 55 = .ok (.iload 4, 2) := by decide +kernel
theorem dX11_chart_57 : decode cX11_chart 57 = .ok (.ireturn, 1) := by decide +kernel
theorem dX11_leg_0 : decode cX11_leg 0 = .ok (.iload_n 1, 1) := by decide +kernel
theorem dX11_leg_1 : decode cX11_leg 1 = .ok (.bipush (-5), 2) := by decide +kernel
theorem dX11_leg_3 : decode cX11_leg 3 = .ok (.iconst 5, 1) := by decide +kernel
theorem dX11_leg_4 : decode cX11_leg 4 = .ok (.invokestatic 59, 3) := by decide +kernel
theorem dX11_leg_7 : decode cX11_leg 7 = .ok (.ifCond .eq 27, 3) := by decide +kernel
theorem dX11_leg_10 : decode cX11_leg 10 = .ok (.iload_n 2, 1) := by decide +kernel
theorem dX11_leg_11 : decode cX11_leg 11 = .ok (.bipush (-5), 2) := by decide +kernel
theorem dX11_leg_13 : decode cX11_leg 13 = .ok (.iconst 5, 1) := by decide +kernel
theorem dX11_leg_14 : decode cX11_leg 14 = .ok (.invokestatic 59, 3) := by decide +kernel
theorem dX11_leg_17 : decode cX11_leg 17 = .ok (.ifCond .eq 17, 3) := by decide +kernel
theorem dX11_leg_20 : decode cX11_leg 20 = .ok (.iload_n 3, 1) := by decide +kernel
theorem dX11_leg_21 : decode cX11_leg 21 = .ok (.iconst 1, 1) := by decide +kernel
theorem dX11_leg_22 : decode cX11_leg 22 = .ok (.bipush 6, 2) := by decide +kernel
theorem dX11_leg_24 : decode cX11_leg 24 = .ok (.invokestatic 59, 3) := by decide +kernel
theorem dX11_leg_27 : decode cX11_leg 27 = .ok (.ifCond .eq 7, 3) := by decide +kernel
theorem dX11_leg_30 : decode cX11_leg 30 = .ok (.iconst 1, 1) := by decide +kernel
theorem dX11_leg_31 : decode cX11_leg 31 = .ok (.goto 4, 3) := by decide +kernel
theorem dX11_leg_34 : decode cX11_leg 34 = .ok (.iconst 0, 1) := by decide +kernel
theorem dX11_leg_35 : decode cX11_leg 35 = .ok (.istore 4, 2) := by decide +kernel
theorem dX11_leg_37 : decode cX11_leg 37 = .ok (.aload_n 0, 1) := by decide +kernel
theorem dX11_leg_38 : decode cX11_leg 38 = .ok (.iload 4, 2) := by decide +kernel
theorem dX11_leg_40 : decode cX11_leg 40 = .ok (.ifCond .ne 7, 3) := by decide +kernel
theorem dX11_leg_43 : decode cX11_leg 43 = .ok (.iconst 1, 1) := by decide +kernel
theorem dX11_leg_44 : decode cX11_leg 44 = .ok (.goto 24, 3) := by decide +kernel
theorem dX11_leg_47 : decode cX11_leg 47 = .ok (.aload_n 0, 1) := by decide +kernel
theorem dX11_leg_48 : decode cX11_leg 48 = .ok (.getfield 63, 3) := by decide +kernel
theorem dX11_leg_51 : decode cX11_leg 51 = .ok (.bipush 6, 2) := by decide +kernel
theorem dX11_leg_53 : decode cX11_leg 53 = .ok (.if_icmp .eq 10, 3) := by decide +kernel
theorem dX11_leg_56 : decode cX11_leg 56 = .ok (.aload_n 0, 1) := by decide +kernel
theorem dX11_leg_57 : decode cX11_leg 57 = .ok (.getfield 84, 3) := by decide +kernel
theorem dX11_leg_60 : decode cX11_leg 60 = .ok (.ifCond .eq 7, 3) := by decide +kernel
theorem dX11_leg_63 : decode cX11_leg 63 = .ok (.iconst 2, 1) := by decide +kernel
theorem dX11_leg_64 : decode cX11_leg 64 = .ok (.goto 4, 3) := by decide +kernel
theorem dX11_leg_67 : decode cX11_leg 67 = .ok (.iconst 0, 1) := by decide +kernel
theorem dX11_leg_68 : decode cX11_leg 68 = .ok (.invokevirtual 77, 3) := by decide +kernel
theorem dX11_leg_71 : decode cX11_leg 71 = .ok (.ifCond .eq 5, 3) := by decide +kernel
theorem dX11_leg_74 : decode cX11_leg 74 = .ok (.iconst 0, 1) := by decide +kernel
theorem dX11_leg_75 : decode cX11_leg 75 = .ok (.ireturn, 1) := by decide +kernel
theorem dX11_leg_76 : decode cX11_leg 76 = .ok (.aload_n 0, 1) := by decide +kernel
theorem dX11_leg_77 : decode cX11_leg 77 = .ok (.getfield 32, 3) := by decide +kernel
theorem dX11_leg_80 : decode cX11_leg 80 = .ok (.aload_n 0, 1) := by decide +kernel
theorem dX11_leg_81 : decode cX11_leg 81 = .ok (.getfield 63, 3) := by decide +kernel
theorem dX11_leg_84 : decode cX11_leg 84 = .ok (.iload_n 1, 1) := by decide +kernel
theorem dX11_leg_85 : decode cX11_leg 85 = .ok (.iastore, 1) := by decide +kernel
theorem dX11_leg_86 : decode cX11_leg 86 = .ok (.aload_n 0, 1) := by decide +kernel
theorem dX11_leg_87 : decode cX11_leg 87 = .ok (.getfield 35, 3) := by decide +kernel
theorem dX11_leg_90 : decode cX11_leg 90 = .ok (.aload_n 0, 1) := by decide +kernel
theorem dX11_leg_91 : decode cX11_leg 91 = .ok (.getfield 63, 3) := by decide +kernel
theorem dX11_leg_94 : decode cX11_leg 94 = .ok (.iload_n 2, 1) := by decide +kernel
theorem dX11_leg_95 : decode cX11_leg 95 = .ok (.iastore, 1) := by decide +kernel
theorem dX11_leg_96 : decode cX11_leg 96 = .ok (.aload_n 0, 1) := by decide +kernel
theorem dX11_leg_97 : decode cX11_leg 97 = .ok (.getfield 38, 3) := by decide +kernel
theorem dX11_leg_100 : decode cX11_leg 100 = .ok (.aload_n 0, 1) := by decide +kernel
theorem dX11_leg_101 : decode cX11_leg 101 = .ok (.getfield 63, 3) := by decide +kernel
theorem dX11_leg_104 : decode cX11_leg 104 = .ok (.iload_n 3, 1) := by decide +kernel
theorem dX11_leg_105 : decode cX11_leg 105 = .ok (.iastore, 1) := by decide +kernel
theorem dX11_leg_106 : decode cX11_leg 106 = .ok (.aload_n 0, 1) := by decide +kernel
theorem dX11_leg_107 : decode cX11_leg 107 = .ok (.dup, 1) := by decide +kernel
theorem dX11_leg_108 : decode cX11_leg 108 = .ok (.getfield 63, 3) := by decide +kernel
theorem dX11_leg_111 : decode cX11_leg 111 = .ok (.iconst 1, 1) := by decide +kernel
theorem dX11_leg_112 : decode cX11_leg 112 = .ok (.iadd, 1) := by decide +kernel
theorem dX11_leg_113 : decode cX11_leg 113 = .ok (.putfield 63, 3) := by decide +kernel
theorem dX11_leg_116 : decode cX11_leg 116 = .ok (.aload_n 0, 1) := by decide +kernel
theorem dX11_leg_117 : decode cX11_leg 117 = .ok (.getfield 63, 3) := by decide +kernel
theorem dX11_leg_120 : decode cX11_leg 120 = .ok (.iconst 1, 1) := by decide +kernel
theorem dX11_leg_121 : decode cX11_leg 121 = .ok (.isub, 1) := by decide +kernel
theorem dX11_leg_122 : decode cX11_leg 122 = .ok (.ireturn, 1) := by decide +kernel
theorem dX11_charge_0 : decode cX11_charge 0 = .ok (.aload_n 0, 1) := by decide +kernel
theorem dX11_charge_1 : decode cX11_charge 1 = .ok (.iload_n 1, 1) := by decide +kernel
theorem dX11_charge_2 : decode cX11_charge 2 = .ok (.iconst 1, 1) := by decide +kernel
theorem dX11_charge_3 : decode cX11_charge 3 = .ok (.sipush 1000, 3) := by decide +kernel
theorem dX11_charge_6 : decode cX11_charge 6 = .ok (.invokestatic 59, 3) := by decide +kernel
theorem dX11_charge_9 : decode cX11_charge 9 = .ok (.ifCond .eq 7, 3) := by decide +kernel
theorem dX11_charge_12 : decode cX11_charge 12 = .ok (.iconst 0, 1) := by decide +kernel
theorem dX11_charge_13 : decode cX11_charge 13 = .ok (.goto 4, 3) := by decide +kernel
theorem dX11_charge_16 : decode cX11_charge 16 = .ok (.iconst 1, 1) := by decide +kernel
theorem dX11_charge_17 : decode cX11_charge 17 = .ok (.invokevirtual 77, 3) := by decide +kernel
theorem dX11_charge_20 : decode cX11_charge 20 = .ok (.ifCond .eq 5, 3) := by decide +kernel
theorem dX11_charge_23 : decode cX11_charge 23 = .ok (.iconst 0, 1) := by decide +kernel
theorem dX11_charge_24 : decode cX11_charge 24 = .ok (.ireturn, 1) := by decide +kernel
theorem dX11_charge_25 : decode cX11_charge 25 = .ok (.aload_n 0, 1) := by decide +kernel
theorem dX11_charge_26 : decode cX11_charge 26 = .ok (.aload_n 0, 1) := by decide +kernel
theorem dX11_charge_27 : decode cX11_charge 27 = .ok (.getfield 29, 3) := by decide +kernel
theorem dX11_charge_30 : decode cX11_charge 30 = .ok (.iload_n 1, 1) := by decide +kernel
theorem dX11_charge_31 : decode cX11_charge 31 = .ok (.iadd, 1) := by decide +kernel
theorem dX11_charge_32 : decode cX11_charge 32 = .ok (.sipush 1000, 3) := by decide +kernel
theorem dX11_charge_35 : decode cX11_charge 35 = .ok (.if_icmp .le 9, 3) := by decide +kernel
theorem dX11_charge_38 : decode cX11_charge 38 = .ok (.sipush 1000, 3) := by decide +kernel
theorem dX11_charge_41 : decode cX11_charge 41 = .ok (.goto 9, 3) := by decide +kernel
theorem dX11_charge_44 : decode cX11_charge 44 = .ok (.aload_n 0, 1) := by decide +kernel
theorem dX11_charge_45 : decode cX11_charge 45 = .ok (.getfield 29, 3) := by decide +kernel
theorem dX11_charge_48 : decode cX11_charge 48 = .ok (.iload_n 1, 1) := by decide +kernel
theorem dX11_charge_49 : decode cX11_charge 49 = .ok (.iadd, 1) := by decide +kernel
theorem dX11_charge_50 : decode cX11_charge 50 = .ok (.putfield 29, 3) := by decide +kernel
theorem dX11_charge_53 : decode cX11_charge 53 = .ok (.aload_n 0, 1) := by decide +kernel
theorem dX11_charge_54 : decode cX11_charge 54 = .ok (.getfield 29, 3) := by decide +kernel
theorem dX11_charge_57 : decode cX11_charge 57 = .ok (.ireturn, 1) := by decide +kernel
theorem dX11_phase_0 : decode cX11_phase 0 = .ok (.iload_n 2, 1) := by decide +kernel
theorem dX11_phase_1 : decode cX11_phase 1 = .ok (.bipush (-6), 2) := by decide +kernel
theorem dX11_phase_3 : decode cX11_phase 3 = .ok (.bipush 6, 2) := by decide +kernel
theorem dX11_phase_5 : decode cX11_phase 5 = .ok (.invokestatic 59, 3) := by decide +kernel
theorem dX11_phase_8 : decode cX11_phase 8 = .ok (.ifCond .eq 38, 3) := by decide +kernel
theorem dX11_phase_11 : decode cX11_phase 11 = .ok (.iload_n 3, 1) := by decide +kernel
theorem dX11_phase_12 : decode cX11_phase 12 = .ok (.bipush (-6), 2) := by decide +kernel
theorem dX11_phase_14 : decode cX11_phase 14 = .ok (.bipush 6, 2) := by decide +kernel
theorem dX11_phase_16 : decode cX11_phase 16 = .ok (.invokestatic 59, 3) := by decide +kernel
theorem dX11_phase_19 : decode cX11_phase 19 = .ok (.ifCond .eq 27, 3) := by decide +kernel
theorem dX11_phase_22 : decode cX11_phase 22 = .ok (.iload 4, 2) := by decide +kernel
theorem dX11_phase_24 : decode cX11_phase 24 = .ok (.iconst (-1), 1) := by decide +kernel
theorem dX11_phase_25 : decode cX11_phase 25 = .ok (.iconst 1, 1) := by decide +kernel
theorem dX11_phase_26 : decode cX11_phase 26 = .ok (.invokestatic 59, 3) := by decide +kernel
theorem dX11_phase_29 : decode cX11_phase 29 = .ok (.ifCond .eq 17, 3) := by decide +kernel
theorem dX11_phase_32 : decode cX11_phase 32 = .ok (.iload 5, 2) := by decide +kernel
theorem dX11_phase_34 : decode cX11_phase 34 = .ok (.iconst (-1), 1) := by decide +kernel
theorem dX11_phase_35 : decode cX11_phase 35 = .ok (.iconst 1, 1) := by decide +kernel
theorem dX11_phase_36 : decode cX11_phase 36 = .ok (.invokestatic 59, 3) := by decide +kernel
theorem dX11_phase_39 : decode cX11_phase 39 = .ok (.ifCond .eq 7, 3) := by decide +kernel
theorem dX11_phase_42 : decode cX11_phase 42 = .ok (.iconst 1, 1) := by decide +kernel
theorem dX11_phase_43 : decode cX11_phase 43 = .ok (.goto 4, 3) := by decide +kernel
theorem dX11_phase_46 : decode cX11_phase 46 = .ok (.iconst 0, 1) := by decide +kernel
theorem dX11_phase_47 : decode cX11_phase 47 = .ok (.istore 6, 2) := by decide +kernel
theorem dX11_phase_49 : decode cX11_phase 49 = .ok (.aload_n 0, 1) := by decide +kernel
theorem dX11_phase_50 : decode cX11_phase 50 = .ok (.aload_n 0, 1) := by decide +kernel
theorem dX11_phase_51 : decode cX11_phase 51 = .ok (.iload_n 1, 1) := by decide +kernel
theorem dX11_phase_52 : decode cX11_phase 52 = .ok (.invokevirtual 88, 3) := by decide +kernel
theorem dX11_phase_55 : decode cX11_phase 55 = .ok (.ifCond .ne 7, 3) := by decide +kernel
theorem dX11_phase_58 : decode cX11_phase 58 = .ok (.iconst 1, 1) := by decide +kernel
theorem dX11_phase_59 : decode cX11_phase 59 = .ok (.goto 26, 3) := by decide +kernel
theorem dX11_phase_62 : decode cX11_phase 62 = .ok (.iload 6, 2) := by decide +kernel
theorem dX11_phase_64 : decode cX11_phase 64 = .ok (.ifCond .ne 7, 3) := by decide +kernel
theorem dX11_phase_67 : decode cX11_phase 67 = .ok (.iconst 2, 1) := by decide +kernel
theorem dX11_phase_68 : decode cX11_phase 68 = .ok (.goto 17, 3) := by decide +kernel
theorem dX11_phase_71 : decode cX11_phase 71 = .ok (.aload_n 0, 1) := by decide +kernel
theorem dX11_phase_72 : decode cX11_phase 72 = .ok (.getfield 91, 3) := by decide +kernel
theorem dX11_phase_75 : decode cX11_phase 75 = .ok (.bipush 8, 2) := by decide +kernel
theorem dX11_phase_77 : decode cX11_phase 77 = .ok (.if_icmp .ne 7, 3) := by decide +kernel
theorem dX11_phase_80 : decode cX11_phase 80 = .ok (.iconst 3, 1) := by decide +kernel
theorem dX11_phase_81 : decode cX11_phase 81 = .ok (.goto 4, 3) := by decide +kernel
theorem dX11_phase_84 : decode cX11_phase 84 = .ok (.iconst 0, 1) := by decide +kernel
theorem dX11_phase_85 : decode cX11_phase 85 = .ok (.invokevirtual 77, 3) := by decide +kernel
theorem dX11_phase_88 : decode cX11_phase 88 = .ok (.ifCond .eq 5, 3) := by decide +kernel
theorem dX11_phase_91 : decode cX11_phase 91 = .ok (.iconst 0, 1) := by decide +kernel
theorem dX11_phase_92 : decode cX11_phase 92 = .ok (.ireturn, 1) := by decide +kernel
theorem dX11_phase_93 : decode cX11_phase 93 = .ok (.iconst 5, 1) := by decide +kernel
theorem dX11_phase_94 : decode cX11_phase 94 = .ok (.aload_n 0, 1) := by decide +kernel
theorem dX11_phase_95 : decode cX11_phase 95 = .ok (.getfield 91, 3) := by decide +kernel
theorem dX11_phase_98 : decode cX11_phase 98 = .ok (.imul, 1) := by decide +kernel
theorem dX11_phase_99 : decode cX11_phase 99 = .ok (.istore 7, 2) := by decide +kernel
theorem dX11_phase_101 : decode cX11_phase 101 = .ok (.aload_n 0, 1) := by decide +kernel
theorem dX11_phase_102 : decode cX11_phase 102 = .ok (.getfield 50, 3) := by decide +kernel
theorem dX11_phase_105 : decode cX11_phase 105 = .ok (.iload 7, 2) := by decide +kernel
theorem dX11_phase_107 : decode cX11_phase 107 = .ok (.iload_n 1, 1) := by decide +kernel
theorem dX11_phase_108 : decode cX11_phase 108 = .ok (.iastore, 1) := by decide +kernel
theorem dX11_phase_109 : decode cX11_phase 109 = .ok (.aload_n 0, 1) := by decide +kernel
theorem dX11_phase_110 : decode cX11_phase 110 = .ok (.getfield 50, 3) := by decide +kernel
theorem dX11_phase_113 : decode cX11_phase 113 = .ok (.iload 7, 2) := by decide +kernel
theorem dX11_phase_115 : decode cX11_phase 115 = .ok (.iconst 1, 1) := by decide +kernel
theorem dX11_phase_116 : decode cX11_phase 116 = .ok (.iadd, 1) := by decide +kernel
theorem dX11_phase_117 : decode cX11_phase 117 = .ok (.iload_n 2, 1) := by decide +kernel
theorem dX11_phase_118 : decode cX11_phase 118 = .ok (.iastore, 1) := by decide +kernel
theorem dX11_phase_119 : decode cX11_phase 119 = .ok (.aload_n 0, 1) := by decide +kernel
theorem dX11_phase_120 : decode cX11_phase 120 = .ok (.getfield 50, 3) := by decide +kernel
theorem dX11_phase_123 : decode cX11_phase 123 = .ok (.iload 7, 2) := by decide +kernel
theorem dX11_phase_125 : decode cX11_phase 125 = .ok (.iconst 2, 1) := by decide +kernel
theorem dX11_phase_126 : decode cX11_phase 126 = .ok (.iadd, 1) := by decide +kernel
theorem dX11_phase_127 : decode cX11_phase 127 = .ok (.iload_n 3, 1) := by decide +kernel
theorem dX11_phase_128 : decode cX11_phase 128 = .ok (.iastore, 1) := by decide +kernel
theorem dX11_phase_129 : decode cX11_phase 129 = .ok (.aload_n 0, 1) := by decide +kernel
theorem dX11_phase_130 : decode cX11_phase 130 = .ok (.getfield 50, 3) := by decide +kernel
theorem dX11_phase_133 : decode cX11_phase 133 = .ok (.iload 7, 2) := by decide +kernel
theorem dX11_phase_135 : decode cX11_phase 135 = .ok (.iconst 3, 1) := by decide +kernel
theorem dX11_phase_136 : decode cX11_phase 136 = .ok (.iadd, 1) := by decide +kernel
theorem dX11_phase_137 : decode cX11_phase 137 = .ok (.iload 4, 2) := by decide +kernel
theorem dX11_phase_139 : decode cX11_phase 139 = .ok (.iastore, 1) := by decide +kernel
theorem dX11_phase_140 : decode cX11_phase 140 = .ok (.aload_n 0, 1) := by decide +kernel
theorem dX11_phase_141 : decode cX11_phase 141 = .ok (.getfield 50, 3) := by decide +kernel
theorem dX11_phase_144 : decode cX11_phase 144 = .ok (.iload 7, 2) := by decide +kernel
theorem dX11_phase_146 : decode cX11_phase 146 = .ok (.iconst 4, 1) := by decide +kernel
theorem dX11_phase_147 : decode cX11_phase 147 = .ok (.iadd, 1) := by decide +kernel
theorem dX11_phase_148 : decode cX11_phase 148 = .ok (.iload 5, 2) := by decide +kernel
theorem dX11_phase_150 : decode cX11_phase 150 = .ok (.iastore, 1) := by decide +kernel
theorem dX11_phase_151 : decode cX11_phase 151 = .ok (.aload_n 0, 1) := by decide +kernel
theorem dX11_phase_152 : decode cX11_phase 152 = .ok (.dup, 1) := by decide +kernel
theorem dX11_phase_153 : decode cX11_phase 153 = .ok (.getfield 91, 3) := by decide +kernel
theorem dX11_phase_156 : decode cX11_phase 156 = .ok (.iconst 1, 1) := by decide +kernel
theorem dX11_phase_157 : decode cX11_phase 157 = .ok (.iadd, 1) := by decide +kernel
theorem dX11_phase_158 : decode cX11_phase 158 = .ok (.putfield 91, 3) := by decide +kernel
theorem dX11_phase_161 : decode cX11_phase 161 = .ok (.aload_n 0, 1) := by decide +kernel
theorem dX11_phase_162 : decode cX11_phase 162 = .ok (.getfield 91, 3) := by decide +kernel
theorem dX11_phase_165 : decode cX11_phase 165 = .ok (.ireturn, 1) := by decide +kernel
theorem dX11_halt_0 : decode cX11_halt 0 = .ok (.aload_n 0, 1) := by decide +kernel
theorem dX11_halt_1 : decode cX11_halt 1 = .ok (.iconst 0, 1) := by decide +kernel
theorem dX11_halt_2 : decode cX11_halt 2 = .ok (.putfield 56, 3) := by decide +kernel
theorem dX11_halt_5 : decode cX11_halt 5 = .ok (.aload_n 0, 1) := by decide +kernel
theorem dX11_halt_6 : decode cX11_halt 6 = .ok (.getfield 91, 3) := by decide +kernel
theorem dX11_halt_9 : decode cX11_halt 9 = .ok (.istore_n 1, 1) := by decide +kernel
theorem dX11_halt_10 : decode cX11_halt 10 = .ok (.aload_n 0, 1) := by decide +kernel
theorem dX11_halt_11 : decode cX11_halt 11 = .ok (.iconst 0, 1) := by decide +kernel
theorem dX11_halt_12 : decode cX11_halt 12 = .ok (.putfield 91, 3) := by decide +kernel
theorem dX11_halt_15 : decode cX11_halt 15 = .ok (.aload_n 0, 1) := by decide +kernel
theorem dX11_halt_16 : decode cX11_halt 16 = .ok (.iconst 0, 1) := by decide +kernel
theorem dX11_halt_17 : decode cX11_halt 17 = .ok (.putfield 94, 3) := by decide +kernel
theorem dX11_halt_20 : decode cX11_halt 20 = .ok (.iload_n 1, 1) := by decide +kernel
theorem dX11_halt_21 : decode cX11_halt 21 = .ok (.ireturn, 1) := by decide +kernel
theorem dX11_footAt_0 : decode cX11_footAt 0 = .ok (.iconst (-1), 1) := by decide +kernel
theorem dX11_footAt_1 : decode cX11_footAt 1 = .ok (.istore_n 3, 1) := by decide +kernel
theorem dX11_footAt_2 : decode cX11_footAt 2 = .ok (.iconst 0, 1) := by decide +kernel
theorem dX11_footAt_3 : decode cX11_footAt 3 = .ok (.istore 4, 2) := by decide +kernel
theorem dX11_footAt_5 : decode cX11_footAt 5 = .ok (.iload 4, 2) := by decide +kernel
theorem dX11_footAt_7 : decode cX11_footAt 7 = .ok (.aload_n 0, 1) := by decide +kernel
theorem dX11_footAt_8 : decode cX11_footAt 8 = .ok (.getfield 63, 3) := by decide +kernel
theorem dX11_footAt_11 : decode cX11_footAt 11 = .ok (.if_icmp .ge 47, 3) := by decide +kernel
theorem dX11_footAt_14 : decode cX11_footAt 14 = .ok (.aload_n 0, 1) := by decide +kernel
theorem dX11_footAt_15 : decode cX11_footAt 15 = .ok (.iload 4, 2) := by decide +kernel
theorem dX11_footAt_17 : decode cX11_footAt 17 = .ok (.invokevirtual 97, 3) := by decide +kernel
theorem dX11_footAt_20 : decode cX11_footAt 20 = .ok (.ifCond .eq 30, 3) := by decide +kernel
theorem dX11_footAt_23 : decode cX11_footAt 23 = .ok (.aload_n 0, 1) := by decide +kernel
theorem dX11_footAt_24 : decode cX11_footAt 24 = .ok (.getfield 41, 3) := by decide +kernel
theorem dX11_footAt_27 : decode cX11_footAt 27 = .ok (.iload 4, 2) := by decide +kernel
theorem dX11_footAt_29 : decode cX11_footAt 29 = .ok (.iaload, 1) := by decide +kernel
theorem dX11_footAt_30 : decode cX11_footAt 30 = .ok (.iload_n 1, 1) := by decide +kernel
theorem dX11_footAt_31 : decode cX11_footAt 31 = .ok (.if_icmp .ne 19, 3) := by decide +kernel
theorem dX11_footAt_34 : decode cX11_footAt 34 = .ok (.aload_n 0, 1) := by decide +kernel
theorem dX11_footAt_35 : decode cX11_footAt 35 = .ok (.getfield 44, 3) := by decide +kernel
theorem dX11_footAt_38 : decode cX11_footAt 38 = .ok (.iload 4, 2) := by decide +kernel
theorem dX11_footAt_40 : decode cX11_footAt 40 = .ok (.iaload, 1) := by decide +kernel
theorem dX11_footAt_41 : decode cX11_footAt 41 = .ok (.iload_n 2, 1) := by decide +kernel
theorem dX11_footAt_42 : decode cX11_footAt 42 = .ok (.if_icmp .ne 8, 3) := by decide +kernel
theorem dX11_footAt_45 : decode cX11_footAt 45 = .ok (.iload 4, 2) := by decide +kernel
theorem dX11_footAt_47 : decode cX11_footAt 47 = .ok (.goto 4, 3) := by decide +kernel
theorem dX11_footAt_50 : decode cX11_footAt 50 = .ok (.iload_n 3, 1) := by decide +kernel
theorem dX11_footAt_51 : decode cX11_footAt 51 = .ok (.istore_n 3, 1) := by decide +kernel
theorem dX11_footAt_52 : decode cX11_footAt 52 = .ok (.iinc 4 1, 3) := by decide +kernel
theorem dX11_footAt_55 : decode cX11_footAt 55 = .ok (.goto (-50), 3) := by decide +kernel
theorem dX11_footAt_58 : decode cX11_footAt 58 = .ok (.iload_n 3, 1) := by decide +kernel
theorem dX11_footAt_59 : decode cX11_footAt 59 = .ok (.ireturn, 1) := by decide +kernel
theorem dX11_weight_0 : decode cX11_weight 0 = .ok (.bipush 10, 2) := by decide +kernel
theorem dX11_weight_2 : decode cX11_weight 2 = .ok (.aload_n 0, 1) := by decide +kernel
theorem dX11_weight_3 : decode cX11_weight 3 = .ok (.getfield 100, 3) := by decide +kernel
theorem dX11_weight_6 : decode cX11_weight 6 = .ok (.iadd, 1) := by decide +kernel
theorem dX11_weight_7 : decode cX11_weight 7 = .ok (.ireturn, 1) := by decide +kernel
theorem dX11_momentX_0 : decode cX11_momentX 0 = .ok (.aload_n 0, 1) := by decide +kernel
theorem dX11_momentX_1 : decode cX11_momentX 1 = .ok (.invokevirtual 103, 3) := by decide +kernel
theorem dX11_momentX_4 : decode cX11_momentX 4 = .ok (.aload_n 0, 1) := by decide +kernel
theorem dX11_momentX_5 : decode cX11_momentX 5 = .ok (.getfield 22, 3) := by decide +kernel
theorem dX11_momentX_8 : decode cX11_momentX 8 = .ok (.imul, 1) := by decide +kernel
theorem dX11_momentX_9 : decode cX11_momentX 9 = .ok (.aload_n 0, 1) := by decide +kernel
theorem dX11_momentX_10 : decode cX11_momentX 10 = .ok (.getfield 100, 3) := by decide +kernel
theorem dX11_momentX_13 : decode cX11_momentX 13 = .ok (.aload_n 0, 1) := by decide +kernel
theorem dX11_momentX_14 : decode cX11_momentX 14 = .ok (.getfield 107, 3) := by decide +kernel
theorem dX11_momentX_17 : decode cX11_momentX 17 = .ok (.imul, 1) := by decide +kernel
theorem dX11_momentX_18 : decode cX11_momentX 18 = .ok (.iadd, 1) := by decide +kernel
theorem dX11_momentX_19 : decode cX11_momentX 19 = .ok (.ireturn, 1) := by decide +kernel
theorem dX11_momentY_0 : decode cX11_momentY 0 = .ok (.aload_n 0, 1) := by decide +kernel
theorem dX11_momentY_1 : decode cX11_momentY 1 = .ok (.invokevirtual 103, 3) := by decide +kernel
theorem dX11_momentY_4 : decode cX11_momentY 4 = .ok (.aload_n 0, 1) := by decide +kernel
theorem dX11_momentY_5 : decode cX11_momentY 5 = .ok (.getfield 26, 3) := by decide +kernel
theorem dX11_momentY_8 : decode cX11_momentY 8 = .ok (.imul, 1) := by decide +kernel
theorem dX11_momentY_9 : decode cX11_momentY 9 = .ok (.aload_n 0, 1) := by decide +kernel
theorem dX11_momentY_10 : decode cX11_momentY 10 = .ok (.getfield 100, 3) := by decide +kernel
theorem dX11_momentY_13 : decode cX11_momentY 13 = .ok (.aload_n 0, 1) := by decide +kernel
theorem dX11_momentY_14 : decode cX11_momentY 14 = .ok (.getfield 110, 3) := by decide +kernel
theorem dX11_momentY_17 : decode cX11_momentY 17 = .ok (.imul, 1) := by decide +kernel
theorem dX11_momentY_18 : decode cX11_momentY 18 = .ok (.iadd, 1) := by decide +kernel
theorem dX11_momentY_19 : decode cX11_momentY 19 = .ok (.ireturn, 1) := by decide +kernel
theorem dX11_turn_0 : decode cX11_turn 0 = .ok (.aload_n 0, 1) := by decide +kernel
theorem dX11_turn_1 : decode cX11_turn 1 = .ok (.getfield 41, 3) := by decide +kernel
theorem dX11_turn_4 : decode cX11_turn 4 = .ok (.iload_n 2, 1) := by decide +kernel
theorem dX11_turn_5 : decode cX11_turn 5 = .ok (.iaload, 1) := by decide +kernel
theorem dX11_turn_6 : decode cX11_turn 6 = .ok (.aload_n 0, 1) := by decide +kernel
theorem dX11_turn_7 : decode cX11_turn 7 = .ok (.getfield 41, 3) := by decide +kernel
theorem dX11_turn_10 : decode cX11_turn 10 = .ok (.iload_n 1, 1) := by decide +kernel
theorem dX11_turn_11 : decode cX11_turn 11 = .ok (.iaload, 1) := by decide +kernel
theorem dX11_turn_12 : decode cX11_turn 12 = .ok (.isub, 1) := by decide +kernel
theorem dX11_turn_13 : decode cX11_turn 13 = .ok (.aload_n 0, 1) := by decide +kernel
theorem dX11_turn_14 : decode cX11_turn 14 = .ok (.getfield 44, 3) := by decide +kernel
theorem dX11_turn_17 : decode cX11_turn 17 = .ok (.iload_n 3, 1) := by decide +kernel
theorem dX11_turn_18 : decode cX11_turn 18 = .ok (.iaload, 1) := by decide +kernel
theorem dX11_turn_19 : decode cX11_turn 19 = .ok (.aload_n 0, 1) := by decide +kernel
theorem dX11_turn_20 : decode cX11_turn 20 = .ok (.getfield 44, 3) := by decide +kernel
theorem dX11_turn_23 : decode cX11_turn 23 = .ok (.iload_n 1, 1) := by decide +kernel
theorem dX11_turn_24 : decode cX11_turn 24 = .ok (.iaload, 1) := by decide +kernel
theorem dX11_turn_25 : decode cX11_turn 25 = .ok (.isub, 1) := by decide +kernel
theorem dX11_turn_26 : decode cX11_turn 26 = .ok (.imul, 1) := by decide +kernel
theorem dX11_turn_27 : decode cX11_turn 27 = .ok (.aload_n 0, 1) := by decide +kernel
theorem dX11_turn_28 : decode cX11_turn 28 = .ok (.getfield 44, 3) := by decide +kernel
theorem dX11_turn_31 : decode cX11_turn 31 = .ok (.iload_n 2, 1) := by decide +kernel
theorem dX11_turn_32 : decode cX11_turn 32 = .ok (.iaload, 1) := by decide +kernel
theorem dX11_turn_33 : decode cX11_turn 33 = .ok (.aload_n 0, 1) := by decide +kernel
theorem dX11_turn_34 : decode cX11_turn 34 = .ok (.getfield 44, 3) := by decide +kernel
theorem dX11_turn_37 : decode cX11_turn 37 = .ok (.iload_n 1, 1) := by decide +kernel
theorem dX11_turn_38 : decode cX11_turn 38 = .ok (.iaload, 1) := by decide +kernel
theorem dX11_turn_39 : decode cX11_turn 39 = .ok (.isub, 1) := by decide +kernel
theorem dX11_turn_40 : decode cX11_turn 40 = .ok (.aload_n 0, 1) := by decide +kernel
theorem dX11_turn_41 : decode cX11_turn 41 = .ok (.getfield 41, 3) := by decide +kernel
theorem dX11_turn_44 : decode cX11_turn 44 = .ok (.iload_n 3, 1) := by decide +kernel
theorem dX11_turn_45 : decode cX11_turn 45 = .ok (.iaload, 1) := by decide +kernel
theorem dX11_turn_46 : decode cX11_turn 46 = .ok (.aload_n 0, 1) := by decide +kernel
theorem dX11_turn_47 : decode cX11_turn 47 = .ok (.getfield 41, 3) := by decide +kernel
theorem dX11_turn_50 : decode cX11_turn 50 = .ok (.iload_n 1, 1) := by decide +kernel
theorem dX11_turn_51 : decode cX11_turn 51 = .ok (.iaload, 1) := by decide +kernel
theorem dX11_turn_52 : decode cX11_turn 52 = .ok (.isub, 1) := by decide +kernel
theorem dX11_turn_53 : decode cX11_turn 53 = .ok (.imul, 1) := by decide +kernel
theorem dX11_turn_54 : decode cX11_turn 54 = .ok (.isub, 1) := by decide +kernel
theorem dX11_turn_55 : decode cX11_turn 55 = .ok (.ireturn, 1) := by decide +kernel
theorem dX11_square_0 : decode cX11_square 0 = .ok (.aload_n 0, 1) := by decide +kernel
theorem dX11_square_1 : decode cX11_square 1 = .ok (.getfield 41, 3) := by decide +kernel
theorem dX11_square_4 : decode cX11_square 4 = .ok (.iload_n 2, 1) := by decide +kernel
theorem dX11_square_5 : decode cX11_square 5 = .ok (.iaload, 1) := by decide +kernel
theorem dX11_square_6 : decode cX11_square 6 = .ok (.aload_n 0, 1) := by decide +kernel
theorem dX11_square_7 : decode cX11_square 7 = .ok (.getfield 41, 3) := by decide +kernel
theorem dX11_square_10 : decode cX11_square 10 = .ok (.iload_n 1, 1) := by decide +kernel
theorem dX11_square_11 : decode cX11_square 11 = .ok (.iaload, 1) := by decide +kernel
theorem dX11_square_12 : decode cX11_square 12 = .ok (.isub, 1) := by decide +kernel
theorem dX11_square_13 : decode cX11_square 13 = .ok (.istore_n 3, 1) := by decide +kernel
theorem dX11_square_14 : decode cX11_square 14 = .ok (.aload_n 0, 1) := by decide +kernel
theorem dX11_square_15 : decode cX11_square 15 = .ok (.getfield 44, 3) := by decide +kernel
theorem dX11_square_18 : decode cX11_square 18 = .ok (.iload_n 2, 1) := by decide +kernel
theorem dX11_square_19 : decode cX11_square 19 = .ok (.iaload, 1) := by decide +kernel
theorem dX11_square_20 : decode cX11_square 20 = .ok (.aload_n 0, 1) := by decide +kernel
theorem dX11_square_21 : decode cX11_square 21 = .ok (.getfield 44, 3) := by decide +kernel
theorem dX11_square_24 : decode cX11_square 24 = .ok (.iload_n 1, 1) := by decide +kernel
theorem dX11_square_25 : decode cX11_square 25 = .ok (.iaload, 1) := by decide +kernel
theorem dX11_square_26 : decode cX11_square 26 = .ok (.isub, 1) := by decide +kernel
theorem dX11_square_27 : decode cX11_square 27 = .ok (.istore 4, 2) := by decide +kernel
theorem dX11_square_29 : decode cX11_square 29 = .ok (.iload_n 3, 1) := by decide +kernel
theorem dX11_square_30 : decode cX11_square 30 = .ok (.iload_n 3, 1) := by decide +kernel
theorem dX11_square_31 : decode cX11_square 31 = .ok (.imul, 1) := by decide +kernel
theorem dX11_square_32 : decode cX11_square 32 = .ok (.iload 4, 2) := by decide +kernel
theorem dX11_square_34 : decode cX11_square 34 = .ok (.iload 4, 2) := by decide +kernel
theorem dX11_square_36 : decode cX11_square 36 = .ok (.imul, 1) := by decide +kernel
theorem dX11_square_37 : decode cX11_square 37 = .ok (.iadd, 1) := by decide +kernel
theorem dX11_square_38 : decode cX11_square 38 = .ok (.ireturn, 1) := by decide +kernel
theorem dX11_hull_0 : decode cX11_hull 0 = .ok (.aload_n 0, 1) := by decide +kernel
theorem dX11_hull_1 : decode cX11_hull 1 = .ok (.iconst 0, 1) := by decide +kernel
theorem dX11_hull_2 : decode cX11_hull 2 = .ok (.putfield 113, 3) := by decide +kernel
theorem dX11_hull_5 : decode cX11_hull 5 = .ok (.iconst (-1), 1) := by decide +kernel
theorem dX11_hull_6 : decode cX11_hull 6 = .ok (.istore_n 2, 1) := by decide +kernel
theorem dX11_hull_7 : decode cX11_hull 7 = .ok (.iconst 5, 1) := by decide +kernel
theorem dX11_hull_8 : decode cX11_hull 8 = .ok (.istore_n 3, 1) := by decide +kernel
theorem dX11_hull_9 : decode cX11_hull 9 = .ok (.iload_n 3, 1) := by decide +kernel
theorem dX11_hull_10 : decode cX11_hull 10 = .ok (.ifCond .lt 74, 3) := by decide +kernel
theorem dX11_hull_13 : decode cX11_hull 13 = .ok (.iload_n 1, 1) := by decide +kernel
theorem dX11_hull_14 : decode cX11_hull 14 = .ok (.iload_n 3, 1) := by decide +kernel
theorem dX11_hull_15 : decode cX11_hull 15 = .ok (.ishr, 1) := by decide +kernel
theorem dX11_hull_16 : decode cX11_hull 16 = .ok (.iconst 1, 1) := by decide +kernel
theorem dX11_hull_17 : decode cX11_hull 17 = .ok (.iand, 1) := by decide +kernel
theorem dX11_hull_18 : decode cX11_hull 18 = .ok (.iconst 1, 1) := by decide +kernel
theorem dX11_hull_19 : decode cX11_hull 19 = .ok (.if_icmp .ne 7, 3) := by decide +kernel
theorem dX11_hull_22 : decode cX11_hull 22 = .ok (.iconst 1, 1) := by decide +kernel
theorem dX11_hull_23 : decode cX11_hull 23 = .ok (.goto 4, 3) := by decide +kernel
theorem dX11_hull_26 : decode cX11_hull 26 = .ok (.iconst 0, 1) := by decide +kernel
theorem dX11_hull_27 : decode cX11_hull 27 = .ok (.istore 4, 2) := by decide +kernel
theorem dX11_hull_29 : decode cX11_hull 29 = .ok (.iload 4, 2) := by decide +kernel
theorem dX11_hull_31 : decode cX11_hull 31 = .ok (.ifCond .eq 45, 3) := by decide +kernel
theorem dX11_hull_34 : decode cX11_hull 34 = .ok (.iload_n 2, 1) := by decide +kernel
theorem dX11_hull_35 : decode cX11_hull 35 = .ok (.iconst (-1), 1) := by decide +kernel
theorem dX11_hull_36 : decode cX11_hull 36 = .ok (.if_icmp .eq 36, 3) := by decide +kernel
theorem dX11_hull_39 : decode cX11_hull 39 = .ok (.aload_n 0, 1) := by decide +kernel
theorem dX11_hull_40 : decode cX11_hull 40 = .ok (.getfield 41, 3) := by decide +kernel
theorem dX11_hull_43 : decode cX11_hull 43 = .ok (.iload_n 3, 1) := by decide +kernel
theorem dX11_hull_44 : decode cX11_hull 44 = .ok (.iaload, 1) := by decide +kernel
theorem dX11_hull_45 : decode cX11_hull 45 = .ok (.aload_n 0, 1) := by decide +kernel
theorem dX11_hull_46 : decode cX11_hull 46 = .ok (.getfield 44, 3) := by decide +kernel
theorem dX11_hull_49 : decode cX11_hull 49 = .ok (.iload_n 3, 1) := by decide +kernel
theorem dX11_hull_50 : decode cX11_hull 50 = .ok (.iaload, 1) := by decide +kernel
theorem dX11_hull_51 : decode cX11_hull 51 = .ok (.invokestatic 81, 3) := by decide +kernel
theorem dX11_hull_54 : decode cX11_hull 54 = .ok (.aload_n 0, 1) := by decide +kernel
theorem dX11_hull_55 : decode cX11_hull 55 = .ok (.getfield 41, 3) := by decide +kernel
theorem dX11_hull_58 : decode cX11_hull 58 = .ok (.iload_n 2, 1) := by decide +kernel
theorem dX11_hull_59 : decode cX11_hull 59 = .ok (.iaload, 1) := by decide +kernel
theorem dX11_hull_60 : decode cX11_hull 60 = .ok (.aload_n 0, 1) := by decide +kernel
theorem dX11_hull_61 : decode cX11_hull 61 = .ok (.getfield 44, 3) := by decide +kernel
theorem dX11_hull_64 : decode cX11_hull 64 = .ok (.iload_n 2, 1) := by decide +kernel
theorem dX11_hull_65 : decode cX11_hull 65 = .ok (.iaload, 1) := by decide +kernel
theorem dX11_hull_66 : decode cX11_hull 66 = .ok (.invokestatic 81, 3) := by decide +kernel
theorem dX11_hull_69 : decode cX11_hull 69 = .ok (.if_icmp .ge 7, 3) := by decide +kernel
theorem dX11_hull_72 : decode cX11_hull 72 = .ok (.iload_n 3, 1) := by decide +kernel
theorem dX11_hull_73 : decode cX11_hull 73 = .ok (.goto 4, 3) := by decide +kernel
theorem dX11_hull_76 : decode cX11_hull 76 = .ok (.iload_n 2, 1) := by decide +kernel
theorem dX11_hull_77 : decode cX11_hull 77 = .ok (.istore_n 2, 1) := by decide +kernel
theorem dX11_hull_78 : decode cX11_hull 78 = .ok (.iinc 3 (-1), 3) := by decide +kernel
theorem dX11_hull_81 : decode cX11_hull 81 = .ok (.goto (-72), 3) := by decide +kernel
theorem dX11_hull_84 : decode cX11_hull 84 = .ok (.iload_n 2, 1) := by decide +kernel
theorem dX11_hull_85 : decode cX11_hull 85 = .ok (.istore_n 3, 1) := by decide +kernel
theorem dX11_hull_86 : decode cX11_hull 86 = .ok (.iload_n 3, 1) := by decide +kernel
theorem dX11_hull_87 : decode cX11_hull 87 = .ok (.iconst (-1), 1) := by decide +kernel
theorem dX11_hull_88 : decode cX11_hull 88 = .ok (.if_icmp .eq 168, 3) := by decide +kernel
theorem dX11_hull_91 : decode cX11_hull 91 = .ok (.aload_n 0, 1) := by decide +kernel
theorem dX11_hull_92 : decode cX11_hull 92 = .ok (.getfield 113, 3) := by decide +kernel
theorem dX11_hull_95 : decode cX11_hull 95 = .ok (.ifCond .eq 8, 3) := by decide +kernel
theorem dX11_hull_98 : decode cX11_hull 98 = .ok (.iload_n 3, 1) := by decide +kernel
theorem dX11_hull_99 : decode cX11_hull 99 = .ok (.iload_n 2, 1) := by decide +kernel
theorem dX11_hull_100 : decode cX11_hull 100 = .ok (.if_icmp .eq 156, 3) := by decide +kernel
theorem dX11_hull_103 : decode cX11_hull 103 = .ok (.aload_n 0, 1) := by decide +kernel
theorem dX11_hull_104 : decode cX11_hull 104 = .ok (.getfield 53, 3) := by decide +kernel
theorem dX11_hull_107 : decode cX11_hull 107 = .ok (.aload_n 0, 1) := by decide +kernel
theorem dX11_hull_108 : decode cX11_hull 108 = .ok (.getfield 113, 3) := by decide +kernel
theorem dX11_hull_111 : decode cX11_hull 111 = .ok (.iload_n 3, 1) := by decide +kernel
theorem dX11_hull_112 : decode cX11_hull 112 = .ok (.iastore, 1) := by decide +kernel
theorem dX11_hull_113 : decode cX11_hull 113 = .ok (.aload_n 0, 1) := by decide +kernel
theorem dX11_hull_114 : decode cX11_hull 114 = .ok (.dup, 1) := by decide +kernel
theorem dX11_hull_115 : decode cX11_hull 115 = .ok (.getfield 113, 3) := by decide +kernel
theorem dX11_hull_118 : decode cX11_hull 118 = .ok (.iconst 1, 1) := by decide +kernel
theorem dX11_hull_119 : decode cX11_hull 119 = .ok (.iadd, 1) := by decide +kernel
theorem dX11_hull_120 : decode cX11_hull 120 = .ok (.putfield 113, 3) := by decide +kernel
theorem dX11_hull_123 : decode cX11_hull 123 = .ok (.iconst (-1), 1) := by decide +kernel
theorem dX11_hull_124 : decode cX11_hull 124 = .ok (.istore 4, 2) := by decide +kernel
theorem dX11_hull_126 : decode cX11_hull 126 = .ok (.iconst 0, 1) := by decide +kernel
theorem dX11_hull_127 : decode cX11_hull 127 = .ok (.istore 5, 2) := by decide +kernel
theorem dX11_hull_129 : decode cX11_hull 129 = .ok (.iload 5, 2) := by decide +kernel
theorem dX11_hull_131 : decode cX11_hull 131 = .ok (.bipush 6, 2) := by decide +kernel
theorem dX11_hull_133 : decode cX11_hull 133 = .ok (.if_icmp .ge 117, 3) := by decide +kernel
theorem dX11_hull_136 : decode cX11_hull 136 = .ok (.iload_n 1, 1) := by decide +kernel
theorem dX11_hull_137 : decode cX11_hull 137 = .ok (.iload 5, 2) := by decide +kernel
theorem dX11_hull_139 : decode cX11_hull 139 = .ok (.ishr, 1) := by decide +kernel
theorem dX11_hull_140 : decode cX11_hull 140 = .ok (.iconst 1, 1) := by decide +kernel
theorem dX11_hull_141 : decode cX11_hull 141 = .ok (.iand, 1) := by decide +kernel
theorem dX11_hull_142 : decode cX11_hull 142 = .ok (.iconst 1, 1) := by decide +kernel
theorem dX11_hull_143 : decode cX11_hull 143 = .ok (.if_icmp .ne 13, 3) := by decide +kernel
theorem dX11_hull_146 : decode cX11_hull 146 = .ok (.iload 5, 2) := by decide +kernel
theorem dX11_hull_148 : decode cX11_hull 148 = .ok (.iload_n 3, 1) := by decide +kernel
theorem dX11_hull_149 : decode cX11_hull 149 = .ok (.if_icmp .eq 7, 3) := by decide +kernel
theorem dX11_hull_152 : decode cX11_hull 152 = .ok (.iconst 1, 1) := by decide +kernel
theorem dX11_hull_153 : decode cX11_hull 153 = .ok (.goto 4, 3) := by decide +kernel
theorem dX11_hull_156 : decode cX11_hull 156 = .ok (.iconst 0, 1) := by decide +kernel
theorem dX11_hull_157 : decode cX11_hull 157 = .ok (.istore 6, 2) := by decide +kernel
theorem dX11_hull_159 : decode cX11_hull 159 = .ok (.iload 6, 2) := by decide +kernel
theorem dX11_hull_161 : decode cX11_hull 161 = .ok (.ifCond .eq 21, 3) := by decide +kernel
theorem dX11_hull_164 : decode cX11_hull 164 = .ok (.iload 4, 2) := by decide +kernel
theorem dX11_hull_166 : decode cX11_hull 166 = .ok (.iconst (-1), 1) := by decide +kernel
theorem dX11_hull_167 : decode cX11_hull 167 = .ok (.if_icmp .eq 15, 3) := by decide +kernel
theorem dX11_hull_170 : decode cX11_hull 170 = .ok (.aload_n 0, 1) := by decide +kernel
theorem dX11_hull_171 : decode cX11_hull 171 = .ok (.iload_n 3, 1) := by decide +kernel
theorem dX11_hull_172 : decode cX11_hull 172 = .ok (.iload 4, 2) := by decide +kernel
theorem dX11_hull_174 : decode cX11_hull 174 = .ok (.iload 5, 2) := by decide +kernel
theorem dX11_hull_176 : decode cX11_hull 176 = .ok (.invokevirtual 116, 3) := by decide +kernel
theorem dX11_hull_179 : decode cX11_hull 179 = .ok (.goto 4, 3) := by decide +kernel
theorem dX11_hull_182 : decode cX11_hull 182 = .ok (.iconst 0, 1) := by decide +kernel
theorem dX11_hull_183 : decode cX11_hull 183 = .ok (.istore 7, 2) := by decide +kernel
theorem dX11_hull_185 : decode cX11_hull 185 = .ok (.iload 6, 2) := by decide +kernel
theorem dX11_hull_187 : decode cX11_hull 187 = .ok (.ifCond .eq 40, 3) := by decide +kernel
theorem dX11_hull_190 : decode cX11_hull 190 = .ok (.iload 4, 2) := by decide +kernel
theorem dX11_hull_192 : decode cX11_hull 192 = .ok (.iconst (-1), 1) := by decide +kernel
theorem dX11_hull_193 : decode cX11_hull 193 = .ok (.if_icmp .eq 30, 3) := by decide +kernel
theorem dX11_hull_196 : decode cX11_hull 196 = .ok (.iload 7, 2) := by decide +kernel
theorem dX11_hull_198 : decode cX11_hull 198 = .ok (.ifCond .lt 25, 3) := by decide +kernel
theorem dX11_hull_201 : decode cX11_hull 201 = .ok (.iload 7, 2) := by decide +kernel
theorem dX11_hull_203 : decode cX11_hull 203 = .ok (.ifCond .ne 24, 3) := by decide +kernel
theorem dX11_hull_206 : decode cX11_hull 206 = .ok (.aload_n 0, 1) := by decide +kernel
theorem dX11_hull_207 : decode cX11_hull 207 = .ok (.iload_n 3, 1) := by decide +kernel
theorem dX11_hull_208 : decode cX11_hull 208 = .ok (.iload 5, 2) := by decide +kernel
theorem dX11_hull_210 : decode cX11_hull 210 = .ok (.invokevirtual 120, 3) := by decide +kernel
theorem dX11_hull_213 : decode cX11_hull 213 = .ok (.aload_n 0, 1) := by decide +kernel
theorem dX11_hull_214 : decode cX11_hull 214 = .ok (.iload_n 3, 1) := by decide +kernel
theorem dX11_hull_215 : decode cX11_hull 215 = .ok (.iload 4, 2) := by decide +kernel
theorem dX11_hull_217 : decode cX11_hull 217 = .ok (.invokevirtual 120, 3) := by decide +kernel
theorem dX11_hull_220 : decode cX11_hull 220 = .ok (.if_icmp .le 7, 3) := by decide +kernel
theorem dX11_hull_223 : decode cX11_hull 223 = .ok (.iconst 1, 1) := by decide +kernel
theorem dX11_hull_224 : decode cX11_hull 224 = .ok (.goto 4, 3) := by decide +kernel
theorem dX11_hull_227 : decode cX11_hull 227 = .ok (.iconst 0, 1) := by decide +kernel
theorem dX11_hull_228 : decode cX11_hull 228 = .ok (.istore 8, 2) := by decide +kernel
theorem dX11_hull_230 : decode cX11_hull 230 = .ok (.iload 8, 2) := by decide +kernel
theorem dX11_hull_232 : decode cX11_hull 232 = .ok (.ifCond .eq 8, 3) := by decide +kernel
theorem dX11_hull_235 : decode cX11_hull 235 = .ok (.iload 5, 2) := by decide +kernel
theorem dX11_hull_237 : decode cX11_hull 237 = .ok (.goto 5, 3) := by decide +kernel
theorem dX11_hull_240 : decode cX11_hull 240 = .ok (.iload 4, 2) := by decide +kernel
theorem dX11_hull_242 : decode cX11_hull 242 = .ok (.istore 4, 2) := by decide +kernel
theorem dX11_hull_244 : decode cX11_hull 244 = .ok (.iinc 5 1, 3) := by decide +kernel
theorem dX11_hull_247 : decode cX11_hull 247 = .ok (.goto (-118), 3) := by decide +kernel
theorem dX11_hull_250 : decode cX11_hull 250 = .ok (.iload 4, 2) := by decide +kernel
theorem dX11_hull_252 : decode cX11_hull 252 = .ok (.istore_n 3, 1) := by decide +kernel
theorem dX11_hull_253 : decode cX11_hull 253 = .ok (.goto (-167), 3) := by decide +kernel
theorem dX11_hull_256 : decode cX11_hull 256 = .ok (.return_, 1) := by decide +kernel
theorem dX11_makes_0 : decode cX11_makes 0 = .ok (.aload_n 0, 1) := by decide +kernel
theorem dX11_makes_1 : decode cX11_makes 1 = .ok (.getfield 53, 3) := by decide +kernel
theorem dX11_makes_4 : decode cX11_makes 4 = .ok (.iload_n 1, 1) := by decide +kernel
theorem dX11_makes_5 : decode cX11_makes 5 = .ok (.iaload, 1) := by decide +kernel
theorem dX11_makes_6 : decode cX11_makes 6 = .ok (.istore_n 2, 1) := by decide +kernel
theorem dX11_makes_7 : decode cX11_makes 7 = .ok (.aload_n 0, 1) := by decide +kernel
theorem dX11_makes_8 : decode cX11_makes 8 = .ok (.getfield 53, 3) := by decide +kernel
theorem dX11_makes_11 : decode cX11_makes 11 = .ok (.iload_n 1, 1) := by decide +kernel
theorem dX11_makes_12 : decode cX11_makes 12 = .ok (.iconst 1, 1) := by decide +kernel
theorem dX11_makes_13 : decode cX11_makes 13 = .ok (.iadd, 1) := by decide +kernel
theorem dX11_makes_14 : decode cX11_makes 14 = .ok (.aload_n 0, 1) := by decide +kernel
theorem dX11_makes_15 : decode cX11_makes 15 = .ok (.getfield 113, 3) := by decide +kernel
theorem dX11_makes_18 : decode cX11_makes 18 = .ok (.irem, 1) := by decide +kernel
theorem dX11_makes_19 : decode cX11_makes 19 = .ok (.iaload, 1) := by decide +kernel
theorem dX11_makes_20 : decode cX11_makes 20 = .ok (.istore_n 3, 1) := by decide +kernel
theorem dX11_makes_21 : decode cX11_makes 21 = .ok (.aload_n 0, 1) := by decide +kernel
theorem dX11_makes_22 : decode cX11_makes 22 = .ok (.invokevirtual 123, 3) := by decide +kernel
theorem dX11_makes_25 : decode cX11_makes 25 = .ok (.aload_n 0, 1) := by decide +kernel
theorem dX11_makes_26 : decode cX11_makes 26 = .ok (.invokevirtual 103, 3) := by decide +kernel
theorem dX11_makes_29 : decode cX11_makes 29 = .ok (.aload_n 0, 1) := by decide +kernel
theorem dX11_makes_30 : decode cX11_makes 30 = .ok (.getfield 41, 3) := by decide +kernel
theorem dX11_makes_33 : decode cX11_makes 33 = .ok (.iload_n 2, 1) := by decide +kernel
theorem dX11_makes_34 : decode cX11_makes 34 = .ok (.iaload, 1) := by decide +kernel
theorem dX11_makes_35 : decode cX11_makes 35 = .ok (.imul, 1) := by decide +kernel
theorem dX11_makes_36 : decode cX11_makes 36 = .ok (.isub, 1) := by decide +kernel
theorem dX11_makes_37 : decode cX11_makes 37 = .ok (.istore 4, 2) := by decide +kernel
theorem dX11_makes_39 : decode cX11_makes 39 = .ok (.aload_n 0, 1) := by decide +kernel
theorem dX11_makes_40 : decode cX11_makes 40 = .ok (.invokevirtual 126, 3) := by decide +kernel
theorem dX11_makes_43 : decode cX11_makes 43 = .ok (.aload_n 0, 1) := by decide +kernel
theorem dX11_makes_44 : decode cX11_makes 44 = .ok (.invokevirtual 103, 3) := by decide +kernel
theorem dX11_makes_47 : decode cX11_makes 47 = .ok (.aload_n 0, 1) := by decide +kernel
theorem dX11_makes_48 : decode cX11_makes 48 = .ok (.getfield 44, 3) := by decide +kernel
theorem dX11_makes_51 : decode cX11_makes 51 = .ok (.iload_n 2, 1) := by decide +kernel
theorem dX11_makes_52 : decode cX11_makes 52 = .ok (.iaload, 1) := by decide +kernel
theorem dX11_makes_53 : decode cX11_makes 53 = .ok (.imul, 1) := by decide +kernel
theorem dX11_makes_54 : decode cX11_makes 54 = .ok (.isub, 1) := by decide +kernel
theorem dX11_makes_55 : decode cX11_makes 55 = .ok (.istore 5, 2) := by decide +kernel
theorem dX11_makes_57 : decode cX11_makes 57 = .ok (.aload_n 0, 1) := by decide +kernel
theorem dX11_makes_58 : decode cX11_makes 58 = .ok (.getfield 41, 3) := by decide +kernel
theorem dX11_makes_61 : decode cX11_makes 61 = .ok (.iload_n 3, 1) := by decide +kernel
theorem dX11_makes_62 : decode cX11_makes 62 = .ok (.iaload, 1) := by decide +kernel
theorem dX11_makes_63 : decode cX11_makes 63 = .ok (.aload_n 0, 1) := by decide +kernel
theorem dX11_makes_64 : decode cX11_makes 64 = .ok (.getfield 41, 3) := by decide +kernel
theorem dX11_makes_67 : decode cX11_makes 67 = .ok (.iload_n 2, 1) := by decide +kernel
theorem dX11_makes_68 : decode cX11_makes 68 = .ok (.iaload, 1) := by decide +kernel
theorem dX11_makes_69 : decode cX11_makes 69 = .ok (.isub, 1) := by decide +kernel
theorem dX11_makes_70 : decode cX11_makes 70 = .ok (.iload 5, 2) := by decide +kernel
theorem dX11_makes_72 : decode cX11_makes 72 = .ok (.imul, 1) := by decide +kernel
theorem dX11_makes_73 : decode cX11_makes 73 = .ok (.aload_n 0, 1) := by decide +kernel
theorem dX11_makes_74 : decode cX11_makes 74 = .ok (.getfield 44, 3) := by decide +kernel
theorem dX11_makes_77 : decode cX11_makes 77 = .ok (.iload_n 3, 1) := by decide +kernel
theorem dX11_makes_78 : decode cX11_makes 78 = .ok (.iaload, 1) := by decide +kernel
theorem dX11_makes_79 : decode cX11_makes 79 = .ok (.aload_n 0, 1) := by decide +kernel
theorem dX11_makes_80 : decode cX11_makes 80 = .ok (.getfield 44, 3) := by decide +kernel
theorem dX11_makes_83 : decode cX11_makes 83 = .ok (.iload_n 2, 1) := by decide +kernel
theorem dX11_makes_84 : decode cX11_makes 84 = .ok (.iaload, 1) := by decide +kernel
theorem dX11_makes_85 : decode cX11_makes 85 = .ok (.isub, 1) := by decide +kernel
theorem dX11_makes_86 : decode cX11_makes 86 = .ok (.iload 4, 2) := by decide +kernel
theorem dX11_makes_88 : decode cX11_makes 88 = .ok (.imul, 1) := by decide +kernel
theorem dX11_makes_89 : decode cX11_makes 89 = .ok (.isub, 1) := by decide +kernel
theorem dX11_makes_90 : decode cX11_makes 90 = .ok (.ireturn, 1) := by decide +kernel
theorem dX11_holds_0 : decode cX11_holds 0 = .ok (.aload_n 0, 1) := by decide +kernel
theorem dX11_holds_1 : decode cX11_holds 1 = .ok (.iload_n 1, 1) := by decide +kernel
theorem dX11_holds_2 : decode cX11_holds 2 = .ok (.invokevirtual 129, 3) := by decide +kernel
theorem dX11_holds_5 : decode cX11_holds 5 = .ok (.aload_n 0, 1) := by decide +kernel
theorem dX11_holds_6 : decode cX11_holds 6 = .ok (.getfield 113, 3) := by decide +kernel
theorem dX11_holds_9 : decode cX11_holds 9 = .ok (.ifCond .ne 5, 3) := by decide +kernel
theorem dX11_holds_12 : decode cX11_holds 12 = .ok (.iconst 0, 1) := by decide +kernel
theorem dX11_holds_13 : decode cX11_holds 13 = .ok (.ireturn, 1) := by decide +kernel
theorem dX11_holds_14 : decode cX11_holds 14 = .ok (.aload_n 0, 1) := by decide +kernel
theorem dX11_holds_15 : decode cX11_holds 15 = .ok (.getfield 53, 3) := by decide +kernel
theorem dX11_holds_18 : decode cX11_holds 18 = .ok (.iconst 0, 1) := by decide +kernel
theorem dX11_holds_19 : decode cX11_holds 19 = .ok (.iaload, 1) := by decide +kernel
theorem dX11_holds_20 : decode cX11_holds 20 = .ok (.istore_n 2, 1) := by decide +kernel
theorem dX11_holds_21 : decode cX11_holds 21 = .ok (.aload_n 0, 1) := by decide +kernel
theorem dX11_holds_22 : decode cX11_holds 22 = .ok (.invokevirtual 123, 3) := by decide +kernel
theorem dX11_holds_25 : decode cX11_holds 25 = .ok (.aload_n 0, 1) := by decide +kernel
theorem dX11_holds_26 : decode cX11_holds 26 = .ok (.invokevirtual 103, 3) := by decide +kernel
theorem dX11_holds_29 : decode cX11_holds 29 = .ok (.aload_n 0, 1) := by decide +kernel
theorem dX11_holds_30 : decode cX11_holds 30 = .ok (.getfield 41, 3) := by decide +kernel
theorem dX11_holds_33 : decode cX11_holds 33 = .ok (.iload_n 2, 1) := by decide +kernel
theorem dX11_holds_34 : decode cX11_holds 34 = .ok (.iaload, 1) := by decide +kernel
theorem dX11_holds_35 : decode cX11_holds 35 = .ok (.imul, 1) := by decide +kernel
theorem dX11_holds_36 : decode cX11_holds 36 = .ok (.isub, 1) := by decide +kernel
theorem dX11_holds_37 : decode cX11_holds 37 = .ok (.istore_n 3, 1) := by decide +kernel
theorem dX11_holds_38 : decode cX11_holds 38 = .ok (.aload_n 0, 1) := by decide +kernel
theorem dX11_holds_39 : decode cX11_holds 39 = .ok (.invokevirtual 126, 3) := by decide +kernel
theorem dX11_holds_42 : decode cX11_holds 42 = .ok (.aload_n 0, 1) := by decide +kernel
theorem dX11_holds_43 : decode cX11_holds 43 = .ok (.invokevirtual 103, 3) := by decide +kernel
theorem dX11_holds_46 : decode cX11_holds 46 = .ok (.aload_n 0, 1) := by decide +kernel
theorem dX11_holds_47 : decode cX11_holds 47 = .ok (.getfield 44, 3) := by decide +kernel
theorem dX11_holds_50 : decode cX11_holds 50 = .ok (.iload_n 2, 1) := by decide +kernel
theorem dX11_holds_51 : decode cX11_holds 51 = .ok (.iaload, 1) := by decide +kernel
theorem dX11_holds_52 : decode cX11_holds 52 = .ok (.imul, 1) := by decide +kernel
theorem dX11_holds_53 : decode cX11_holds 53 = .ok (.isub, 1) := by decide +kernel
theorem dX11_holds_54 : decode cX11_holds 54 = .ok (.istore 4, 2) := by decide +kernel
theorem dX11_holds_56 : decode cX11_holds 56 = .ok (.aload_n 0, 1) := by decide +kernel
theorem dX11_holds_57 : decode cX11_holds 57 = .ok (.getfield 113, 3) := by decide +kernel
theorem dX11_holds_60 : decode cX11_holds 60 = .ok (.iconst 1, 1) := by decide +kernel
theorem dX11_holds_61 : decode cX11_holds 61 = .ok (.if_icmp .ne 18, 3) := by decide +kernel
theorem dX11_holds_64 : decode cX11_holds 64 = .ok (.iload_n 3, 1) := by decide +kernel
theorem dX11_holds_65 : decode cX11_holds 65 = .ok (.ifCond .ne 12, 3) := by decide +kernel
theorem dX11_holds_68 : decode cX11_holds 68 = .ok (.iload 4, 2) := by decide +kernel
theorem dX11_holds_70 : decode cX11_holds 70 = .ok (.ifCond .ne 7, 3) := by decide +kernel
theorem dX11_holds_73 : decode cX11_holds 73 = .ok (.iconst 1, 1) := by decide +kernel
theorem dX11_holds_74 : decode cX11_holds 74 = .ok (.goto 4, 3) := by decide +kernel
theorem dX11_holds_77 : decode cX11_holds 77 = .ok (.iconst 0, 1) := by decide +kernel
theorem dX11_holds_78 : decode cX11_holds 78 = .ok (.ireturn, 1) := by decide +kernel
theorem dX11_holds_79 : decode cX11_holds 79 = .ok (.iconst 1, 1) := by decide +kernel
theorem dX11_holds_80 : decode cX11_holds 80 = .ok (.istore 5, 2) := by decide +kernel
theorem dX11_holds_82 : decode cX11_holds 82 = .ok (.iconst 0, 1) := by decide +kernel
theorem dX11_holds_83 : decode cX11_holds 83 = .ok (.istore 6, 2) := by decide +kernel
theorem dX11_holds_85 : decode cX11_holds 85 = .ok (.iload 6, 2) := by decide +kernel
theorem dX11_holds_87 : decode cX11_holds 87 = .ok (.aload_n 0, 1) := by decide +kernel
theorem dX11_holds_88 : decode cX11_holds 88 = .ok (.getfield 113, 3) := by decide +kernel
theorem dX11_holds_91 : decode cX11_holds 91 = .ok (.if_icmp .ge 30, 3) := by decide +kernel
theorem dX11_holds_94 : decode cX11_holds 94 = .ok (.iload 5, 2) := by decide +kernel
theorem dX11_holds_96 : decode cX11_holds 96 = .ok (.ifCond .eq 16, 3) := by decide +kernel
theorem dX11_holds_99 : decode cX11_holds 99 = .ok (.aload_n 0, 1) := by decide +kernel
theorem dX11_holds_100 : decode cX11_holds 100 = .ok (.iload 6, 2) := by decide +kernel
theorem dX11_holds_102 : decode cX11_holds 102 = .ok (.invokevirtual 133, 3) := by decide +kernel
theorem dX11_holds_105 : decode cX11_holds 105 = .ok (.ifCond .lt 7, 3) := by decide +kernel
theorem dX11_holds_108 : decode cX11_holds 108 = .ok (.iconst 1, 1) := by decide +kernel
theorem dX11_holds_109 : decode cX11_holds 109 = .ok (.goto 4, 3) := by decide +kernel
theorem dX11_holds_112 : decode cX11_holds 112 = .ok (.iconst 0, 1) := by decide +kernel
theorem dX11_holds_113 : decode cX11_holds 113 = .ok (.istore 5, 2) := by decide +kernel
theorem dX11_holds_115 : decode cX11_holds 115 = .ok (.iinc 6 1, 3) := by decide +kernel
theorem dX11_holds_118 : decode cX11_holds 118 = .ok (.goto (-33), 3) := by decide +kernel
theorem dX11_holds_121 : decode cX11_holds 121 = .ok (.aload_n 0, 1) := by decide +kernel
theorem dX11_holds_122 : decode cX11_holds 122 = .ok (.getfield 113, 3) := by decide +kernel
theorem dX11_holds_125 : decode cX11_holds 125 = .ok (.iconst 2, 1) := by decide +kernel
theorem dX11_holds_126 : decode cX11_holds 126 = .ok (.if_icmp .le 6, 3) := by decide +kernel
theorem dX11_holds_129 : decode cX11_holds 129 = .ok (.iload 5, 2) := by decide +kernel
theorem dX11_holds_131 : decode cX11_holds 131 = .ok (.ireturn, 1) := by decide +kernel
theorem dX11_holds_132 : decode cX11_holds 132 = .ok (.aload_n 0, 1) := by decide +kernel
theorem dX11_holds_133 : decode cX11_holds 133 = .ok (.getfield 53, 3) := by decide +kernel
theorem dX11_holds_136 : decode cX11_holds 136 = .ok (.iconst 1, 1) := by decide +kernel
theorem dX11_holds_137 : decode cX11_holds 137 = .ok (.iaload, 1) := by decide +kernel
theorem dX11_holds_138 : decode cX11_holds 138 = .ok (.istore 6, 2) := by decide +kernel
theorem dX11_holds_140 : decode cX11_holds 140 = .ok (.aload_n 0, 1) := by decide +kernel
theorem dX11_holds_141 : decode cX11_holds 141 = .ok (.getfield 41, 3) := by decide +kernel
theorem dX11_holds_144 : decode cX11_holds 144 = .ok (.iload 6, 2) := by decide +kernel
theorem dX11_holds_146 : decode cX11_holds 146 = .ok (.iaload, 1) := by decide +kernel
theorem dX11_holds_147 : decode cX11_holds 147 = .ok (.aload_n 0, 1) := by decide +kernel
theorem dX11_holds_148 : decode cX11_holds 148 = .ok (.getfield 41, 3) := by decide +kernel
theorem dX11_holds_151 : decode cX11_holds 151 = .ok (.iload_n 2, 1) := by decide +kernel
theorem dX11_holds_152 : decode cX11_holds 152 = .ok (.iaload, 1) := by decide +kernel
theorem dX11_holds_153 : decode cX11_holds 153 = .ok (.isub, 1) := by decide +kernel
theorem dX11_holds_154 : decode cX11_holds 154 = .ok (.iload_n 3, 1) := by decide +kernel
theorem dX11_holds_155 : decode cX11_holds 155 = .ok (.imul, 1) := by decide +kernel
theorem dX11_holds_156 : decode cX11_holds 156 = .ok (.aload_n 0, 1) := by decide +kernel
theorem dX11_holds_157 : decode cX11_holds 157 = .ok (.getfield 44, 3) := by decide +kernel
theorem dX11_holds_160 : decode cX11_holds 160 = .ok (.iload 6, 2) := by decide +kernel
theorem dX11_holds_162 : decode cX11_holds 162 = .ok (.iaload, 1) := by decide +kernel
theorem dX11_holds_163 : decode cX11_holds 163 = .ok (.aload_n 0, 1) := by decide +kernel
theorem dX11_holds_164 : decode cX11_holds 164 = .ok (.getfield 44, 3) := by decide +kernel
theorem dX11_holds_167 : decode cX11_holds 167 = .ok (.iload_n 2, 1) := by decide +kernel
theorem dX11_holds_168 : decode cX11_holds 168 = .ok (.iaload, 1) := by decide +kernel
theorem dX11_holds_169 : decode cX11_holds 169 = .ok (.isub, 1) := by decide +kernel
theorem dX11_holds_170 : decode cX11_holds 170 = .ok (.iload 4, 2) := by decide +kernel
theorem dX11_holds_172 : decode cX11_holds 172 = .ok (.imul, 1) := by decide +kernel
theorem dX11_holds_173 : decode cX11_holds 173 = .ok (.iadd, 1) := by decide +kernel
theorem dX11_holds_174 : decode cX11_holds 174 = .ok (.istore 7, 2) := by decide +kernel
theorem dX11_holds_176 : decode cX11_holds 176 = .ok (.iload 5, 2) := by decide +kernel
theorem dX11_holds_178 : decode cX11_holds 178 = .ok (.ifCond .eq 29, 3) := by decide +kernel
theorem dX11_holds_181 : decode cX11_holds 181 = .ok (.iload 7, 2) := by decide +kernel
theorem dX11_holds_183 : decode cX11_holds 183 = .ok (.ifCond .lt 24, 3) := by decide +kernel
theorem dX11_holds_186 : decode cX11_holds 186 = .ok (.iload 7, 2) := by decide +kernel
theorem dX11_holds_188 : decode cX11_holds 188 = .ok (.aload_n 0, 1) := by decide +kernel
theorem dX11_holds_189 : decode cX11_holds 189 = .ok (.iload_n 2, 1) := by decide +kernel
theorem dX11_holds_190 : decode cX11_holds 190 = .ok (.iload 6, 2) := by decide +kernel
theorem dX11_holds_192 : decode cX11_holds 192 = .ok (.invokevirtual 120, 3) := by decide +kernel
theorem dX11_holds_195 : decode cX11_holds 195 = .ok (.aload_n 0, 1) := by decide +kernel
theorem dX11_holds_196 : decode cX11_holds 196 = .ok (.invokevirtual 103, 3) := by decide +kernel
theorem dX11_holds_199 : decode cX11_holds 199 = .ok (.imul, 1) := by decide +kernel
theorem dX11_holds_200 : decode cX11_holds 200 = .ok (.if_icmp .gt 7, 3) := by decide +kernel
theorem dX11_holds_203 : decode cX11_holds 203 = .ok (.iconst 1, 1) := by decide +kernel
theorem dX11_holds_204 : decode cX11_holds 204 = .ok (.goto 4, 3) := by decide +kernel
theorem dX11_holds_207 : decode cX11_holds 207 = .ok (.iconst 0, 1) := by decide +kernel
theorem dX11_holds_208 : decode cX11_holds 208 = .ok (.ireturn, 1) := by decide +kernel
theorem dX11_level_0 : decode cX11_level 0 = .ok (.iconst 0, 1) := by decide +kernel
theorem dX11_level_1 : decode cX11_level 1 = .ok (.istore_n 2, 1) := by decide +kernel
theorem dX11_level_2 : decode cX11_level 2 = .ok (.iconst 0, 1) := by decide +kernel
theorem dX11_level_3 : decode cX11_level 3 = .ok (.istore_n 3, 1) := by decide +kernel
theorem dX11_level_4 : decode cX11_level 4 = .ok (.iload_n 3, 1) := by decide +kernel
theorem dX11_level_5 : decode cX11_level 5 = .ok (.bipush 6, 2) := by decide +kernel
theorem dX11_level_7 : decode cX11_level 7 = .ok (.if_icmp .ge 57, 3) := by decide +kernel
theorem dX11_level_10 : decode cX11_level 10 = .ok (.iload_n 1, 1) := by decide +kernel
theorem dX11_level_11 : decode cX11_level 11 = .ok (.iload_n 3, 1) := by decide +kernel
theorem dX11_level_12 : decode cX11_level 12 = .ok (.ishr, 1) := by decide +kernel
theorem dX11_level_13 : decode cX11_level 13 = .ok (.iconst 1, 1) := by decide +kernel
theorem dX11_level_14 : decode cX11_level 14 = .ok (.iand, 1) := by decide +kernel
theorem dX11_level_15 : decode cX11_level 15 = .ok (.iconst 1, 1) := by decide +kernel
theorem dX11_level_16 : decode cX11_level 16 = .ok (.if_icmp .ne 26, 3) := by decide +kernel
theorem dX11_level_19 : decode cX11_level 19 = .ok (.aload_n 0, 1) := by decide +kernel
theorem dX11_level_20 : decode cX11_level 20 = .ok (.getfield 19, 3) := by decide +kernel
theorem dX11_level_23 : decode cX11_level 23 = .ok (.aload_n 0, 1) := by decide +kernel
theorem dX11_level_24 : decode cX11_level 24 = .ok (.getfield 41, 3) := by decide +kernel
theorem dX11_level_27 : decode cX11_level 27 = .ok (.iload_n 3, 1) := by decide +kernel
theorem dX11_level_28 : decode cX11_level 28 = .ok (.iaload, 1) := by decide +kernel
theorem dX11_level_29 : decode cX11_level 29 = .ok (.aload_n 0, 1) := by decide +kernel
theorem dX11_level_30 : decode cX11_level 30 = .ok (.getfield 44, 3) := by decide +kernel
theorem dX11_level_33 : decode cX11_level 33 = .ok (.iload_n 3, 1) := by decide +kernel
theorem dX11_level_34 : decode cX11_level 34 = .ok (.iaload, 1) := by decide +kernel
theorem dX11_level_35 : decode cX11_level 35 = .ok (.invokestatic 81, 3) := by decide +kernel
theorem dX11_level_38 : decode cX11_level 38 = .ok (.iaload, 1) := by decide +kernel
theorem dX11_level_39 : decode cX11_level 39 = .ok (.goto 4, 3) := by decide +kernel
theorem dX11_level_42 : decode cX11_level 42 = .ok (.iconst 0, 1) := by decide +kernel
theorem dX11_level_43 : decode cX11_level 43 = .ok (.istore 4, 2) := by decide +kernel
theorem dX11_level_45 : decode cX11_level 45 = .ok (.iload 4, 2) := by decide +kernel
theorem dX11_level_47 : decode cX11_level 47 = .ok (.iload_n 2, 1) := by decide +kernel
theorem dX11_level_48 : decode cX11_level 48 = .ok (.if_icmp .le 8, 3) := by decide +kernel
theorem dX11_level_51 : decode cX11_level 51 = .ok (.iload 4, 2) := by decide +kernel
theorem dX11_level_53 : decode cX11_level 53 = .ok (.goto 4, 3) := by decide +kernel
theorem dX11_level_56 : decode cX11_level 56 = .ok (.iload_n 2, 1) := by decide +kernel
theorem dX11_level_57 : decode cX11_level 57 = .ok (.istore_n 2, 1) := by decide +kernel
theorem dX11_level_58 : decode cX11_level 58 = .ok (.iinc 3 1, 3) := by decide +kernel
theorem dX11_level_61 : decode cX11_level 61 = .ok (.goto (-57), 3) := by decide +kernel
theorem dX11_level_64 : decode cX11_level 64 = .ok (.iload_n 2, 1) := by decide +kernel
theorem dX11_level_65 : decode cX11_level 65 = .ok (.ireturn, 1) := by decide +kernel
theorem dX11_pressure_0 : decode cX11_pressure 0 = .ok (.iload_n 1, 1) := by decide +kernel
theorem dX11_pressure_1 : decode cX11_pressure 1 = .ok (.invokestatic 137, 3) := by decide +kernel
theorem dX11_pressure_4 : decode cX11_pressure 4 = .ok (.istore_n 2, 1) := by decide +kernel
theorem dX11_pressure_5 : decode cX11_pressure 5 = .ok (.iload_n 2, 1) := by decide +kernel
theorem dX11_pressure_6 : decode cX11_pressure 6 = .ok (.ifCond .ne 7, 3) := by decide +kernel
theorem dX11_pressure_9 : decode cX11_pressure 9 = .ok (.iconst 0, 1) := by decide +kernel
theorem dX11_pressure_10 : decode cX11_pressure 10 = .ok (.goto 13, 3) := by decide +kernel
theorem dX11_pressure_13 : decode cX11_pressure 13 = .ok (.aload_n 0, 1) := by decide +kernel
theorem dX11_pressure_14 : decode cX11_pressure 14 = .ok (.invokevirtual 103, 3) := by decide +kernel
theorem dX11_pressure_17 : decode cX11_pressure 17 = .ok (.iload_n 2, 1) := by decide +kernel
theorem dX11_pressure_18 : decode cX11_pressure 18 = .ok (.iadd, 1) := by decide +kernel
theorem dX11_pressure_19 : decode cX11_pressure 19 = .ok (.iconst 1, 1) := by decide +kernel
theorem dX11_pressure_20 : decode cX11_pressure 20 = .ok (.isub, 1) := by decide +kernel
theorem dX11_pressure_21 : decode cX11_pressure 21 = .ok (.iload_n 2, 1) := by decide +kernel
theorem dX11_pressure_22 : decode cX11_pressure 22 = .ok (.idiv, 1) := by decide +kernel
theorem dX11_pressure_23 : decode cX11_pressure 23 = .ok (.ireturn, 1) := by decide +kernel
theorem dX11_isInReach_0 : decode cX11_isInReach 0 = .ok (.iload_n 2, 1) := by decide +kernel
theorem dX11_isInReach_1 : decode cX11_isInReach 1 = .ok (.aload_n 0, 1) := by decide +kernel
theorem dX11_isInReach_2 : decode cX11_isInReach 2 = .ok (.getfield 22, 3) := by decide +kernel
theorem dX11_isInReach_5 : decode cX11_isInReach 5 = .ok (.isub, 1) := by decide +kernel
theorem dX11_isInReach_6 : decode cX11_isInReach 6 = .ok (.aload_n 0, 1) := by decide +kernel
theorem dX11_isInReach_7 : decode cX11_isInReach 7 = .ok (.getfield 32, 3) := by decide +kernel
theorem dX11_isInReach_10 : decode cX11_isInReach 10 = .ok (.iload_n 1, 1) := by decide +kernel
theorem dX11_isInReach_11 : decode cX11_isInReach 11 = .ok (.iaload, 1) := by decide +kernel
theorem dX11_isInReach_12 : decode cX11_isInReach 12 = .ok (.isub, 1) := by decide +kernel
theorem dX11_isInReach_13 : decode cX11_isInReach 13 = .ok (.istore 4, 2) := by decide +kernel
theorem dX11_isInReach_15 : decode cX11_isInReach 15 = .ok (.iload_n 3, 1) := by decide +kernel
theorem dX11_isInReach_16 : decode cX11_isInReach 16 = .ok (.aload_n 0, 1) := by decide +kernel
theorem dX11_isInReach_17 : decode cX11_isInReach 17 = .ok (.getfield 26, 3) := by decide +kernel
theorem dX11_isInReach_20 : decode cX11_isInReach 20 = .ok (.isub, 1) := by decide +kernel
theorem dX11_isInReach_21 : decode cX11_isInReach 21 = .ok (.aload_n 0, 1) := by decide +kernel
theorem dX11_isInReach_22 : decode cX11_isInReach 22 = .ok (.getfield 35, 3) := by decide +kernel
theorem dX11_isInReach_25 : decode cX11_isInReach 25 = .ok (.iload_n 1, 1) := by decide +kernel
theorem dX11_isInReach_26 : decode cX11_isInReach 26 = .ok (.iaload, 1) := by decide +kernel
theorem dX11_isInReach_27 : decode cX11_isInReach 27 = .ok (.isub, 1) := by decide +kernel
theorem dX11_isInReach_28 : decode cX11_isInReach 28 = .ok (.istore 5, 2) := by decide +kernel
theorem dX11_isInReach_30 : decode cX11_isInReach 30 = .ok (.iload 4, 2) := by decide +kernel
theorem dX11_isInReach_32 : decode cX11_isInReach 32 = .ok (.iload 4, 2) := by decide +kernel
theorem dX11_isInReach_34 : decode cX11_isInReach 34 = .ok (.imul, 1) := by decide +kernel
theorem dX11_isInReach_35 : decode cX11_isInReach 35 = .ok (.iload 5, 2) := by decide +kernel
theorem dX11_isInReach_37 : decode cX11_isInReach 37 = .ok (.iload 5, 2) := by decide +kernel
theorem dX11_isInReach_39 : decode cX11_isInReach 39 = .ok (.imul, 1) := by decide +kernel
theorem dX11_isInReach_40 : decode cX11_isInReach 40 = .ok (.iadd, 1) := by decide +kernel
theorem dX11_isInReach_41 : decode cX11_isInReach 41 = .ok (.aload_n 0, 1) := by decide +kernel
theorem dX11_isInReach_42 : decode cX11_isInReach 42 = .ok (.getfield 38, 3) := by decide +kernel
theorem dX11_isInReach_45 : decode cX11_isInReach 45 = .ok (.iload_n 1, 1) := by decide +kernel
theorem dX11_isInReach_46 : decode cX11_isInReach 46 = .ok (.iaload, 1) := by decide +kernel
theorem dX11_isInReach_47 : decode cX11_isInReach 47 = .ok (.aload_n 0, 1) := by decide +kernel
theorem dX11_isInReach_48 : decode cX11_isInReach 48 = .ok (.getfield 38, 3) := by decide +kernel
theorem dX11_isInReach_51 : decode cX11_isInReach 51 = .ok (.iload_n 1, 1) := by decide +kernel
theorem dX11_isInReach_52 : decode cX11_isInReach 52 = .ok (.iaload, 1) := by decide +kernel
theorem dX11_isInReach_53 : decode cX11_isInReach 53 = .ok (.imul, 1) := by decide +kernel
theorem dX11_isInReach_54 : decode cX11_isInReach 54 = .ok (.if_icmp .gt 7, 3) := by decide +kernel
theorem dX11_isInReach_57 : decode cX11_isInReach 57 = .ok (.iconst 1, 1) := by decide +kernel
theorem dX11_isInReach_58 : decode cX11_isInReach 58 = .ok (.goto 4, 3) := by decide +kernel
theorem dX11_isInReach_61 : decode cX11_isInReach 61 = .ok (.iconst 0, 1) := by decide +kernel
theorem dX11_isInReach_62 : decode cX11_isInReach 62 = .ok (.ireturn, 1) := by decide +kernel
theorem dX11_far_0 : decode cX11_far 0 = .ok (.iload_n 2, 1) := by decide +kernel
theorem dX11_far_1 : decode cX11_far 1 = .ok (.aload_n 0, 1) := by decide +kernel
theorem dX11_far_2 : decode cX11_far 2 = .ok (.getfield 22, 3) := by decide +kernel
theorem dX11_far_5 : decode cX11_far 5 = .ok (.isub, 1) := by decide +kernel
theorem dX11_far_6 : decode cX11_far 6 = .ok (.aload_n 0, 1) := by decide +kernel
theorem dX11_far_7 : decode cX11_far 7 = .ok (.getfield 32, 3) := by decide +kernel
theorem dX11_far_10 : decode cX11_far 10 = .ok (.iload_n 1, 1) := by decide +kernel
theorem dX11_far_11 : decode cX11_far 11 = .ok (.iaload, 1) := by decide +kernel
theorem dX11_far_12 : decode cX11_far 12 = .ok (.isub, 1) := by decide +kernel
theorem dX11_far_13 : decode cX11_far 13 = .ok (.istore 4, 2) := by decide +kernel
theorem dX11_far_15 : decode cX11_far 15 = .ok (.iload_n 3, 1) := by decide +kernel
theorem dX11_far_16 : decode cX11_far 16 = .ok (.aload_n 0, 1) := by decide +kernel
theorem dX11_far_17 : decode cX11_far 17 = .ok (.getfield 26, 3) := by decide +kernel
theorem dX11_far_20 : decode cX11_far 20 = .ok (.isub, 1) := by decide +kernel
theorem dX11_far_21 : decode cX11_far 21 = .ok (.aload_n 0, 1) := by decide +kernel
theorem dX11_far_22 : decode cX11_far 22 = .ok (.getfield 35, 3) := by decide +kernel
theorem dX11_far_25 : decode cX11_far 25 = .ok (.iload_n 1, 1) := by decide +kernel
theorem dX11_far_26 : decode cX11_far 26 = .ok (.iaload, 1) := by decide +kernel
theorem dX11_far_27 : decode cX11_far 27 = .ok (.isub, 1) := by decide +kernel
theorem dX11_far_28 : decode cX11_far 28 = .ok (.istore 5, 2) := by decide +kernel
theorem dX11_far_30 : decode cX11_far 30 = .ok (.iload 4, 2) := by decide +kernel
theorem dX11_far_32 : decode cX11_far 32 = .ok (.ifCond .ge 9, 3) := by decide +kernel
theorem dX11_far_35 : decode cX11_far 35 = .ok (.iload 4, 2) := by decide +kernel
theorem dX11_far_37 : decode cX11_far 37 = .ok (.ineg, 1) := by decide +kernel
theorem dX11_far_38 : decode cX11_far 38 = .ok (.goto 5, 3) := by decide +kernel
theorem dX11_far_41 : decode cX11_far 41 = .ok (.iload 4, 2) := by decide +kernel
theorem dX11_far_43 : decode cX11_far 43 = .ok (.iload 5, 2) := by decide +kernel
theorem dX11_far_45 : decode cX11_far 45 = .ok (.ifCond .ge 9, 3) := by decide +kernel
theorem dX11_far_48 : decode cX11_far 48 = .ok (.iload 5, 2) := by decide +kernel
theorem dX11_far_50 : decode cX11_far 50 = .ok (.ineg, 1) := by decide +kernel
theorem dX11_far_51 : decode cX11_far 51 = .ok (.goto 5, 3) := by decide +kernel
theorem dX11_far_54 : decode cX11_far 54 = .ok (.iload 5, 2) := by decide +kernel
theorem dX11_far_56 : decode cX11_far 56 = .ok (.iadd, 1) := by decide +kernel
theorem dX11_far_57 : decode cX11_far 57 = .ok (.ireturn, 1) := by decide +kernel
theorem dX11_breaks_0 : decode cX11_breaks 0 = .ok (.aload_n 0, 1) := by decide +kernel
theorem dX11_breaks_1 : decode cX11_breaks 1 = .ok (.getfield 140, 3) := by decide +kernel
theorem dX11_breaks_4 : decode cX11_breaks 4 = .ok (.ifCond .ne 18, 3) := by decide +kernel
theorem dX11_breaks_7 : decode cX11_breaks 7 = .ok (.aload_n 0, 1) := by decide +kernel
theorem dX11_breaks_8 : decode cX11_breaks 8 = .ok (.iload_n 1, 1) := by decide +kernel
theorem dX11_breaks_9 : decode cX11_breaks 9 = .ok (.putfield 143, 3) := by decide +kernel
theorem dX11_breaks_12 : decode cX11_breaks 12 = .ok (.aload_n 0, 1) := by decide +kernel
theorem dX11_breaks_13 : decode cX11_breaks 13 = .ok (.iload_n 2, 1) := by decide +kernel
theorem dX11_breaks_14 : decode cX11_breaks 14 = .ok (.putfield 146, 3) := by decide +kernel
theorem dX11_breaks_17 : decode cX11_breaks 17 = .ok (.aload_n 0, 1) := by decide +kernel
theorem dX11_breaks_18 : decode cX11_breaks 18 = .ok (.iload_n 3, 1) := by decide +kernel
theorem dX11_breaks_19 : decode cX11_breaks 19 = .ok (.putfield 149, 3) := by decide +kernel
theorem dX11_breaks_22 : decode cX11_breaks 22 = .ok (.aload_n 0, 1) := by decide +kernel
theorem dX11_breaks_23 : decode cX11_breaks 23 = .ok (.dup, 1) := by decide +kernel
theorem dX11_breaks_24 : decode cX11_breaks 24 = .ok (.getfield 140, 3) := by decide +kernel
theorem dX11_breaks_27 : decode cX11_breaks 27 = .ok (.iconst 1, 1) := by decide +kernel
theorem dX11_breaks_28 : decode cX11_breaks 28 = .ok (.iadd, 1) := by decide +kernel
theorem dX11_breaks_29 : decode cX11_breaks 29 = .ok (.putfield 140, 3) := by decide +kernel
theorem dX11_breaks_32 : decode cX11_breaks 32 = .ok (.aload_n 0, 1) := by decide +kernel
theorem dX11_breaks_33 : decode cX11_breaks 33 = .ok (.aload_n 0, 1) := by decide +kernel
theorem dX11_breaks_34 : decode cX11_breaks 34 = .ok (.getfield 152, 3) := by decide +kernel
theorem dX11_breaks_37 : decode cX11_breaks 37 = .ok (.ifCond .ne 7, 3) := by decide +kernel
theorem dX11_breaks_40 : decode cX11_breaks 40 = .ok (.iload_n 1, 1) := by decide +kernel
theorem dX11_breaks_41 : decode cX11_breaks 41 = .ok (.goto 7, 3) := by decide +kernel
theorem dX11_breaks_44 : decode cX11_breaks 44 = .ok (.aload_n 0, 1) := by decide +kernel
theorem dX11_breaks_45 : decode cX11_breaks 45 = .ok (.getfield 152, 3) := by decide +kernel
theorem dX11_breaks_48 : decode cX11_breaks 48 = .ok (.putfield 152, 3) := by decide +kernel
theorem dX11_breaks_51 : decode cX11_breaks 51 = .ok (.return_, 1) := by decide +kernel
theorem dX11_slips_0 : decode cX11_slips 0 = .ok (.iconst (-1), 1) := by decide +kernel
theorem dX11_slips_1 : decode cX11_slips 1 = .ok (.istore_n 3, 1) := by decide +kernel
theorem dX11_slips_2 : decode cX11_slips 2 = .ok (.iconst 0, 1) := by decide +kernel
theorem dX11_slips_3 : decode cX11_slips 3 = .ok (.istore 4, 2) := by decide +kernel
theorem dX11_slips_5 : decode cX11_slips 5 = .ok (.iload 4, 2) := by decide +kernel
theorem dX11_slips_7 : decode cX11_slips 7 = .ok (.iconst 4, 1) := by decide +kernel
theorem dX11_slips_8 : decode cX11_slips 8 = .ok (.if_icmp .ge 170, 3) := by decide +kernel
theorem dX11_slips_11 : decode cX11_slips 11 = .ok (.iload 4, 2) := by decide +kernel
theorem dX11_slips_13 : decode cX11_slips 13 = .ok (.iconst 1, 1) := by decide +kernel
theorem dX11_slips_14 : decode cX11_slips 14 = .ok (.if_icmp .ne 9, 3) := by decide +kernel
theorem dX11_slips_17 : decode cX11_slips 17 = .ok (.iload_n 1, 1) := by decide +kernel
theorem dX11_slips_18 : decode cX11_slips 18 = .ok (.iconst 1, 1) := by decide +kernel
theorem dX11_slips_19 : decode cX11_slips 19 = .ok (.isub, 1) := by decide +kernel
theorem dX11_slips_20 : decode cX11_slips 20 = .ok (.goto 16, 3) := by decide +kernel
theorem dX11_slips_23 : decode cX11_slips 23 = .ok (.iload 4, 2) := by decide +kernel
theorem dX11_slips_25 : decode cX11_slips 25 = .ok (.iconst 2, 1) := by decide +kernel
theorem dX11_slips_26 : decode cX11_slips 26 = .ok (.if_icmp .ne 9, 3) := by decide +kernel
theorem dX11_slips_29 : decode cX11_slips 29 = .ok (.iload_n 1, 1) := by decide +kernel
theorem dX11_slips_30 : decode cX11_slips 30 = .ok (.iconst 1, 1) := by decide +kernel
theorem dX11_slips_31 : decode cX11_slips 31 = .ok (.iadd, 1) := by decide +kernel
theorem dX11_slips_32 : decode cX11_slips 32 = .ok (.goto 4, 3) := by decide +kernel
theorem dX11_slips_35 : decode cX11_slips 35 = .ok (.iload_n 1, 1) := by decide +kernel
theorem dX11_slips_36 : decode cX11_slips 36 = .ok (.istore 5, 2) := by decide +kernel
theorem dX11_slips_38 : decode cX11_slips 38 = .ok (.iload 4, 2) := by decide +kernel
theorem dX11_slips_40 : decode cX11_slips 40 = .ok (.ifCond .ne 9, 3) := by decide +kernel
theorem dX11_slips_43 : decode cX11_slips 43 = .ok (.iload_n 2, 1) := by decide +kernel
theorem dX11_slips_44 : decode cX11_slips 44 = .ok (.iconst 1, 1) := by decide +kernel
theorem dX11_slips_45 : decode cX11_slips 45 = .ok (.isub, 1) := by decide +kernel
theorem dX11_slips_46 : decode cX11_slips 46 = .ok (.goto 16, 3) := by decide +kernel
theorem dX11_slips_49 : decode cX11_slips 49 = .ok (.iload 4, 2) := by decide +kernel
theorem dX11_slips_51 : decode cX11_slips 51 = .ok (.iconst 3, 1) := by decide +kernel
theorem dX11_slips_52 : decode cX11_slips 52 = .ok (.if_icmp .ne 9, 3) := by decide +kernel
theorem dX11_slips_55 : decode cX11_slips 55 = .ok (.iload_n 2, 1) := by decide +kernel
theorem dX11_slips_56 : decode cX11_slips 56 = .ok (.iconst 1, 1) := by decide +kernel
theorem dX11_slips_57 : decode cX11_slips 57 = .ok (.iadd, 1) := by decide +kernel
theorem dX11_slips_58 : decode cX11_slips 58 = .ok (.goto 4, 3) := by decide +kernel
theorem dX11_slips_61 : decode cX11_slips 61 = .ok (.iload_n 2, 1) := by decide +kernel
theorem dX11_slips_62 : decode cX11_slips 62 = .ok (.istore 6, 2) := by decide +kernel
theorem dX11_slips_64 : decode cX11_slips 64 = .ok (.iload 5, 2) := by decide +kernel
theorem dX11_slips_66 : decode cX11_slips 66 = .ok (.iload 6, 2) := by decide +kernel
theorem dX11_slips_68 : decode cX11_slips 68 = .ok (.invokestatic 69, 3) := by decide +kernel
theorem dX11_slips_71 : decode cX11_slips 71 = .ok (.ifCond .eq 43, 3) := by decide +kernel
theorem dX11_slips_74 : decode cX11_slips 74 = .ok (.aload_n 0, 1) := by decide +kernel
theorem dX11_slips_75 : decode cX11_slips 75 = .ok (.getfield 7, 3) := by decide +kernel
theorem dX11_slips_78 : decode cX11_slips 78 = .ok (.iload_n 1, 1) := by decide +kernel
theorem dX11_slips_79 : decode cX11_slips 79 = .ok (.iload_n 2, 1) := by decide +kernel
theorem dX11_slips_80 : decode cX11_slips 80 = .ok (.invokestatic 81, 3) := by decide +kernel
theorem dX11_slips_83 : decode cX11_slips 83 = .ok (.iaload, 1) := by decide +kernel
theorem dX11_slips_84 : decode cX11_slips 84 = .ok (.aload_n 0, 1) := by decide +kernel
theorem dX11_slips_85 : decode cX11_slips 85 = .ok (.getfield 7, 3) := by decide +kernel
theorem dX11_slips_88 : decode cX11_slips 88 = .ok (.iload 5, 2) := by decide +kernel
theorem dX11_slips_90 : decode cX11_slips 90 = .ok (.iload 6, 2) := by decide +kernel
theorem dX11_slips_92 : decode cX11_slips 92 = .ok (.invokestatic 81, 3) := by decide +kernel
theorem dX11_slips_95 : decode cX11_slips 95 = .ok (.iaload, 1) := by decide +kernel
theorem dX11_slips_96 : decode cX11_slips 96 = .ok (.isub, 1) := by decide +kernel
theorem dX11_slips_97 : decode cX11_slips 97 = .ok (.aload_n 0, 1) := by decide +kernel
theorem dX11_slips_98 : decode cX11_slips 98 = .ok (.getfield 16, 3) := by decide +kernel
theorem dX11_slips_101 : decode cX11_slips 101 = .ok (.iload_n 1, 1) := by decide +kernel
theorem dX11_slips_102 : decode cX11_slips 102 = .ok (.iload_n 2, 1) := by decide +kernel
theorem dX11_slips_103 : decode cX11_slips 103 = .ok (.invokestatic 81, 3) := by decide +kernel
theorem dX11_slips_106 : decode cX11_slips 106 = .ok (.iaload, 1) := by decide +kernel
theorem dX11_slips_107 : decode cX11_slips 107 = .ok (.if_icmp .le 7, 3) := by decide +kernel
theorem dX11_slips_110 : decode cX11_slips 110 = .ok (.iconst 1, 1) := by decide +kernel
theorem dX11_slips_111 : decode cX11_slips 111 = .ok (.goto 4, 3) := by decide +kernel
theorem dX11_slips_114 : decode cX11_slips 114 = .ok (.iconst 0, 1) := by decide +kernel
theorem dX11_slips_115 : decode cX11_slips 115 = .ok (.istore 7, 2) := by decide +kernel
theorem dX11_slips_117 : decode cX11_slips 117 = .ok (.iload 7, 2) := by decide +kernel
theorem dX11_slips_119 : decode cX11_slips 119 = .ok (.ifCond .eq 33, 3) := by decide +kernel
theorem dX11_slips_122 : decode cX11_slips 122 = .ok (.iload_n 3, 1) := by decide +kernel
theorem dX11_slips_123 : decode cX11_slips 123 = .ok (.iconst (-1), 1) := by decide +kernel
theorem dX11_slips_124 : decode cX11_slips 124 = .ok (.if_icmp .eq 24, 3) := by decide +kernel
theorem dX11_slips_127 : decode cX11_slips 127 = .ok (.aload_n 0, 1) := by decide +kernel
theorem dX11_slips_128 : decode cX11_slips 128 = .ok (.getfield 7, 3) := by decide +kernel
theorem dX11_slips_131 : decode cX11_slips 131 = .ok (.iload 5, 2) := by decide +kernel
theorem dX11_slips_133 : decode cX11_slips 133 = .ok (.iload 6, 2) := by decide +kernel
theorem dX11_slips_135 : decode cX11_slips 135 = .ok (.invokestatic 81, 3) := by decide +kernel
theorem dX11_slips_138 : decode cX11_slips 138 = .ok (.iaload, 1) := by decide +kernel
theorem dX11_slips_139 : decode cX11_slips 139 = .ok (.aload_n 0, 1) := by decide +kernel
theorem dX11_slips_140 : decode cX11_slips 140 = .ok (.getfield 7, 3) := by decide +kernel
theorem dX11_slips_143 : decode cX11_slips 143 = .ok (.iload_n 3, 1) := by decide +kernel
theorem dX11_slips_144 : decode cX11_slips 144 = .ok (.iaload, 1) := by decide +kernel
theorem dX11_slips_145 : decode cX11_slips 145 = .ok (.if_icmp .ge 7, 3) := by decide +kernel
theorem dX11_slips_148 : decode cX11_slips 148 = .ok (.iconst 1, 1) := by decide +kernel
theorem dX11_slips_149 : decode cX11_slips 149 = .ok (.goto 4, 3) := by decide +kernel
theorem dX11_slips_152 : decode cX11_slips 152 = .ok (.iconst 0, 1) := by decide +kernel
theorem dX11_slips_153 : decode cX11_slips 153 = .ok (.istore 8, 2) := by decide +kernel
theorem dX11_slips_155 : decode cX11_slips 155 = .ok (.iload 8, 2) := by decide +kernel
theorem dX11_slips_157 : decode cX11_slips 157 = .ok (.ifCond .eq 13, 3) := by decide +kernel
theorem dX11_slips_160 : decode cX11_slips 160 = .ok (.iload 5, 2) := by decide +kernel
theorem dX11_slips_162 : decode cX11_slips 162 = .ok (.iload 6, 2) := by decide +kernel
theorem dX11_slips_164 : decode cX11_slips 164 = .ok (.invokestatic 81, 3) := by decide +kernel
theorem dX11_slips_167 : decode cX11_slips 167 = .ok (.goto 4, 3) := by decide +kernel
theorem dX11_slips_170 : decode cX11_slips 170 = .ok (.iload_n 3, 1) := by decide +kernel
theorem dX11_slips_171 : decode cX11_slips 171 = .ok (.istore_n 3, 1) := by decide +kernel
theorem dX11_slips_172 : decode cX11_slips 172 = .ok (.iinc 4 1, 3) := by decide +kernel
theorem dX11_slips_175 : decode cX11_slips 175 = .ok (.goto (-170), 3) := by decide +kernel
theorem dX11_slips_178 : decode cX11_slips 178 = .ok (.iload_n 3, 1) := by decide +kernel
theorem dX11_slips_179 : decode cX11_slips 179 = .ok (.ireturn, 1) := by decide +kernel
theorem dX11_comesDown_0 : decode cX11_comesDown 0 = .ok (.aload_n 0, 1) := by decide +kernel
theorem dX11_comesDown_1 : decode cX11_comesDown 1 = .ok (.getfield 41, 3) := by decide +kernel
theorem dX11_comesDown_4 : decode cX11_comesDown 4 = .ok (.iload_n 1, 1) := by decide +kernel
theorem dX11_comesDown_5 : decode cX11_comesDown 5 = .ok (.iload_n 2, 1) := by decide +kernel
theorem dX11_comesDown_6 : decode cX11_comesDown 6 = .ok (.iastore, 1) := by decide +kernel
theorem dX11_comesDown_7 : decode cX11_comesDown 7 = .ok (.aload_n 0, 1) := by decide +kernel
theorem dX11_comesDown_8 : decode cX11_comesDown 8 = .ok (.getfield 44, 3) := by decide +kernel
theorem dX11_comesDown_11 : decode cX11_comesDown 11 = .ok (.iload_n 1, 1) := by decide +kernel
theorem dX11_comesDown_12 : decode cX11_comesDown 12 = .ok (.iload_n 3, 1) := by decide +kernel
theorem dX11_comesDown_13 : decode cX11_comesDown 13 = .ok (.iastore, 1) := by decide +kernel
theorem dX11_comesDown_14 : decode cX11_comesDown 14 = .ok (.aload_n 0, 1) := by decide +kernel
theorem dX11_comesDown_15 : decode cX11_comesDown 15 = .ok (.dup, 1) := by decide +kernel
theorem dX11_comesDown_16 : decode cX11_comesDown 16 = .ok (.getfield 66, 3) := by decide +kernel
theorem dX11_comesDown_19 : decode cX11_comesDown 19 = .ok (.iconst 1, 1) := by decide +kernel
theorem dX11_comesDown_20 : decode cX11_comesDown 20 = .ok (.iload_n 1, 1) := by decide +kernel
theorem dX11_comesDown_21 : decode cX11_comesDown 21 = .ok (.ishl, 1) := by decide +kernel
theorem dX11_comesDown_22 : decode cX11_comesDown 22 = .ok (.ior, 1) := by decide +kernel
theorem dX11_comesDown_23 : decode cX11_comesDown 23 = .ok (.putfield 66, 3) := by decide +kernel
theorem dX11_comesDown_26 : decode cX11_comesDown 26 = .ok (.return_, 1) := by decide +kernel
theorem dX11_sets_0 : decode cX11_sets 0 = .ok (.aload_n 0, 1) := by decide +kernel
theorem dX11_sets_1 : decode cX11_sets 1 = .ok (.getfield 7, 3) := by decide +kernel
theorem dX11_sets_4 : decode cX11_sets 4 = .ok (.iload_n 2, 1) := by decide +kernel
theorem dX11_sets_5 : decode cX11_sets 5 = .ok (.iload_n 3, 1) := by decide +kernel
theorem dX11_sets_6 : decode cX11_sets 6 = .ok (.invokestatic 81, 3) := by decide +kernel
theorem dX11_sets_9 : decode cX11_sets 9 = .ok (.iaload, 1) := by decide +kernel
theorem dX11_sets_10 : decode cX11_sets 10 = .ok (.aload_n 0, 1) := by decide +kernel
theorem dX11_sets_11 : decode cX11_sets 11 = .ok (.getfield 19, 3) := by decide +kernel
theorem dX11_sets_14 : decode cX11_sets 14 = .ok (.iload_n 2, 1) := by decide +kernel
theorem dX11_sets_15 : decode cX11_sets 15 = .ok (.iload_n 3, 1) := by decide +kernel
theorem dX11_sets_16 : decode cX11_sets 16 = .ok (.invokestatic 81, 3) := by decide +kernel
theorem dX11_sets_19 : decode cX11_sets 19 = .ok (.iaload, 1) := by decide +kernel
theorem dX11_sets_20 : decode cX11_sets 20 = .ok (.isub, 1) := by decide +kernel
theorem dX11_sets_21 : decode cX11_sets 21 = .ok (.istore 4, 2) := by decide +kernel
theorem dX11_sets_23 : decode cX11_sets 23 = .ok (.aload_n 0, 1) := by decide +kernel
theorem dX11_sets_24 : decode cX11_sets 24 = .ok (.iload_n 2, 1) := by decide +kernel
theorem dX11_sets_25 : decode cX11_sets 25 = .ok (.iload_n 3, 1) := by decide +kernel
theorem dX11_sets_26 : decode cX11_sets 26 = .ok (.invokevirtual 155, 3) := by decide +kernel
theorem dX11_sets_29 : decode cX11_sets 29 = .ok (.istore 5, 2) := by decide +kernel
theorem dX11_sets_31 : decode cX11_sets 31 = .ok (.aload_n 0, 1) := by decide +kernel
theorem dX11_sets_32 : decode cX11_sets 32 = .ok (.getfield 19, 3) := by decide +kernel
theorem dX11_sets_35 : decode cX11_sets 35 = .ok (.iload_n 2, 1) := by decide +kernel
theorem dX11_sets_36 : decode cX11_sets 36 = .ok (.iload_n 3, 1) := by decide +kernel
theorem dX11_sets_37 : decode cX11_sets 37 = .ok (.invokestatic 81, 3) := by decide +kernel
theorem dX11_sets_40 : decode cX11_sets 40 = .ok (.aload_n 0, 1) := by decide +kernel
theorem dX11_sets_41 : decode cX11_sets 41 = .ok (.getfield 7, 3) := by decide +kernel
theorem dX11_sets_44 : decode cX11_sets 44 = .ok (.iload_n 2, 1) := by decide +kernel
theorem dX11_sets_45 : decode cX11_sets 45 = .ok (.iload_n 3, 1) := by decide +kernel
theorem dX11_sets_46 : decode cX11_sets 46 = .ok (.invokestatic 81, 3) := by decide +kernel
theorem dX11_sets_49 : decode cX11_sets 49 = .ok (.iaload, 1) := by decide +kernel
theorem dX11_sets_50 : decode cX11_sets 50 = .ok (.iastore, 1) := by decide +kernel
theorem dX11_sets_51 : decode cX11_sets 51 = .ok (.iload 4, 2) := by decide +kernel
theorem dX11_sets_53 : decode cX11_sets 53 = .ok (.iconst 2, 1) := by decide +kernel
theorem dX11_sets_54 : decode cX11_sets 54 = .ok (.if_icmp .ge 10, 3) := by decide +kernel
theorem dX11_sets_57 : decode cX11_sets 57 = .ok (.iload 4, 2) := by decide +kernel
theorem dX11_sets_59 : decode cX11_sets 59 = .ok (.bipush (-2), 2) := by decide +kernel
theorem dX11_sets_61 : decode cX11_sets 61 = .ok (.if_icmp .gt 13, 3) := by decide +kernel
theorem dX11_sets_64 : decode cX11_sets 64 = .ok (.aload_n 0, 1) := by decide +kernel
theorem dX11_sets_65 : decode cX11_sets 65 = .ok (.iconst 1, 1) := by decide +kernel
theorem dX11_sets_66 : decode cX11_sets 66 = .ok (.iload_n 2, 1) := by decide +kernel
theorem dX11_sets_67 : decode cX11_sets 67 = .ok (.iload_n 3, 1) := by decide +kernel
theorem dX11_sets_68 : decode cX11_sets 68 = .ok (.invokevirtual 158, 3) := by decide +kernel
theorem dX11_sets_71 : decode cX11_sets 71 = .ok (.goto 87, 3) := by decide +kernel
theorem dX11_sets_74 : decode cX11_sets 74 = .ok (.iload 5, 2) := by decide +kernel
theorem dX11_sets_76 : decode cX11_sets 76 = .ok (.iconst (-1), 1) := by decide +kernel
theorem dX11_sets_77 : decode cX11_sets 77 = .ok (.if_icmp .eq 74, 3) := by decide +kernel
theorem dX11_sets_80 : decode cX11_sets 80 = .ok (.aload_n 0, 1) := by decide +kernel
theorem dX11_sets_81 : decode cX11_sets 81 = .ok (.iconst 3, 1) := by decide +kernel
theorem dX11_sets_82 : decode cX11_sets 82 = .ok (.iload_n 2, 1) := by decide +kernel
theorem dX11_sets_83 : decode cX11_sets 83 = .ok (.iload_n 3, 1) := by decide +kernel
theorem dX11_sets_84 : decode cX11_sets 84 = .ok (.invokevirtual 158, 3) := by decide +kernel
theorem dX11_sets_87 : decode cX11_sets 87 = .ok (.aload_n 0, 1) := by decide +kernel
theorem dX11_sets_88 : decode cX11_sets 88 = .ok (.getfield 19, 3) := by decide +kernel
theorem dX11_sets_91 : decode cX11_sets 91 = .ok (.iload 5, 2) := by decide +kernel
theorem dX11_sets_93 : decode cX11_sets 93 = .ok (.aload_n 0, 1) := by decide +kernel
theorem dX11_sets_94 : decode cX11_sets 94 = .ok (.getfield 7, 3) := by decide +kernel
theorem dX11_sets_97 : decode cX11_sets 97 = .ok (.iload 5, 2) := by decide +kernel
theorem dX11_sets_99 : decode cX11_sets 99 = .ok (.iaload, 1) := by decide +kernel
theorem dX11_sets_100 : decode cX11_sets 100 = .ok (.iastore, 1) := by decide +kernel
theorem dX11_sets_101 : decode cX11_sets 101 = .ok (.iload 5, 2) := by decide +kernel
theorem dX11_sets_103 : decode cX11_sets 103 = .ok (.bipush 20, 2) := by decide +kernel
theorem dX11_sets_105 : decode cX11_sets 105 = .ok (.irem, 1) := by decide +kernel
theorem dX11_sets_106 : decode cX11_sets 106 = .ok (.istore 6, 2) := by decide +kernel
theorem dX11_sets_108 : decode cX11_sets 108 = .ok (.iload 5, 2) := by decide +kernel
theorem dX11_sets_110 : decode cX11_sets 110 = .ok (.bipush 20, 2) := by decide +kernel
theorem dX11_sets_112 : decode cX11_sets 112 = .ok (.idiv, 1) := by decide +kernel
theorem dX11_sets_113 : decode cX11_sets 113 = .ok (.istore 7, 2) := by decide +kernel
theorem dX11_sets_115 : decode cX11_sets 115 = .ok (.aload_n 0, 1) := by decide +kernel
theorem dX11_sets_116 : decode cX11_sets 116 = .ok (.iload_n 1, 1) := by decide +kernel
theorem dX11_sets_117 : decode cX11_sets 117 = .ok (.iload 6, 2) := by decide +kernel
theorem dX11_sets_119 : decode cX11_sets 119 = .ok (.iload 7, 2) := by decide +kernel
theorem dX11_sets_121 : decode cX11_sets 121 = .ok (.invokevirtual 162, 3) := by decide +kernel
theorem dX11_sets_124 : decode cX11_sets 124 = .ok (.ifCond .eq 24, 3) := by decide +kernel
theorem dX11_sets_127 : decode cX11_sets 127 = .ok (.aload_n 0, 1) := by decide +kernel
theorem dX11_sets_128 : decode cX11_sets 128 = .ok (.iload 6, 2) := by decide +kernel
theorem dX11_sets_130 : decode cX11_sets 130 = .ok (.iload 7, 2) := by decide +kernel
theorem dX11_sets_132 : decode cX11_sets 132 = .ok (.invokevirtual 73, 3) := by decide +kernel
theorem dX11_sets_135 : decode cX11_sets 135 = .ok (.iconst (-1), 1) := by decide +kernel
theorem dX11_sets_136 : decode cX11_sets 136 = .ok (.if_icmp .ne 12, 3) := by decide +kernel
theorem dX11_sets_139 : decode cX11_sets 139 = .ok (.aload_n 0, 1) := by decide +kernel
theorem dX11_sets_140 : decode cX11_sets 140 = .ok (.iload_n 1, 1) := by decide +kernel
theorem dX11_sets_141 : decode cX11_sets 141 = .ok (.iload 6, 2) := by decide +kernel
theorem dX11_sets_143 : decode cX11_sets 143 = .ok (.iload 7, 2) := by decide +kernel
theorem dX11_sets_145 : decode cX11_sets 145 = .ok (.invokevirtual 165, 3) := by decide +kernel
theorem dX11_sets_148 : decode cX11_sets 148 = .ok (.goto 10, 3) := by decide +kernel
theorem dX11_sets_151 : decode cX11_sets 151 = .ok (.aload_n 0, 1) := by decide +kernel
theorem dX11_sets_152 : decode cX11_sets 152 = .ok (.iload_n 1, 1) := by decide +kernel
theorem dX11_sets_153 : decode cX11_sets 153 = .ok (.iload_n 2, 1) := by decide +kernel
theorem dX11_sets_154 : decode cX11_sets 154 = .ok (.iload_n 3, 1) := by decide +kernel
theorem dX11_sets_155 : decode cX11_sets 155 = .ok (.invokevirtual 165, 3) := by decide +kernel
theorem dX11_sets_158 : decode cX11_sets 158 = .ok (.return_, 1) := by decide +kernel
theorem dX11_sinking_0 : decode cX11_sinking 0 = .ok (.iconst 0, 1) := by decide +kernel
theorem dX11_sinking_1 : decode cX11_sinking 1 = .ok (.istore_n 2, 1) := by decide +kernel
theorem dX11_sinking_2 : decode cX11_sinking 2 = .ok (.iconst 0, 1) := by decide +kernel
theorem dX11_sinking_3 : decode cX11_sinking 3 = .ok (.istore_n 3, 1) := by decide +kernel
theorem dX11_sinking_4 : decode cX11_sinking 4 = .ok (.iload_n 3, 1) := by decide +kernel
theorem dX11_sinking_5 : decode cX11_sinking 5 = .ok (.bipush 6, 2) := by decide +kernel
theorem dX11_sinking_7 : decode cX11_sinking 7 = .ok (.if_icmp .ge 68, 3) := by decide +kernel
theorem dX11_sinking_10 : decode cX11_sinking 10 = .ok (.iload_n 1, 1) := by decide +kernel
theorem dX11_sinking_11 : decode cX11_sinking 11 = .ok (.iload_n 3, 1) := by decide +kernel
theorem dX11_sinking_12 : decode cX11_sinking 12 = .ok (.ishr, 1) := by decide +kernel
theorem dX11_sinking_13 : decode cX11_sinking 13 = .ok (.iconst 1, 1) := by decide +kernel
theorem dX11_sinking_14 : decode cX11_sinking 14 = .ok (.iand, 1) := by decide +kernel
theorem dX11_sinking_15 : decode cX11_sinking 15 = .ok (.iconst 1, 1) := by decide +kernel
theorem dX11_sinking_16 : decode cX11_sinking 16 = .ok (.if_icmp .ne 35, 3) := by decide +kernel
theorem dX11_sinking_19 : decode cX11_sinking 19 = .ok (.aload_n 0, 1) := by decide +kernel
theorem dX11_sinking_20 : decode cX11_sinking 20 = .ok (.getfield 13, 3) := by decide +kernel
theorem dX11_sinking_23 : decode cX11_sinking 23 = .ok (.aload_n 0, 1) := by decide +kernel
theorem dX11_sinking_24 : decode cX11_sinking 24 = .ok (.getfield 41, 3) := by decide +kernel
theorem dX11_sinking_27 : decode cX11_sinking 27 = .ok (.iload_n 3, 1) := by decide +kernel
theorem dX11_sinking_28 : decode cX11_sinking 28 = .ok (.iaload, 1) := by decide +kernel
theorem dX11_sinking_29 : decode cX11_sinking 29 = .ok (.aload_n 0, 1) := by decide +kernel
theorem dX11_sinking_30 : decode cX11_sinking 30 = .ok (.getfield 44, 3) := by decide +kernel
theorem dX11_sinking_33 : decode cX11_sinking 33 = .ok (.iload_n 3, 1) := by decide +kernel
theorem dX11_sinking_34 : decode cX11_sinking 34 = .ok (.iaload, 1) := by decide +kernel
theorem dX11_sinking_35 : decode cX11_sinking 35 = .ok (.invokestatic 81, 3) := by decide +kernel
theorem dX11_sinking_38 : decode cX11_sinking 38 = .ok (.iaload, 1) := by decide +kernel
theorem dX11_sinking_39 : decode cX11_sinking 39 = .ok (.aload_n 0, 1) := by decide +kernel
theorem dX11_sinking_40 : decode cX11_sinking 40 = .ok (.iload_n 1, 1) := by decide +kernel
theorem dX11_sinking_41 : decode cX11_sinking 41 = .ok (.invokevirtual 168, 3) := by decide +kernel
theorem dX11_sinking_44 : decode cX11_sinking 44 = .ok (.if_icmp .ge 7, 3) := by decide +kernel
theorem dX11_sinking_47 : decode cX11_sinking 47 = .ok (.iconst 1, 1) := by decide +kernel
theorem dX11_sinking_48 : decode cX11_sinking 48 = .ok (.goto 4, 3) := by decide +kernel
theorem dX11_sinking_51 : decode cX11_sinking 51 = .ok (.iconst 0, 1) := by decide +kernel
theorem dX11_sinking_52 : decode cX11_sinking 52 = .ok (.istore 4, 2) := by decide +kernel
theorem dX11_sinking_54 : decode cX11_sinking 54 = .ok (.iload_n 2, 1) := by decide +kernel
theorem dX11_sinking_55 : decode cX11_sinking 55 = .ok (.iload 4, 2) := by decide +kernel
theorem dX11_sinking_57 : decode cX11_sinking 57 = .ok (.ifCond .eq 9, 3) := by decide +kernel
theorem dX11_sinking_60 : decode cX11_sinking 60 = .ok (.iconst 1, 1) := by decide +kernel
theorem dX11_sinking_61 : decode cX11_sinking 61 = .ok (.iload_n 3, 1) := by decide +kernel
theorem dX11_sinking_62 : decode cX11_sinking 62 = .ok (.ishl, 1) := by decide +kernel
theorem dX11_sinking_63 : decode cX11_sinking 63 = .ok (.goto 4, 3) := by decide +kernel
theorem dX11_sinking_66 : decode cX11_sinking 66 = .ok (.iconst 0, 1) := by decide +kernel
theorem dX11_sinking_67 : decode cX11_sinking 67 = .ok (.ior, 1) := by decide +kernel
theorem dX11_sinking_68 : decode cX11_sinking 68 = .ok (.istore_n 2, 1) := by decide +kernel
theorem dX11_sinking_69 : decode cX11_sinking 69 = .ok (.iinc 3 1, 3) := by decide +kernel
theorem dX11_sinking_72 : decode cX11_sinking 72 = .ok (.goto (-68), 3) := by decide +kernel
theorem dX11_sinking_75 : decode cX11_sinking 75 = .ok (.iload_n 2, 1) := by decide +kernel
theorem dX11_sinking_76 : decode cX11_sinking 76 = .ok (.ireturn, 1) := by decide +kernel
theorem dX11_sinks_0 : decode cX11_sinks 0 = .ok (.aload_n 0, 1) := by decide +kernel
theorem dX11_sinks_1 : decode cX11_sinks 1 = .ok (.aload_n 0, 1) := by decide +kernel
theorem dX11_sinks_2 : decode cX11_sinks 2 = .ok (.getfield 66, 3) := by decide +kernel
theorem dX11_sinks_5 : decode cX11_sinks 5 = .ok (.invokevirtual 171, 3) := by decide +kernel
theorem dX11_sinks_8 : decode cX11_sinks 8 = .ok (.istore_n 1, 1) := by decide +kernel
theorem dX11_sinks_9 : decode cX11_sinks 9 = .ok (.iload_n 1, 1) := by decide +kernel
theorem dX11_sinks_10 : decode cX11_sinks 10 = .ok (.ifCond .eq 122, 3) := by decide +kernel
theorem dX11_sinks_13 : decode cX11_sinks 13 = .ok (.iconst 0, 1) := by decide +kernel
theorem dX11_sinks_14 : decode cX11_sinks 14 = .ok (.istore_n 2, 1) := by decide +kernel
theorem dX11_sinks_15 : decode cX11_sinks 15 = .ok (.iload_n 2, 1) := by decide +kernel
theorem dX11_sinks_16 : decode cX11_sinks 16 = .ok (.bipush 6, 2) := by decide +kernel
theorem dX11_sinks_18 : decode cX11_sinks 18 = .ok (.if_icmp .ge 90, 3) := by decide +kernel
theorem dX11_sinks_21 : decode cX11_sinks 21 = .ok (.iload_n 1, 1) := by decide +kernel
theorem dX11_sinks_22 : decode cX11_sinks 22 = .ok (.iload_n 2, 1) := by decide +kernel
theorem dX11_sinks_23 : decode cX11_sinks 23 = .ok (.ishr, 1) := by decide +kernel
theorem dX11_sinks_24 : decode cX11_sinks 24 = .ok (.iconst 1, 1) := by decide +kernel
theorem dX11_sinks_25 : decode cX11_sinks 25 = .ok (.iand, 1) := by decide +kernel
theorem dX11_sinks_26 : decode cX11_sinks 26 = .ok (.iconst 1, 1) := by decide +kernel
theorem dX11_sinks_27 : decode cX11_sinks 27 = .ok (.if_icmp .ne 75, 3) := by decide +kernel
theorem dX11_sinks_30 : decode cX11_sinks 30 = .ok (.aload_n 0, 1) := by decide +kernel
theorem dX11_sinks_31 : decode cX11_sinks 31 = .ok (.getfield 41, 3) := by decide +kernel
theorem dX11_sinks_34 : decode cX11_sinks 34 = .ok (.iload_n 2, 1) := by decide +kernel
theorem dX11_sinks_35 : decode cX11_sinks 35 = .ok (.iaload, 1) := by decide +kernel
theorem dX11_sinks_36 : decode cX11_sinks 36 = .ok (.aload_n 0, 1) := by decide +kernel
theorem dX11_sinks_37 : decode cX11_sinks 37 = .ok (.getfield 44, 3) := by decide +kernel
theorem dX11_sinks_40 : decode cX11_sinks 40 = .ok (.iload_n 2, 1) := by decide +kernel
theorem dX11_sinks_41 : decode cX11_sinks 41 = .ok (.iaload, 1) := by decide +kernel
theorem dX11_sinks_42 : decode cX11_sinks 42 = .ok (.invokestatic 81, 3) := by decide +kernel
theorem dX11_sinks_45 : decode cX11_sinks 45 = .ok (.istore_n 3, 1) := by decide +kernel
theorem dX11_sinks_46 : decode cX11_sinks 46 = .ok (.aload_n 0, 1) := by decide +kernel
theorem dX11_sinks_47 : decode cX11_sinks 47 = .ok (.getfield 7, 3) := by decide +kernel
theorem dX11_sinks_50 : decode cX11_sinks 50 = .ok (.iload_n 3, 1) := by decide +kernel
theorem dX11_sinks_51 : decode cX11_sinks 51 = .ok (.aload_n 0, 1) := by decide +kernel
theorem dX11_sinks_52 : decode cX11_sinks 52 = .ok (.getfield 7, 3) := by decide +kernel
theorem dX11_sinks_55 : decode cX11_sinks 55 = .ok (.iload_n 3, 1) := by decide +kernel
theorem dX11_sinks_56 : decode cX11_sinks 56 = .ok (.iaload, 1) := by decide +kernel
theorem dX11_sinks_57 : decode cX11_sinks 57 = .ok (.ifCond .le 14, 3) := by decide +kernel
theorem dX11_sinks_60 : decode cX11_sinks 60 = .ok (.aload_n 0, 1) := by decide +kernel
theorem dX11_sinks_61 : decode cX11_sinks 61 = .ok (.getfield 7, 3) := by decide +kernel
theorem dX11_sinks_64 : decode cX11_sinks 64 = .ok (.iload_n 3, 1) := by decide +kernel
theorem dX11_sinks_65 : decode cX11_sinks 65 = .ok (.iaload, 1) := by decide +kernel
theorem dX11_sinks_66 : decode cX11_sinks 66 = .ok (.iconst 1, 1) := by decide +kernel
theorem dX11_sinks_67 : decode cX11_sinks 67 = .ok (.isub, 1) := by decide +kernel
theorem dX11_sinks_68 : decode cX11_sinks 68 = .ok (.goto 4, 3) := by decide +kernel
theorem dX11_sinks_71 : decode cX11_sinks 71 = .ok (.iconst 0, 1) := by decide +kernel
theorem dX11_sinks_72 : decode cX11_sinks 72 = .ok (.iastore, 1) := by decide +kernel
theorem dX11_sinks_73 : decode cX11_sinks 73 = .ok (.aload_n 0, 1) := by decide +kernel
theorem dX11_sinks_74 : decode cX11_sinks 74 = .ok (.getfield 19, 3) := by decide +kernel
theorem dX11_sinks_77 : decode cX11_sinks 77 = .ok (.iload_n 3, 1) := by decide +kernel
theorem dX11_sinks_78 : decode cX11_sinks 78 = .ok (.aload_n 0, 1) := by decide +kernel
theorem dX11_sinks_79 : decode cX11_sinks 79 = .ok (.getfield 7, 3) := by decide +kernel
theorem dX11_sinks_82 : decode cX11_sinks 82 = .ok (.iload_n 3, 1) := by decide +kernel
theorem dX11_sinks_83 : decode cX11_sinks 83 = .ok (.iaload, 1) := by decide +kernel
theorem dX11_sinks_84 : decode cX11_sinks 84 = .ok (.iastore, 1) := by decide +kernel
theorem dX11_sinks_85 : decode cX11_sinks 85 = .ok (.aload_n 0, 1) := by decide +kernel
theorem dX11_sinks_86 : decode cX11_sinks 86 = .ok (.iconst 2, 1) := by decide +kernel
theorem dX11_sinks_87 : decode cX11_sinks 87 = .ok (.aload_n 0, 1) := by decide +kernel
theorem dX11_sinks_88 : decode cX11_sinks 88 = .ok (.getfield 41, 3) := by decide +kernel
theorem dX11_sinks_91 : decode cX11_sinks 91 = .ok (.iload_n 2, 1) := by decide +kernel
theorem dX11_sinks_92 : decode cX11_sinks 92 = .ok (.iaload, 1) := by decide +kernel
theorem dX11_sinks_93 : decode cX11_sinks 93 = .ok (.aload_n 0, 1) := by decide +kernel
theorem dX11_sinks_94 : decode cX11_sinks 94 = .ok (.getfield 44, 3) := by decide +kernel
theorem dX11_sinks_97 : decode cX11_sinks 97 = .ok (.iload_n 2, 1) := by decide +kernel
theorem dX11_sinks_98 : decode cX11_sinks 98 = .ok (.iaload, 1) := by decide +kernel
theorem dX11_sinks_99 : decode cX11_sinks 99 = .ok (.invokevirtual 158, 3) := by decide +kernel
theorem dX11_sinks_102 : decode cX11_sinks 102 = .ok (.iinc 2 1, 3) := by decide +kernel
theorem dX11_sinks_105 : decode cX11_sinks 105 = .ok (.goto (-90), 3) := by decide +kernel
theorem dX11_sinks_108 : decode cX11_sinks 108 = .ok (.aload_n 0, 1) := by decide +kernel
theorem dX11_sinks_109 : decode cX11_sinks 109 = .ok (.dup, 1) := by decide +kernel
theorem dX11_sinks_110 : decode cX11_sinks 110 = .ok (.getfield 66, 3) := by decide +kernel
theorem dX11_sinks_113 : decode cX11_sinks 113 = .ok (.iload_n 1, 1) := by decide +kernel
theorem dX11_sinks_114 : decode cX11_sinks 114 = .ok (.iconst (-1), 1) := by decide +kernel
theorem dX11_sinks_115 : decode cX11_sinks 115 = .ok (.ixor, 1) := by decide +kernel
theorem dX11_sinks_116 : decode cX11_sinks 116 = .ok (.iand, 1) := by decide +kernel
theorem dX11_sinks_117 : decode cX11_sinks 117 = .ok (.putfield 66, 3) := by decide +kernel
theorem dX11_sinks_120 : decode cX11_sinks 120 = .ok (.aload_n 0, 1) := by decide +kernel
theorem dX11_sinks_121 : decode cX11_sinks 121 = .ok (.aload_n 0, 1) := by decide +kernel
theorem dX11_sinks_122 : decode cX11_sinks 122 = .ok (.getfield 66, 3) := by decide +kernel
theorem dX11_sinks_125 : decode cX11_sinks 125 = .ok (.invokevirtual 171, 3) := by decide +kernel
theorem dX11_sinks_128 : decode cX11_sinks 128 = .ok (.istore_n 1, 1) := by decide +kernel
theorem dX11_sinks_129 : decode cX11_sinks 129 = .ok (.goto (-120), 3) := by decide +kernel
theorem dX11_sinks_132 : decode cX11_sinks 132 = .ok (.return_, 1) := by decide +kernel
theorem dX11_sign_0 : decode cX11_sign 0 = .ok (.iload_n 0, 1) := by decide +kernel
theorem dX11_sign_1 : decode cX11_sign 1 = .ok (.ifCond .le 7, 3) := by decide +kernel
theorem dX11_sign_4 : decode cX11_sign 4 = .ok (.iconst 1, 1) := by decide +kernel
theorem dX11_sign_5 : decode cX11_sign 5 = .ok (.goto 12, 3) := by decide +kernel
theorem dX11_sign_8 : decode cX11_sign 8 = .ok (.iload_n 0, 1) := by decide +kernel
theorem dX11_sign_9 : decode cX11_sign 9 = .ok (.ifCond .ge 7, 3) := by decide +kernel
theorem dX11_sign_12 : decode cX11_sign 12 = .ok (.iconst (-1), 1) := by decide +kernel
theorem dX11_sign_13 : decode cX11_sign 13 = .ok (.goto 4, 3) := by decide +kernel
theorem dX11_sign_16 : decode cX11_sign 16 = .ok (.iconst 0, 1) := by decide +kernel
theorem dX11_sign_17 : decode cX11_sign 17 = .ok (.ireturn, 1) := by decide +kernel
theorem dX11_direction_0 : decode cX11_direction 0 = .ok (.aload_n 0, 1) := by decide +kernel
theorem dX11_direction_1 : decode cX11_direction 1 = .ok (.getfield 66, 3) := by decide +kernel
theorem dX11_direction_4 : decode cX11_direction 4 = .ok (.invokestatic 137, 3) := by decide +kernel
theorem dX11_direction_7 : decode cX11_direction 7 = .ok (.istore_n 1, 1) := by decide +kernel
theorem dX11_direction_8 : decode cX11_direction 8 = .ok (.iconst 0, 1) := by decide +kernel
theorem dX11_direction_9 : decode cX11_direction 9 = .ok (.istore_n 2, 1) := by decide +kernel
theorem dX11_direction_10 : decode cX11_direction 10 = .ok (.iconst 0, 1) := by decide +kernel
theorem dX11_direction_11 : decode cX11_direction 11 = .ok (.istore_n 3, 1) := by decide +kernel
theorem dX11_direction_12 : decode cX11_direction 12 = .ok (.iconst 0, 1) := by decide +kernel
theorem dX11_direction_13 : decode cX11_direction 13 = .ok (.istore 4, 2) := by decide +kernel
theorem dX11_direction_15 : decode cX11_direction 15 = .ok (.iload 4, 2) := by decide +kernel
theorem dX11_direction_17 : decode cX11_direction 17 = .ok (.bipush 6, 2) := by decide +kernel
theorem dX11_direction_19 : decode cX11_direction 19 = .ok (.if_icmp .ge 55, 3) := by decide +kernel
theorem dX11_direction_22 : decode cX11_direction 22 = .ok (.iload_n 2, 1) := by decide +kernel
theorem dX11_direction_23 : decode cX11_direction 23 = .ok (.aload_n 0, 1) := by decide +kernel
theorem dX11_direction_24 : decode cX11_direction 24 = .ok (.iload 4, 2) := by decide +kernel
theorem dX11_direction_26 : decode cX11_direction 26 = .ok (.invokevirtual 97, 3) := by decide +kernel
theorem dX11_direction_29 : decode cX11_direction 29 = .ok (.ifCond .eq 13, 3) := by decide +kernel
theorem dX11_direction_32 : decode cX11_direction 32 = .ok (.aload_n 0, 1) := by decide +kernel
theorem dX11_direction_33 : decode cX11_direction 33 = .ok (.getfield 41, 3) := by decide +kernel
theorem dX11_direction_36 : decode cX11_direction 36 = .ok (.iload 4, 2) := by decide +kernel
theorem dX11_direction_38 : decode cX11_direction 38 = .ok (.iaload, 1) := by decide +kernel
theorem dX11_direction_39 : decode cX11_direction 39 = .ok (.goto 4, 3) := by decide +kernel
theorem dX11_direction_42 : decode cX11_direction 42 = .ok (.iconst 0, 1) := by decide +kernel
theorem dX11_direction_43 : decode cX11_direction 43 = .ok (.iadd, 1) := by decide +kernel
theorem dX11_direction_44 : decode cX11_direction 44 = .ok (.istore_n 2, 1) := by decide +kernel
theorem dX11_direction_45 : decode cX11_direction 45 = .ok (.iload_n 3, 1) := by decide +kernel
theorem dX11_direction_46 : decode cX11_direction 46 = .ok (.aload_n 0, 1) := by decide +kernel
theorem dX11_direction_47 : decode cX11_direction 47 = .ok (.iload 4, 2) := by decide +kernel
theorem dX11_direction_49 : decode cX11_direction 49 = .ok (.invokevirtual 97, 3) := by decide +kernel
theorem dX11_direction_52 : decode cX11_direction 52 = .ok (.ifCond .eq 13, 3) := by decide +kernel
theorem dX11_direction_55 : decode cX11_direction 55 = .ok (.aload_n 0, 1) := by decide +kernel
theorem dX11_direction_56 : decode cX11_direction 56 = .ok (.getfield 44, 3) := by decide +kernel
theorem dX11_direction_59 : decode cX11_direction 59 = .ok (.iload 4, 2) := by decide +kernel
theorem dX11_direction_61 : decode cX11_direction 61 = .ok (.iaload, 1) := by decide +kernel
theorem dX11_direction_62 : decode cX11_direction 62 = .ok (.goto 4, 3) := by decide +kernel
theorem dX11_direction_65 : decode cX11_direction 65 = .ok (.iconst 0, 1) := by decide +kernel
theorem dX11_direction_66 : decode cX11_direction 66 = .ok (.iadd, 1) := by decide +kernel
theorem dX11_direction_67 : decode cX11_direction 67 = .ok (.istore_n 3, 1) := by decide +kernel
theorem dX11_direction_68 : decode cX11_direction 68 = .ok (.iinc 4 1, 3) := by decide +kernel
theorem dX11_direction_71 : decode cX11_direction 71 = .ok (.goto (-56), 3) := by decide +kernel
theorem dX11_direction_74 : decode cX11_direction 74 = .ok (.iconst 3, 1) := by decide +kernel
theorem dX11_direction_75 : decode cX11_direction 75 = .ok (.aload_n 0, 1) := by decide +kernel
theorem dX11_direction_76 : decode cX11_direction 76 = .ok (.invokevirtual 123, 3) := by decide +kernel
theorem dX11_direction_79 : decode cX11_direction 79 = .ok (.iload_n 1, 1) := by decide +kernel
theorem dX11_direction_80 : decode cX11_direction 80 = .ok (.imul, 1) := by decide +kernel
theorem dX11_direction_81 : decode cX11_direction 81 = .ok (.iload_n 2, 1) := by decide +kernel
theorem dX11_direction_82 : decode cX11_direction 82 = .ok (.aload_n 0, 1) := by decide +kernel
theorem dX11_direction_83 : decode cX11_direction 83 = .ok (.invokevirtual 103, 3) := by decide +kernel
theorem dX11_direction_86 : decode cX11_direction 86 = .ok (.imul, 1) := by decide +kernel
theorem dX11_direction_87 : decode cX11_direction 87 = .ok (.isub, 1) := by decide +kernel
theorem dX11_direction_88 : decode cX11_direction 88 = .ok (.invokestatic 174, 3) := by decide +kernel
theorem dX11_direction_91 : decode cX11_direction 91 = .ok (.iconst 1, 1) := by decide +kernel
theorem dX11_direction_92 : decode cX11_direction 92 = .ok (.iadd, 1) := by decide +kernel
theorem dX11_direction_93 : decode cX11_direction 93 = .ok (.imul, 1) := by decide +kernel
theorem dX11_direction_94 : decode cX11_direction 94 = .ok (.aload_n 0, 1) := by decide +kernel
theorem dX11_direction_95 : decode cX11_direction 95 = .ok (.invokevirtual 126, 3) := by decide +kernel
theorem dX11_direction_98 : decode cX11_direction 98 = .ok (.iload_n 1, 1) := by decide +kernel
theorem dX11_direction_99 : decode cX11_direction 99 = .ok (.imul, 1) := by decide +kernel
theorem dX11_direction_100 : decode cX11_direction 100 = .ok (.iload_n 3, 1) := by decide +kernel
theorem dX11_direction_101 : decode cX11_direction 101 = .ok (.aload_n 0, 1) := by decide +kernel
theorem dX11_direction_102 : decode cX11_direction 102 = .ok (.invokevirtual 103, 3) := by decide +kernel
theorem dX11_direction_105 : decode cX11_direction 105 = .ok (.imul, 1) := by decide +kernel
theorem dX11_direction_106 : decode cX11_direction 106 = .ok (.isub, 1) := by decide +kernel
theorem dX11_direction_107 : decode cX11_direction 107 = .ok (.invokestatic 174, 3) := by decide +kernel
theorem dX11_direction_110 : decode cX11_direction 110 = .ok (.iadd, 1) := by decide +kernel
theorem dX11_direction_111 : decode cX11_direction 111 = .ok (.iconst 1, 1) := by decide +kernel
theorem dX11_direction_112 : decode cX11_direction 112 = .ok (.iadd, 1) := by decide +kernel
theorem dX11_direction_113 : decode cX11_direction 113 = .ok (.ireturn, 1) := by decide +kernel
theorem dX11_settles_0 : decode cX11_settles 0 = .ok (.aload_n 0, 1) := by decide +kernel
theorem dX11_settles_1 : decode cX11_settles 1 = .ok (.getfield 84, 3) := by decide +kernel
theorem dX11_settles_4 : decode cX11_settles 4 = .ok (.ifCond .ne 4, 3) := by decide +kernel
theorem dX11_settles_7 : decode cX11_settles 7 = .ok (.return_, 1) := by decide +kernel
theorem dX11_settles_8 : decode cX11_settles 8 = .ok (.aload_n 0, 1) := by decide +kernel
theorem dX11_settles_9 : decode cX11_settles 9 = .ok (.invokevirtual 177, 3) := by decide +kernel
theorem dX11_settles_12 : decode cX11_settles 12 = .ok (.aload_n 0, 1) := by decide +kernel
theorem dX11_settles_13 : decode cX11_settles 13 = .ok (.aload_n 0, 1) := by decide +kernel
theorem dX11_settles_14 : decode cX11_settles 14 = .ok (.getfield 66, 3) := by decide +kernel
theorem dX11_settles_17 : decode cX11_settles 17 = .ok (.invokevirtual 180, 3) := by decide +kernel
theorem dX11_settles_20 : decode cX11_settles 20 = .ok (.ifCond .ne 98, 3) := by decide +kernel
theorem dX11_settles_23 : decode cX11_settles 23 = .ok (.aload_n 0, 1) := by decide +kernel
theorem dX11_settles_24 : decode cX11_settles 24 = .ok (.getfield 183, 3) := by decide +kernel
theorem dX11_settles_27 : decode cX11_settles 27 = .ok (.bipush 40, 2) := by decide +kernel
theorem dX11_settles_29 : decode cX11_settles 29 = .ok (.if_icmp .ge 69, 3) := by decide +kernel
theorem dX11_settles_32 : decode cX11_settles 32 = .ok (.aload_n 0, 1) := by decide +kernel
theorem dX11_settles_33 : decode cX11_settles 33 = .ok (.getfield 47, 3) := by decide +kernel
theorem dX11_settles_36 : decode cX11_settles 36 = .ok (.iconst 4, 1) := by decide +kernel
theorem dX11_settles_37 : decode cX11_settles 37 = .ok (.aload_n 0, 1) := by decide +kernel
theorem dX11_settles_38 : decode cX11_settles 38 = .ok (.getfield 183, 3) := by decide +kernel
theorem dX11_settles_41 : decode cX11_settles 41 = .ok (.imul, 1) := by decide +kernel
theorem dX11_settles_42 : decode cX11_settles 42 = .ok (.aload_n 0, 1) := by decide +kernel
theorem dX11_settles_43 : decode cX11_settles 43 = .ok (.invokevirtual 186, 3) := by decide +kernel
theorem dX11_settles_46 : decode cX11_settles 46 = .ok (.iastore, 1) := by decide +kernel
theorem dX11_settles_47 : decode cX11_settles 47 = .ok (.aload_n 0, 1) := by decide +kernel
theorem dX11_settles_48 : decode cX11_settles 48 = .ok (.getfield 47, 3) := by decide +kernel
theorem dX11_settles_51 : decode cX11_settles 51 = .ok (.iconst 4, 1) := by decide +kernel
theorem dX11_settles_52 : decode cX11_settles 52 = .ok (.aload_n 0, 1) := by decide +kernel
theorem dX11_settles_53 : decode cX11_settles 53 = .ok (.getfield 183, 3) := by decide +kernel
theorem dX11_settles_56 : decode cX11_settles 56 = .ok (.imul, 1) := by decide +kernel
theorem dX11_settles_57 : decode cX11_settles 57 = .ok (.iconst 1, 1) := by decide +kernel
theorem dX11_settles_58 : decode cX11_settles 58 = .ok (.iadd, 1) := by decide +kernel
theorem dX11_settles_59 : decode cX11_settles 59 = .ok (.aload_n 0, 1) := by decide +kernel
theorem dX11_settles_60 : decode cX11_settles 60 = .ok (.getfield 143, 3) := by decide +kernel
theorem dX11_settles_63 : decode cX11_settles 63 = .ok (.iastore, 1) := by decide +kernel
theorem dX11_settles_64 : decode cX11_settles 64 = .ok (.aload_n 0, 1) := by decide +kernel
theorem dX11_settles_65 : decode cX11_settles 65 = .ok (.getfield 47, 3) := by decide +kernel
theorem dX11_settles_68 : decode cX11_settles 68 = .ok (.iconst 4, 1) := by decide +kernel
theorem dX11_settles_69 : decode cX11_settles 69 = .ok (.aload_n 0, 1) := by decide +kernel
theorem dX11_settles_70 : decode cX11_settles 70 = .ok (.getfield 183, 3) := by decide +kernel
theorem dX11_settles_73 : decode cX11_settles 73 = .ok (.imul, 1) := by decide +kernel
theorem dX11_settles_74 : decode cX11_settles 74 = .ok (.iconst 2, 1) := by decide +kernel
theorem dX11_settles_75 : decode cX11_settles 75 = .ok (.iadd, 1) := by decide +kernel
theorem dX11_settles_76 : decode cX11_settles 76 = .ok (.aload_n 0, 1) := by decide +kernel
theorem dX11_settles_77 : decode cX11_settles 77 = .ok (.getfield 146, 3) := by decide +kernel
theorem dX11_settles_80 : decode cX11_settles 80 = .ok (.iastore, 1) := by decide +kernel
theorem dX11_settles_81 : decode cX11_settles 81 = .ok (.aload_n 0, 1) := by decide +kernel
theorem dX11_settles_82 : decode cX11_settles 82 = .ok (.getfield 47, 3) := by decide +kernel
theorem dX11_settles_85 : decode cX11_settles 85 = .ok (.iconst 4, 1) := by decide +kernel
theorem dX11_settles_86 : decode cX11_settles 86 = .ok (.aload_n 0, 1) := by decide +kernel
theorem dX11_settles_87 : decode cX11_settles 87 = .ok (.getfield 183, 3) := by decide +kernel
theorem dX11_settles_90 : decode cX11_settles 90 = .ok (.imul, 1) := by decide +kernel
theorem dX11_settles_91 : decode cX11_settles 91 = .ok (.iconst 3, 1) := by decide +kernel
theorem dX11_settles_92 : decode cX11_settles 92 = .ok (.iadd, 1) := by decide +kernel
theorem dX11_settles_93 : decode cX11_settles 93 = .ok (.aload_n 0, 1) := by decide +kernel
theorem dX11_settles_94 : decode cX11_settles 94 = .ok (.getfield 149, 3) := by decide +kernel
theorem dX11_settles_97 : decode cX11_settles 97 = .ok (.iastore, 1) := by decide +kernel
theorem dX11_settles_98 : decode cX11_settles 98 = .ok (.aload_n 0, 1) := by decide +kernel
theorem dX11_settles_99 : decode cX11_settles 99 = .ok (.dup, 1) := by decide +kernel
theorem dX11_settles_100 : decode cX11_settles 100 = .ok (.getfield 183, 3) := by decide +kernel
theorem dX11_settles_103 : decode cX11_settles 103 = .ok (.iconst 1, 1) := by decide +kernel
theorem dX11_settles_104 : decode cX11_settles 104 = .ok (.iadd, 1) := by decide +kernel
theorem dX11_settles_105 : decode cX11_settles 105 = .ok (.putfield 183, 3) := by decide +kernel
theorem dX11_settles_108 : decode cX11_settles 108 = .ok (.aload_n 0, 1) := by decide +kernel
theorem dX11_settles_109 : decode cX11_settles 109 = .ok (.iconst 0, 1) := by decide +kernel
theorem dX11_settles_110 : decode cX11_settles 110 = .ok (.putfield 84, 3) := by decide +kernel
theorem dX11_settles_113 : decode cX11_settles 113 = .ok (.aload_n 0, 1) := by decide +kernel
theorem dX11_settles_114 : decode cX11_settles 114 = .ok (.iconst 0, 1) := by decide +kernel
theorem dX11_settles_115 : decode cX11_settles 115 = .ok (.putfield 66, 3) := by decide +kernel
theorem dX11_settles_118 : decode cX11_settles 118 = .ok (.return_, 1) := by decide +kernel
theorem dX11_lifts_0 : decode cX11_lifts 0 = .ok (.aload_n 0, 1) := by decide +kernel
theorem dX11_lifts_1 : decode cX11_lifts 1 = .ok (.getfield 84, 3) := by decide +kernel
theorem dX11_lifts_4 : decode cX11_lifts 4 = .ok (.ifCond .eq 36, 3) := by decide +kernel
theorem dX11_lifts_7 : decode cX11_lifts 7 = .ok (.aload_n 0, 1) := by decide +kernel
theorem dX11_lifts_8 : decode cX11_lifts 8 = .ok (.getfield 29, 3) := by decide +kernel
theorem dX11_lifts_11 : decode cX11_lifts 11 = .ok (.iconst 1, 1) := by decide +kernel
theorem dX11_lifts_12 : decode cX11_lifts 12 = .ok (.if_icmp .lt 28, 3) := by decide +kernel
theorem dX11_lifts_15 : decode cX11_lifts 15 = .ok (.aload_n 0, 1) := by decide +kernel
theorem dX11_lifts_16 : decode cX11_lifts 16 = .ok (.iload_n 1, 1) := by decide +kernel
theorem dX11_lifts_17 : decode cX11_lifts 17 = .ok (.invokevirtual 97, 3) := by decide +kernel
theorem dX11_lifts_20 : decode cX11_lifts 20 = .ok (.ifCond .eq 20, 3) := by decide +kernel
theorem dX11_lifts_23 : decode cX11_lifts 23 = .ok (.aload_n 0, 1) := by decide +kernel
theorem dX11_lifts_24 : decode cX11_lifts 24 = .ok (.aload_n 0, 1) := by decide +kernel
theorem dX11_lifts_25 : decode cX11_lifts 25 = .ok (.getfield 66, 3) := by decide +kernel
theorem dX11_lifts_28 : decode cX11_lifts 28 = .ok (.iconst 1, 1) := by decide +kernel
theorem dX11_lifts_29 : decode cX11_lifts 29 = .ok (.iload_n 1, 1) := by decide +kernel
theorem dX11_lifts_30 : decode cX11_lifts 30 = .ok (.ishl, 1) := by decide +kernel
theorem dX11_lifts_31 : decode cX11_lifts 31 = .ok (.iconst (-1), 1) := by decide +kernel
theorem dX11_lifts_32 : decode cX11_lifts 32 = .ok (.ixor, 1) := by decide +kernel
theorem dX11_lifts_33 : decode cX11_lifts 33 = .ok (.iand, 1) := by decide +kernel
theorem dX11_lifts_34 : decode cX11_lifts 34 = .ok (.invokevirtual 180, 3) := by decide +kernel
theorem dX11_lifts_37 : decode cX11_lifts 37 = .ok (.ifCond .ne 5, 3) := by decide +kernel
theorem dX11_lifts_40 : decode cX11_lifts 40 = .ok (.iconst 0, 1) := by decide +kernel
theorem dX11_lifts_41 : decode cX11_lifts 41 = .ok (.ireturn, 1) := by decide +kernel
theorem dX11_lifts_42 : decode cX11_lifts 42 = .ok (.aload_n 0, 1) := by decide +kernel
theorem dX11_lifts_43 : decode cX11_lifts 43 = .ok (.dup, 1) := by decide +kernel
theorem dX11_lifts_44 : decode cX11_lifts 44 = .ok (.getfield 29, 3) := by decide +kernel
theorem dX11_lifts_47 : decode cX11_lifts 47 = .ok (.iconst 1, 1) := by decide +kernel
theorem dX11_lifts_48 : decode cX11_lifts 48 = .ok (.isub, 1) := by decide +kernel
theorem dX11_lifts_49 : decode cX11_lifts 49 = .ok (.putfield 29, 3) := by decide +kernel
theorem dX11_lifts_52 : decode cX11_lifts 52 = .ok (.aload_n 0, 1) := by decide +kernel
theorem dX11_lifts_53 : decode cX11_lifts 53 = .ok (.iconst 0, 1) := by decide +kernel
theorem dX11_lifts_54 : decode cX11_lifts 54 = .ok (.putfield 152, 3) := by decide +kernel
theorem dX11_lifts_57 : decode cX11_lifts 57 = .ok (.aload_n 0, 1) := by decide +kernel
theorem dX11_lifts_58 : decode cX11_lifts 58 = .ok (.dup, 1) := by decide +kernel
theorem dX11_lifts_59 : decode cX11_lifts 59 = .ok (.getfield 66, 3) := by decide +kernel
theorem dX11_lifts_62 : decode cX11_lifts 62 = .ok (.iconst 1, 1) := by decide +kernel
theorem dX11_lifts_63 : decode cX11_lifts 63 = .ok (.iload_n 1, 1) := by decide +kernel
theorem dX11_lifts_64 : decode cX11_lifts 64 = .ok (.ishl, 1) := by decide +kernel
theorem dX11_lifts_65 : decode cX11_lifts 65 = .ok (.iconst (-1), 1) := by decide +kernel
theorem dX11_lifts_66 : decode cX11_lifts 66 = .ok (.ixor, 1) := by decide +kernel
theorem dX11_lifts_67 : decode cX11_lifts 67 = .ok (.iand, 1) := by decide +kernel
theorem dX11_lifts_68 : decode cX11_lifts 68 = .ok (.putfield 66, 3) := by decide +kernel
theorem dX11_lifts_71 : decode cX11_lifts 71 = .ok (.aload_n 0, 1) := by decide +kernel
theorem dX11_lifts_72 : decode cX11_lifts 72 = .ok (.invokevirtual 189, 3) := by decide +kernel
theorem dX11_lifts_75 : decode cX11_lifts 75 = .ok (.iconst 1, 1) := by decide +kernel
theorem dX11_lifts_76 : decode cX11_lifts 76 = .ok (.ireturn, 1) := by decide +kernel
theorem dX11_canPlace_0 : decode cX11_canPlace 0 = .ok (.aload_n 0, 1) := by decide +kernel
theorem dX11_canPlace_1 : decode cX11_canPlace 1 = .ok (.getfield 19, 3) := by decide +kernel
theorem dX11_canPlace_4 : decode cX11_canPlace 4 = .ok (.iload_n 2, 1) := by decide +kernel
theorem dX11_canPlace_5 : decode cX11_canPlace 5 = .ok (.iload_n 3, 1) := by decide +kernel
theorem dX11_canPlace_6 : decode cX11_canPlace 6 = .ok (.invokestatic 81, 3) := by decide +kernel
theorem dX11_canPlace_9 : decode cX11_canPlace 9 = .ok (.iaload, 1) := by decide +kernel
theorem dX11_canPlace_10 : decode cX11_canPlace 10 = .ok (.aload_n 0, 1) := by decide +kernel
theorem dX11_canPlace_11 : decode cX11_canPlace 11 = .ok (.aload_n 0, 1) := by decide +kernel
theorem dX11_canPlace_12 : decode cX11_canPlace 12 = .ok (.getfield 66, 3) := by decide +kernel
theorem dX11_canPlace_15 : decode cX11_canPlace 15 = .ok (.invokevirtual 192, 3) := by decide +kernel
theorem dX11_canPlace_18 : decode cX11_canPlace 18 = .ok (.isub, 1) := by decide +kernel
theorem dX11_canPlace_19 : decode cX11_canPlace 19 = .ok (.istore 4, 2) := by decide +kernel
theorem dX11_canPlace_21 : decode cX11_canPlace 21 = .ok (.aload_n 0, 1) := by decide +kernel
theorem dX11_canPlace_22 : decode cX11_canPlace 22 = .ok (.iload_n 1, 1) := by decide +kernel
theorem dX11_canPlace_23 : decode cX11_canPlace 23 = .ok (.invokevirtual 97, 3) := by decide +kernel
theorem dX11_canPlace_26 : decode cX11_canPlace 26 = .ok (.ifCond .ne 38, 3) := by decide +kernel
theorem dX11_canPlace_29 : decode cX11_canPlace 29 = .ok (.aload_n 0, 1) := by decide +kernel
theorem dX11_canPlace_30 : decode cX11_canPlace 30 = .ok (.iload_n 1, 1) := by decide +kernel
theorem dX11_canPlace_31 : decode cX11_canPlace 31 = .ok (.iload_n 2, 1) := by decide +kernel
theorem dX11_canPlace_32 : decode cX11_canPlace 32 = .ok (.iload_n 3, 1) := by decide +kernel
theorem dX11_canPlace_33 : decode cX11_canPlace 33 = .ok (.invokevirtual 162, 3) := by decide +kernel
theorem dX11_canPlace_36 : decode cX11_canPlace 36 = .ok (.ifCond .eq 28, 3) := by decide +kernel
theorem dX11_canPlace_39 : decode cX11_canPlace 39 = .ok (.aload_n 0, 1) := by decide +kernel
theorem dX11_canPlace_40 : decode cX11_canPlace 40 = .ok (.iload_n 2, 1) := by decide +kernel
theorem dX11_canPlace_41 : decode cX11_canPlace 41 = .ok (.iload_n 3, 1) := by decide +kernel
theorem dX11_canPlace_42 : decode cX11_canPlace 42 = .ok (.invokevirtual 73, 3) := by decide +kernel
theorem dX11_canPlace_45 : decode cX11_canPlace 45 = .ok (.iconst (-1), 1) := by decide +kernel
theorem dX11_canPlace_46 : decode cX11_canPlace 46 = .ok (.if_icmp .ne 18, 3) := by decide +kernel
theorem dX11_canPlace_49 : decode cX11_canPlace 49 = .ok (.iload 4, 2) := by decide +kernel
theorem dX11_canPlace_51 : decode cX11_canPlace 51 = .ok (.bipush (-2), 2) := by decide +kernel
theorem dX11_canPlace_53 : decode cX11_canPlace 53 = .ok (.iconst 2, 1) := by decide +kernel
theorem dX11_canPlace_54 : decode cX11_canPlace 54 = .ok (.invokestatic 59, 3) := by decide +kernel
theorem dX11_canPlace_57 : decode cX11_canPlace 57 = .ok (.ifCond .eq 7, 3) := by decide +kernel
theorem dX11_canPlace_60 : decode cX11_canPlace 60 = .ok (.iconst 1, 1) := by decide +kernel
theorem dX11_canPlace_61 : decode cX11_canPlace 61 = .ok (.goto 4, 3) := by decide +kernel
theorem dX11_canPlace_64 : decode cX11_canPlace 64 = .ok (.iconst 0, 1) := by decide +kernel
theorem dX11_canPlace_65 : decode cX11_canPlace 65 = .ok (.ireturn, 1) := by decide +kernel
theorem dX11_places_0 : decode cX11_places 0 = .ok (.aload_n 0, 1) := by decide +kernel
theorem dX11_places_1 : decode cX11_places 1 = .ok (.getfield 84, 3) := by decide +kernel
theorem dX11_places_4 : decode cX11_places 4 = .ok (.ifCond .eq 29, 3) := by decide +kernel
theorem dX11_places_7 : decode cX11_places 7 = .ok (.aload_n 0, 1) := by decide +kernel
theorem dX11_places_8 : decode cX11_places 8 = .ok (.getfield 29, 3) := by decide +kernel
theorem dX11_places_11 : decode cX11_places 11 = .ok (.iconst 1, 1) := by decide +kernel
theorem dX11_places_12 : decode cX11_places 12 = .ok (.aload_n 0, 1) := by decide +kernel
theorem dX11_places_13 : decode cX11_places 13 = .ok (.iload_n 1, 1) := by decide +kernel
theorem dX11_places_14 : decode cX11_places 14 = .ok (.iload_n 2, 1) := by decide +kernel
theorem dX11_places_15 : decode cX11_places 15 = .ok (.iload_n 3, 1) := by decide +kernel
theorem dX11_places_16 : decode cX11_places 16 = .ok (.invokevirtual 195, 3) := by decide +kernel
theorem dX11_places_19 : decode cX11_places 19 = .ok (.iadd, 1) := by decide +kernel
theorem dX11_places_20 : decode cX11_places 20 = .ok (.if_icmp .lt 13, 3) := by decide +kernel
theorem dX11_places_23 : decode cX11_places 23 = .ok (.aload_n 0, 1) := by decide +kernel
theorem dX11_places_24 : decode cX11_places 24 = .ok (.iload_n 1, 1) := by decide +kernel
theorem dX11_places_25 : decode cX11_places 25 = .ok (.iload_n 2, 1) := by decide +kernel
theorem dX11_places_26 : decode cX11_places 26 = .ok (.iload_n 3, 1) := by decide +kernel
theorem dX11_places_27 : decode cX11_places 27 = .ok (.invokevirtual 198, 3) := by decide +kernel
theorem dX11_places_30 : decode cX11_places 30 = .ok (.ifCond .ne 5, 3) := by decide +kernel
theorem dX11_places_33 : decode cX11_places 33 = .ok (.iconst 0, 1) := by decide +kernel
theorem dX11_places_34 : decode cX11_places 34 = .ok (.ireturn, 1) := by decide +kernel
theorem dX11_places_35 : decode cX11_places 35 = .ok (.aload_n 0, 1) := by decide +kernel
theorem dX11_places_36 : decode cX11_places 36 = .ok (.dup, 1) := by decide +kernel
theorem dX11_places_37 : decode cX11_places 37 = .ok (.getfield 29, 3) := by decide +kernel
theorem dX11_places_40 : decode cX11_places 40 = .ok (.iconst 1, 1) := by decide +kernel
theorem dX11_places_41 : decode cX11_places 41 = .ok (.aload_n 0, 1) := by decide +kernel
theorem dX11_places_42 : decode cX11_places 42 = .ok (.iload_n 1, 1) := by decide +kernel
theorem dX11_places_43 : decode cX11_places 43 = .ok (.iload_n 2, 1) := by decide +kernel
theorem dX11_places_44 : decode cX11_places 44 = .ok (.iload_n 3, 1) := by decide +kernel
theorem dX11_places_45 : decode cX11_places 45 = .ok (.invokevirtual 195, 3) := by decide +kernel
theorem dX11_places_48 : decode cX11_places 48 = .ok (.iadd, 1) := by decide +kernel
theorem dX11_places_49 : decode cX11_places 49 = .ok (.isub, 1) := by decide +kernel
theorem dX11_places_50 : decode cX11_places 50 = .ok (.putfield 29, 3) := by decide +kernel
theorem dX11_places_53 : decode cX11_places 53 = .ok (.aload_n 0, 1) := by decide +kernel
theorem dX11_places_54 : decode cX11_places 54 = .ok (.iconst 0, 1) := by decide +kernel
theorem dX11_places_55 : decode cX11_places 55 = .ok (.putfield 152, 3) := by decide +kernel
theorem dX11_places_58 : decode cX11_places 58 = .ok (.aload_n 0, 1) := by decide +kernel
theorem dX11_places_59 : decode cX11_places 59 = .ok (.iload_n 1, 1) := by decide +kernel
theorem dX11_places_60 : decode cX11_places 60 = .ok (.iload_n 2, 1) := by decide +kernel
theorem dX11_places_61 : decode cX11_places 61 = .ok (.iload_n 3, 1) := by decide +kernel
theorem dX11_places_62 : decode cX11_places 62 = .ok (.invokevirtual 201, 3) := by decide +kernel
theorem dX11_places_65 : decode cX11_places 65 = .ok (.aload_n 0, 1) := by decide +kernel
theorem dX11_places_66 : decode cX11_places 66 = .ok (.invokevirtual 189, 3) := by decide +kernel
theorem dX11_places_69 : decode cX11_places 69 = .ok (.iconst 1, 1) := by decide +kernel
theorem dX11_places_70 : decode cX11_places 70 = .ok (.ireturn, 1) := by decide +kernel
theorem dX11_moves_0 : decode cX11_moves 0 = .ok (.aload_n 0, 1) := by decide +kernel
theorem dX11_moves_1 : decode cX11_moves 1 = .ok (.dup, 1) := by decide +kernel
theorem dX11_moves_2 : decode cX11_moves 2 = .ok (.getfield 22, 3) := by decide +kernel
theorem dX11_moves_5 : decode cX11_moves 5 = .ok (.iload_n 1, 1) := by decide +kernel
theorem dX11_moves_6 : decode cX11_moves 6 = .ok (.iadd, 1) := by decide +kernel
theorem dX11_moves_7 : decode cX11_moves 7 = .ok (.putfield 22, 3) := by decide +kernel
theorem dX11_moves_10 : decode cX11_moves 10 = .ok (.aload_n 0, 1) := by decide +kernel
theorem dX11_moves_11 : decode cX11_moves 11 = .ok (.dup, 1) := by decide +kernel
theorem dX11_moves_12 : decode cX11_moves 12 = .ok (.getfield 26, 3) := by decide +kernel
theorem dX11_moves_15 : decode cX11_moves 15 = .ok (.iload_n 2, 1) := by decide +kernel
theorem dX11_moves_16 : decode cX11_moves 16 = .ok (.iadd, 1) := by decide +kernel
theorem dX11_moves_17 : decode cX11_moves 17 = .ok (.putfield 26, 3) := by decide +kernel
theorem dX11_moves_20 : decode cX11_moves 20 = .ok (.aload_n 0, 1) := by decide +kernel
theorem dX11_moves_21 : decode cX11_moves 21 = .ok (.getfield 22, 3) := by decide +kernel
theorem dX11_moves_24 : decode cX11_moves 24 = .ok (.aload_n 0, 1) := by decide +kernel
theorem dX11_moves_25 : decode cX11_moves 25 = .ok (.getfield 26, 3) := by decide +kernel
theorem dX11_moves_28 : decode cX11_moves 28 = .ok (.invokestatic 69, 3) := by decide +kernel
theorem dX11_moves_31 : decode cX11_moves 31 = .ok (.ifCond .eq 18, 3) := by decide +kernel
theorem dX11_moves_34 : decode cX11_moves 34 = .ok (.aload_n 0, 1) := by decide +kernel
theorem dX11_moves_35 : decode cX11_moves 35 = .ok (.aload_n 0, 1) := by decide +kernel
theorem dX11_moves_36 : decode cX11_moves 36 = .ok (.getfield 66, 3) := by decide +kernel
theorem dX11_moves_39 : decode cX11_moves 39 = .ok (.invokevirtual 180, 3) := by decide +kernel
theorem dX11_moves_42 : decode cX11_moves 42 = .ok (.ifCond .eq 7, 3) := by decide +kernel
theorem dX11_moves_45 : decode cX11_moves 45 = .ok (.iconst 1, 1) := by decide +kernel
theorem dX11_moves_46 : decode cX11_moves 46 = .ok (.goto 4, 3) := by decide +kernel
theorem dX11_moves_49 : decode cX11_moves 49 = .ok (.iconst 0, 1) := by decide +kernel
theorem dX11_moves_50 : decode cX11_moves 50 = .ok (.istore_n 3, 1) := by decide +kernel
theorem dX11_moves_51 : decode cX11_moves 51 = .ok (.iconst 0, 1) := by decide +kernel
theorem dX11_moves_52 : decode cX11_moves 52 = .ok (.istore 4, 2) := by decide +kernel
theorem dX11_moves_54 : decode cX11_moves 54 = .ok (.iload 4, 2) := by decide +kernel
theorem dX11_moves_56 : decode cX11_moves 56 = .ok (.bipush 6, 2) := by decide +kernel
theorem dX11_moves_58 : decode cX11_moves 58 = .ok (.if_icmp .ge 51, 3) := by decide +kernel
theorem dX11_moves_61 : decode cX11_moves 61 = .ok (.iload_n 3, 1) := by decide +kernel
theorem dX11_moves_62 : decode cX11_moves 62 = .ok (.ifCond .eq 39, 3) := by decide +kernel
theorem dX11_moves_65 : decode cX11_moves 65 = .ok (.aload_n 0, 1) := by decide +kernel
theorem dX11_moves_66 : decode cX11_moves 66 = .ok (.iload 4, 2) := by decide +kernel
theorem dX11_moves_68 : decode cX11_moves 68 = .ok (.invokevirtual 97, 3) := by decide +kernel
theorem dX11_moves_71 : decode cX11_moves 71 = .ok (.ifCond .eq 26, 3) := by decide +kernel
theorem dX11_moves_74 : decode cX11_moves 74 = .ok (.aload_n 0, 1) := by decide +kernel
theorem dX11_moves_75 : decode cX11_moves 75 = .ok (.iload 4, 2) := by decide +kernel
theorem dX11_moves_77 : decode cX11_moves 77 = .ok (.aload_n 0, 1) := by decide +kernel
theorem dX11_moves_78 : decode cX11_moves 78 = .ok (.getfield 41, 3) := by decide +kernel
theorem dX11_moves_81 : decode cX11_moves 81 = .ok (.iload 4, 2) := by decide +kernel
theorem dX11_moves_83 : decode cX11_moves 83 = .ok (.iaload, 1) := by decide +kernel
theorem dX11_moves_84 : decode cX11_moves 84 = .ok (.aload_n 0, 1) := by decide +kernel
theorem dX11_moves_85 : decode cX11_moves 85 = .ok (.getfield 44, 3) := by decide +kernel
theorem dX11_moves_88 : decode cX11_moves 88 = .ok (.iload 4, 2) := by decide +kernel
theorem dX11_moves_90 : decode cX11_moves 90 = .ok (.iaload, 1) := by decide +kernel
theorem dX11_moves_91 : decode cX11_moves 91 = .ok (.invokevirtual 162, 3) := by decide +kernel
theorem dX11_moves_94 : decode cX11_moves 94 = .ok (.ifCond .eq 7, 3) := by decide +kernel
theorem dX11_moves_97 : decode cX11_moves 97 = .ok (.iconst 1, 1) := by decide +kernel
theorem dX11_moves_98 : decode cX11_moves 98 = .ok (.goto 4, 3) := by decide +kernel
theorem dX11_moves_101 : decode cX11_moves 101 = .ok (.iconst 0, 1) := by decide +kernel
theorem dX11_moves_102 : decode cX11_moves 102 = .ok (.istore_n 3, 1) := by decide +kernel
theorem dX11_moves_103 : decode cX11_moves 103 = .ok (.iinc 4 1, 3) := by decide +kernel
theorem dX11_moves_106 : decode cX11_moves 106 = .ok (.goto (-52), 3) := by decide +kernel
theorem dX11_moves_109 : decode cX11_moves 109 = .ok (.aload_n 0, 1) := by decide +kernel
theorem dX11_moves_110 : decode cX11_moves 110 = .ok (.dup, 1) := by decide +kernel
theorem dX11_moves_111 : decode cX11_moves 111 = .ok (.getfield 22, 3) := by decide +kernel
theorem dX11_moves_114 : decode cX11_moves 114 = .ok (.iload_n 3, 1) := by decide +kernel
theorem dX11_moves_115 : decode cX11_moves 115 = .ok (.ifCond .eq 7, 3) := by decide +kernel
theorem dX11_moves_118 : decode cX11_moves 118 = .ok (.iconst 0, 1) := by decide +kernel
theorem dX11_moves_119 : decode cX11_moves 119 = .ok (.goto 4, 3) := by decide +kernel
theorem dX11_moves_122 : decode cX11_moves 122 = .ok (.iload_n 1, 1) := by decide +kernel
theorem dX11_moves_123 : decode cX11_moves 123 = .ok (.isub, 1) := by decide +kernel
theorem dX11_moves_124 : decode cX11_moves 124 = .ok (.putfield 22, 3) := by decide +kernel
theorem dX11_moves_127 : decode cX11_moves 127 = .ok (.aload_n 0, 1) := by decide +kernel
theorem dX11_moves_128 : decode cX11_moves 128 = .ok (.dup, 1) := by decide +kernel
theorem dX11_moves_129 : decode cX11_moves 129 = .ok (.getfield 26, 3) := by decide +kernel
theorem dX11_moves_132 : decode cX11_moves 132 = .ok (.iload_n 3, 1) := by decide +kernel
theorem dX11_moves_133 : decode cX11_moves 133 = .ok (.ifCond .eq 7, 3) := by decide +kernel
theorem dX11_moves_136 : decode cX11_moves 136 = .ok (.iconst 0, 1) := by decide +kernel
theorem dX11_moves_137 : decode cX11_moves 137 = .ok (.goto 4, 3) := by decide +kernel
theorem dX11_moves_140 : decode cX11_moves 140 = .ok (.iload_n 2, 1) := by decide +kernel
theorem dX11_moves_141 : decode cX11_moves 141 = .ok (.isub, 1) := by decide +kernel
theorem dX11_moves_142 : decode cX11_moves 142 = .ok (.putfield 26, 3) := by decide +kernel
theorem dX11_moves_145 : decode cX11_moves 145 = .ok (.iload_n 3, 1) := by decide +kernel
theorem dX11_moves_146 : decode cX11_moves 146 = .ok (.ireturn, 1) := by decide +kernel
theorem dX11_shifts_0 : decode cX11_shifts 0 = .ok (.aload_n 0, 1) := by decide +kernel
theorem dX11_shifts_1 : decode cX11_shifts 1 = .ok (.invokevirtual 103, 3) := by decide +kernel
theorem dX11_shifts_4 : decode cX11_shifts 4 = .ok (.bipush 9, 2) := by decide +kernel
theorem dX11_shifts_6 : decode cX11_shifts 6 = .ok (.iadd, 1) := by decide +kernel
theorem dX11_shifts_7 : decode cX11_shifts 7 = .ok (.bipush 10, 2) := by decide +kernel
theorem dX11_shifts_9 : decode cX11_shifts 9 = .ok (.idiv, 1) := by decide +kernel
theorem dX11_shifts_10 : decode cX11_shifts 10 = .ok (.istore_n 3, 1) := by decide +kernel
theorem dX11_shifts_11 : decode cX11_shifts 11 = .ok (.aload_n 0, 1) := by decide +kernel
theorem dX11_shifts_12 : decode cX11_shifts 12 = .ok (.getfield 84, 3) := by decide +kernel
theorem dX11_shifts_15 : decode cX11_shifts 15 = .ok (.ifCond .eq 20, 3) := by decide +kernel
theorem dX11_shifts_18 : decode cX11_shifts 18 = .ok (.aload_n 0, 1) := by decide +kernel
theorem dX11_shifts_19 : decode cX11_shifts 19 = .ok (.getfield 29, 3) := by decide +kernel
theorem dX11_shifts_22 : decode cX11_shifts 22 = .ok (.iload_n 3, 1) := by decide +kernel
theorem dX11_shifts_23 : decode cX11_shifts 23 = .ok (.if_icmp .lt 12, 3) := by decide +kernel
theorem dX11_shifts_26 : decode cX11_shifts 26 = .ok (.aload_n 0, 1) := by decide +kernel
theorem dX11_shifts_27 : decode cX11_shifts 27 = .ok (.iload_n 1, 1) := by decide +kernel
theorem dX11_shifts_28 : decode cX11_shifts 28 = .ok (.iload_n 2, 1) := by decide +kernel
theorem dX11_shifts_29 : decode cX11_shifts 29 = .ok (.invokevirtual 204, 3) := by decide +kernel
theorem dX11_shifts_32 : decode cX11_shifts 32 = .ok (.ifCond .ne 5, 3) := by decide +kernel
theorem dX11_shifts_35 : decode cX11_shifts 35 = .ok (.iconst 0, 1) := by decide +kernel
theorem dX11_shifts_36 : decode cX11_shifts 36 = .ok (.ireturn, 1) := by decide +kernel
theorem dX11_shifts_37 : decode cX11_shifts 37 = .ok (.aload_n 0, 1) := by decide +kernel
theorem dX11_shifts_38 : decode cX11_shifts 38 = .ok (.dup, 1) := by decide +kernel
theorem dX11_shifts_39 : decode cX11_shifts 39 = .ok (.getfield 29, 3) := by decide +kernel
theorem dX11_shifts_42 : decode cX11_shifts 42 = .ok (.iload_n 3, 1) := by decide +kernel
theorem dX11_shifts_43 : decode cX11_shifts 43 = .ok (.isub, 1) := by decide +kernel
theorem dX11_shifts_44 : decode cX11_shifts 44 = .ok (.putfield 29, 3) := by decide +kernel
theorem dX11_shifts_47 : decode cX11_shifts 47 = .ok (.aload_n 0, 1) := by decide +kernel
theorem dX11_shifts_48 : decode cX11_shifts 48 = .ok (.iconst 0, 1) := by decide +kernel
theorem dX11_shifts_49 : decode cX11_shifts 49 = .ok (.putfield 152, 3) := by decide +kernel
theorem dX11_shifts_52 : decode cX11_shifts 52 = .ok (.aload_n 0, 1) := by decide +kernel
theorem dX11_shifts_53 : decode cX11_shifts 53 = .ok (.invokevirtual 189, 3) := by decide +kernel
theorem dX11_shifts_56 : decode cX11_shifts 56 = .ok (.iconst 1, 1) := by decide +kernel
theorem dX11_shifts_57 : decode cX11_shifts 57 = .ok (.ireturn, 1) := by decide +kernel
theorem dX11_load_0 : decode cX11_load 0 = .ok (.iload_n 1, 1) := by decide +kernel
theorem dX11_load_1 : decode cX11_load 1 = .ok (.iconst 0, 1) := by decide +kernel
theorem dX11_load_2 : decode cX11_load 2 = .ok (.bipush 20, 2) := by decide +kernel
theorem dX11_load_4 : decode cX11_load 4 = .ok (.invokestatic 59, 3) := by decide +kernel
theorem dX11_load_7 : decode cX11_load 7 = .ok (.ifCond .eq 27, 3) := by decide +kernel
theorem dX11_load_10 : decode cX11_load 10 = .ok (.iload_n 2, 1) := by decide +kernel
theorem dX11_load_11 : decode cX11_load 11 = .ok (.bipush (-5), 2) := by decide +kernel
theorem dX11_load_13 : decode cX11_load 13 = .ok (.iconst 5, 1) := by decide +kernel
theorem dX11_load_14 : decode cX11_load 14 = .ok (.invokestatic 59, 3) := by decide +kernel
theorem dX11_load_17 : decode cX11_load 17 = .ok (.ifCond .eq 17, 3) := by decide +kernel
theorem dX11_load_20 : decode cX11_load 20 = .ok (.iload_n 3, 1) := by decide +kernel
theorem dX11_load_21 : decode cX11_load 21 = .ok (.bipush (-5), 2) := by decide +kernel
theorem dX11_load_23 : decode cX11_load 23 = .ok (.iconst 5, 1) := by decide +kernel
theorem dX11_load_24 : decode cX11_load 24 = .ok (.invokestatic 59, 3) := by decide +kernel
theorem dX11_load_27 : decode cX11_load 27 = .ok (.ifCond .eq 7, 3) := by decide +kernel
theorem dX11_load_30 : decode cX11_load 30 = .ok (.iconst 1, 1) := by decide +kernel
theorem dX11_load_31 : decode cX11_load 31 = .ok (.goto 4, 3) := by decide +kernel
theorem dX11_load_34 : decode cX11_load 34 = .ok (.iconst 0, 1) := by decide +kernel
theorem dX11_load_35 : decode cX11_load 35 = .ok (.istore 4, 2) := by decide +kernel
theorem dX11_load_37 : decode cX11_load 37 = .ok (.aload_n 0, 1) := by decide +kernel
theorem dX11_load_38 : decode cX11_load 38 = .ok (.getfield 100, 3) := by decide +kernel
theorem dX11_load_41 : decode cX11_load 41 = .ok (.istore 5, 2) := by decide +kernel
theorem dX11_load_43 : decode cX11_load 43 = .ok (.aload_n 0, 1) := by decide +kernel
theorem dX11_load_44 : decode cX11_load 44 = .ok (.getfield 107, 3) := by decide +kernel
theorem dX11_load_47 : decode cX11_load 47 = .ok (.istore 6, 2) := by decide +kernel
theorem dX11_load_49 : decode cX11_load 49 = .ok (.aload_n 0, 1) := by decide +kernel
theorem dX11_load_50 : decode cX11_load 50 = .ok (.getfield 110, 3) := by decide +kernel
theorem dX11_load_53 : decode cX11_load 53 = .ok (.istore 7, 2) := by decide +kernel
theorem dX11_load_55 : decode cX11_load 55 = .ok (.iload 4, 2) := by decide +kernel
theorem dX11_load_57 : decode cX11_load 57 = .ok (.ifCond .eq 18, 3) := by decide +kernel
theorem dX11_load_60 : decode cX11_load 60 = .ok (.aload_n 0, 1) := by decide +kernel
theorem dX11_load_61 : decode cX11_load 61 = .ok (.iload_n 1, 1) := by decide +kernel
theorem dX11_load_62 : decode cX11_load 62 = .ok (.putfield 100, 3) := by decide +kernel
theorem dX11_load_65 : decode cX11_load 65 = .ok (.aload_n 0, 1) := by decide +kernel
theorem dX11_load_66 : decode cX11_load 66 = .ok (.iload_n 2, 1) := by decide +kernel
theorem dX11_load_67 : decode cX11_load 67 = .ok (.putfield 107, 3) := by decide +kernel
theorem dX11_load_70 : decode cX11_load 70 = .ok (.aload_n 0, 1) := by decide +kernel
theorem dX11_load_71 : decode cX11_load 71 = .ok (.iload_n 3, 1) := by decide +kernel
theorem dX11_load_72 : decode cX11_load 72 = .ok (.putfield 110, 3) := by decide +kernel
theorem dX11_load_75 : decode cX11_load 75 = .ok (.aload_n 0, 1) := by decide +kernel
theorem dX11_load_76 : decode cX11_load 76 = .ok (.iload 4, 2) := by decide +kernel
theorem dX11_load_78 : decode cX11_load 78 = .ok (.ifCond .ne 7, 3) := by decide +kernel
theorem dX11_load_81 : decode cX11_load 81 = .ok (.iconst 1, 1) := by decide +kernel
theorem dX11_load_82 : decode cX11_load 82 = .ok (.goto 26, 3) := by decide +kernel
theorem dX11_load_85 : decode cX11_load 85 = .ok (.aload_n 0, 1) := by decide +kernel
theorem dX11_load_86 : decode cX11_load 86 = .ok (.getfield 84, 3) := by decide +kernel
theorem dX11_load_89 : decode cX11_load 89 = .ok (.ifCond .eq 18, 3) := by decide +kernel
theorem dX11_load_92 : decode cX11_load 92 = .ok (.aload_n 0, 1) := by decide +kernel
theorem dX11_load_93 : decode cX11_load 93 = .ok (.aload_n 0, 1) := by decide +kernel
theorem dX11_load_94 : decode cX11_load 94 = .ok (.getfield 66, 3) := by decide +kernel
theorem dX11_load_97 : decode cX11_load 97 = .ok (.invokevirtual 180, 3) := by decide +kernel
theorem dX11_load_100 : decode cX11_load 100 = .ok (.ifCond .ne 7, 3) := by decide +kernel
theorem dX11_load_103 : decode cX11_load 103 = .ok (.iconst 2, 1) := by decide +kernel
theorem dX11_load_104 : decode cX11_load 104 = .ok (.goto 4, 3) := by decide +kernel
theorem dX11_load_107 : decode cX11_load 107 = .ok (.iconst 0, 1) := by decide +kernel
theorem dX11_load_108 : decode cX11_load 108 = .ok (.invokevirtual 77, 3) := by decide +kernel
theorem dX11_load_111 : decode cX11_load 111 = .ok (.ifCond .eq 23, 3) := by decide +kernel
theorem dX11_load_114 : decode cX11_load 114 = .ok (.aload_n 0, 1) := by decide +kernel
theorem dX11_load_115 : decode cX11_load 115 = .ok (.iload 5, 2) := by decide +kernel
theorem dX11_load_117 : decode cX11_load 117 = .ok (.putfield 100, 3) := by decide +kernel
theorem dX11_load_120 : decode cX11_load 120 = .ok (.aload_n 0, 1) := by decide +kernel
theorem dX11_load_121 : decode cX11_load 121 = .ok (.iload 6, 2) := by decide +kernel
theorem dX11_load_123 : decode cX11_load 123 = .ok (.putfield 107, 3) := by decide +kernel
theorem dX11_load_126 : decode cX11_load 126 = .ok (.aload_n 0, 1) := by decide +kernel
theorem dX11_load_127 : decode cX11_load 127 = .ok (.iload 7, 2) := by decide +kernel
theorem dX11_load_129 : decode cX11_load 129 = .ok (.putfield 110, 3) := by decide +kernel
theorem dX11_load_132 : decode cX11_load 132 = .ok (.iconst 0, 1) := by decide +kernel
theorem dX11_load_133 : decode cX11_load 133 = .ok (.ireturn, 1) := by decide +kernel
theorem dX11_load_134 : decode cX11_load 134 = .ok (.aload_n 0, 1) := by decide +kernel
theorem dX11_load_135 : decode cX11_load 135 = .ok (.iconst 0, 1) := by decide +kernel
theorem dX11_load_136 : decode cX11_load 136 = .ok (.putfield 152, 3) := by decide +kernel
theorem dX11_load_139 : decode cX11_load 139 = .ok (.aload_n 0, 1) := by decide +kernel
theorem dX11_load_140 : decode cX11_load 140 = .ok (.invokevirtual 189, 3) := by decide +kernel
theorem dX11_load_143 : decode cX11_load 143 = .ok (.aload_n 0, 1) := by decide +kernel
theorem dX11_load_144 : decode cX11_load 144 = .ok (.getfield 152, 3) := by decide +kernel
theorem dX11_load_147 : decode cX11_load 147 = .ok (.ireturn, 1) := by decide +kernel
theorem dX11_canRise_0 : decode cX11_canRise 0 = .ok (.aload_n 0, 1) := by decide +kernel
theorem dX11_canRise_1 : decode cX11_canRise 1 = .ok (.getfield 84, 3) := by decide +kernel
theorem dX11_canRise_4 : decode cX11_canRise 4 = .ok (.ifCond .ne 23, 3) := by decide +kernel
theorem dX11_canRise_7 : decode cX11_canRise 7 = .ok (.aload_n 0, 1) := by decide +kernel
theorem dX11_canRise_8 : decode cX11_canRise 8 = .ok (.getfield 29, 3) := by decide +kernel
theorem dX11_canRise_11 : decode cX11_canRise 11 = .ok (.bipush 20, 2) := by decide +kernel
theorem dX11_canRise_13 : decode cX11_canRise 13 = .ok (.if_icmp .lt 14, 3) := by decide +kernel
theorem dX11_canRise_16 : decode cX11_canRise 16 = .ok (.aload_n 0, 1) := by decide +kernel
theorem dX11_canRise_17 : decode cX11_canRise 17 = .ok (.getfield 63, 3) := by decide +kernel
theorem dX11_canRise_20 : decode cX11_canRise 20 = .ok (.ifCond .le 7, 3) := by decide +kernel
theorem dX11_canRise_23 : decode cX11_canRise 23 = .ok (.iconst 1, 1) := by decide +kernel
theorem dX11_canRise_24 : decode cX11_canRise 24 = .ok (.goto 4, 3) := by decide +kernel
theorem dX11_canRise_27 : decode cX11_canRise 27 = .ok (.iconst 0, 1) := by decide +kernel
theorem dX11_canRise_28 : decode cX11_canRise 28 = .ok (.istore_n 1, 1) := by decide +kernel
theorem dX11_canRise_29 : decode cX11_canRise 29 = .ok (.bipush 9, 2) := by decide +kernel
theorem dX11_canRise_31 : decode cX11_canRise 31 = .ok (.istore_n 2, 1) := by decide +kernel
theorem dX11_canRise_32 : decode cX11_canRise 32 = .ok (.iconst 0, 1) := by decide +kernel
theorem dX11_canRise_33 : decode cX11_canRise 33 = .ok (.istore_n 3, 1) := by decide +kernel
theorem dX11_canRise_34 : decode cX11_canRise 34 = .ok (.iconst 0, 1) := by decide +kernel
theorem dX11_canRise_35 : decode cX11_canRise 35 = .ok (.istore 4, 2) := by decide +kernel
theorem dX11_canRise_37 : decode cX11_canRise 37 = .ok (.iload 4, 2) := by decide +kernel
theorem dX11_canRise_39 : decode cX11_canRise 39 = .ok (.aload_n 0, 1) := by decide +kernel
theorem dX11_canRise_40 : decode cX11_canRise 40 = .ok (.getfield 63, 3) := by decide +kernel
theorem dX11_canRise_43 : decode cX11_canRise 43 = .ok (.if_icmp .ge 187, 3) := by decide +kernel
theorem dX11_canRise_46 : decode cX11_canRise 46 = .ok (.iload_n 1, 1) := by decide +kernel
theorem dX11_canRise_47 : decode cX11_canRise 47 = .ok (.ifCond .eq 183, 3) := by decide +kernel
theorem dX11_canRise_50 : decode cX11_canRise 50 = .ok (.aload_n 0, 1) := by decide +kernel
theorem dX11_canRise_51 : decode cX11_canRise 51 = .ok (.getfield 41, 3) := by decide +kernel
theorem dX11_canRise_54 : decode cX11_canRise 54 = .ok (.iload 4, 2) := by decide +kernel
theorem dX11_canRise_56 : decode cX11_canRise 56 = .ok (.aload_n 0, 1) := by decide +kernel
theorem dX11_canRise_57 : decode cX11_canRise 57 = .ok (.getfield 22, 3) := by decide +kernel
theorem dX11_canRise_60 : decode cX11_canRise 60 = .ok (.aload_n 0, 1) := by decide +kernel
theorem dX11_canRise_61 : decode cX11_canRise 61 = .ok (.getfield 32, 3) := by decide +kernel
theorem dX11_canRise_64 : decode cX11_canRise 64 = .ok (.iload 4, 2) := by decide +kernel
theorem dX11_canRise_66 : decode cX11_canRise 66 = .ok (.iaload, 1) := by decide +kernel
theorem dX11_canRise_67 : decode cX11_canRise 67 = .ok (.iadd, 1) := by decide +kernel
theorem dX11_canRise_68 : decode cX11_canRise 68 = .ok (.iastore, 1) := by decide +kernel
theorem dX11_canRise_69 : decode cX11_canRise 69 = .ok (.aload_n 0, 1) := by decide +kernel
theorem dX11_canRise_70 : decode cX11_canRise 70 = .ok (.getfield 44, 3) := by decide +kernel
theorem dX11_canRise_73 : decode cX11_canRise 73 = .ok (.iload 4, 2) := by decide +kernel
theorem dX11_canRise_75 : decode cX11_canRise 75 = .ok (.aload_n 0, 1) := by decide +kernel
theorem dX11_canRise_76 : decode cX11_canRise 76 = .ok (.getfield 26, 3) := by decide +kernel
theorem dX11_canRise_79 : decode cX11_canRise 79 = .ok (.aload_n 0, 1) := by decide +kernel
theorem dX11_canRise_80 : decode cX11_canRise 80 = .ok (.getfield 35, 3) := by decide +kernel
theorem dX11_canRise_83 : decode cX11_canRise 83 = .ok (.iload 4, 2) := by decide +kernel
theorem dX11_canRise_85 : decode cX11_canRise 85 = .ok (.iaload, 1) := by decide +kernel
theorem dX11_canRise_86 : decode cX11_canRise 86 = .ok (.iadd, 1) := by decide +kernel
theorem dX11_canRise_87 : decode cX11_canRise 87 = .ok (.iastore, 1) := by decide +kernel
theorem dX11_canRise_88 : decode cX11_canRise 88 = .ok (.aload_n 0, 1) := by decide +kernel
theorem dX11_canRise_89 : decode cX11_canRise 89 = .ok (.getfield 41, 3) := by decide +kernel
theorem dX11_canRise_92 : decode cX11_canRise 92 = .ok (.iload 4, 2) := by decide +kernel
theorem dX11_canRise_94 : decode cX11_canRise 94 = .ok (.iaload, 1) := by decide +kernel
theorem dX11_canRise_95 : decode cX11_canRise 95 = .ok (.aload_n 0, 1) := by decide +kernel
theorem dX11_canRise_96 : decode cX11_canRise 96 = .ok (.getfield 44, 3) := by decide +kernel
theorem dX11_canRise_99 : decode cX11_canRise 99 = .ok (.iload 4, 2) := by decide +kernel
theorem dX11_canRise_101 : decode cX11_canRise 101 = .ok (.iaload, 1) := by decide +kernel
theorem dX11_canRise_102 : decode cX11_canRise 102 = .ok (.invokestatic 69, 3) := by decide +kernel
theorem dX11_canRise_105 : decode cX11_canRise 105 = .ok (.istore_n 1, 1) := by decide +kernel
theorem dX11_canRise_106 : decode cX11_canRise 106 = .ok (.iconst 0, 1) := by decide +kernel
theorem dX11_canRise_107 : decode cX11_canRise 107 = .ok (.istore 5, 2) := by decide +kernel
theorem dX11_canRise_109 : decode cX11_canRise 109 = .ok (.iload 5, 2) := by decide +kernel
theorem dX11_canRise_111 : decode cX11_canRise 111 = .ok (.iload 4, 2) := by decide +kernel
theorem dX11_canRise_113 : decode cX11_canRise 113 = .ok (.if_icmp .ge 53, 3) := by decide +kernel
theorem dX11_canRise_116 : decode cX11_canRise 116 = .ok (.iload_n 1, 1) := by decide +kernel
theorem dX11_canRise_117 : decode cX11_canRise 117 = .ok (.ifCond .eq 49, 3) := by decide +kernel
theorem dX11_canRise_120 : decode cX11_canRise 120 = .ok (.aload_n 0, 1) := by decide +kernel
theorem dX11_canRise_121 : decode cX11_canRise 121 = .ok (.getfield 41, 3) := by decide +kernel
theorem dX11_canRise_124 : decode cX11_canRise 124 = .ok (.iload 5, 2) := by decide +kernel
theorem dX11_canRise_126 : decode cX11_canRise 126 = .ok (.iaload, 1) := by decide +kernel
theorem dX11_canRise_127 : decode cX11_canRise 127 = .ok (.aload_n 0, 1) := by decide +kernel
theorem dX11_canRise_128 : decode cX11_canRise 128 = .ok (.getfield 41, 3) := by decide +kernel
theorem dX11_canRise_131 : decode cX11_canRise 131 = .ok (.iload 4, 2) := by decide +kernel
theorem dX11_canRise_133 : decode cX11_canRise 133 = .ok (.iaload, 1) := by decide +kernel
theorem dX11_canRise_134 : decode cX11_canRise 134 = .ok (.if_icmp .ne 20, 3) := by decide +kernel
theorem dX11_canRise_137 : decode cX11_canRise 137 = .ok (.aload_n 0, 1) := by decide +kernel
theorem dX11_canRise_138 : decode cX11_canRise 138 = .ok (.getfield 44, 3) := by decide +kernel
theorem dX11_canRise_141 : decode cX11_canRise 141 = .ok (.iload 5, 2) := by decide +kernel
theorem dX11_canRise_143 : decode cX11_canRise 143 = .ok (.iaload, 1) := by decide +kernel
theorem dX11_canRise_144 : decode cX11_canRise 144 = .ok (.aload_n 0, 1) := by decide +kernel
theorem dX11_canRise_145 : decode cX11_canRise 145 = .ok (.getfield 44, 3) := by decide +kernel
theorem dX11_canRise_148 : decode cX11_canRise 148 = .ok (.iload 4, 2) := by decide +kernel
theorem dX11_canRise_150 : decode cX11_canRise 150 = .ok (.iaload, 1) := by decide +kernel
theorem dX11_canRise_151 : decode cX11_canRise 151 = .ok (.if_icmp .eq 7, 3) := by decide +kernel
theorem dX11_canRise_154 : decode cX11_canRise 154 = .ok (.iconst 1, 1) := by decide +kernel
theorem dX11_canRise_155 : decode cX11_canRise 155 = .ok (.goto 4, 3) := by decide +kernel
theorem dX11_canRise_158 : decode cX11_canRise 158 = .ok (.iconst 0, 1) := by decide +kernel
theorem dX11_canRise_159 : decode cX11_canRise 159 = .ok (.istore_n 1, 1) := by decide +kernel
theorem dX11_canRise_160 : decode cX11_canRise 160 = .ok (.iinc 5 1, 3) := by decide +kernel
theorem dX11_canRise_163 : decode cX11_canRise 163 = .ok (.goto (-54), 3) := by decide +kernel
theorem dX11_canRise_166 : decode cX11_canRise 166 = .ok (.iload_n 1, 1) := by decide +kernel
theorem dX11_canRise_167 : decode cX11_canRise 167 = .ok (.ifCond .eq 28, 3) := by decide +kernel
theorem dX11_canRise_170 : decode cX11_canRise 170 = .ok (.aload_n 0, 1) := by decide +kernel
theorem dX11_canRise_171 : decode cX11_canRise 171 = .ok (.getfield 19, 3) := by decide +kernel
theorem dX11_canRise_174 : decode cX11_canRise 174 = .ok (.aload_n 0, 1) := by decide +kernel
theorem dX11_canRise_175 : decode cX11_canRise 175 = .ok (.getfield 41, 3) := by decide +kernel
theorem dX11_canRise_178 : decode cX11_canRise 178 = .ok (.iload 4, 2) := by decide +kernel
theorem dX11_canRise_180 : decode cX11_canRise 180 = .ok (.iaload, 1) := by decide +kernel
theorem dX11_canRise_181 : decode cX11_canRise 181 = .ok (.aload_n 0, 1) := by decide +kernel
theorem dX11_canRise_182 : decode cX11_canRise 182 = .ok (.getfield 44, 3) := by decide +kernel
theorem dX11_canRise_185 : decode cX11_canRise 185 = .ok (.iload 4, 2) := by decide +kernel
theorem dX11_canRise_187 : decode cX11_canRise 187 = .ok (.iaload, 1) := by decide +kernel
theorem dX11_canRise_188 : decode cX11_canRise 188 = .ok (.invokestatic 81, 3) := by decide +kernel
theorem dX11_canRise_191 : decode cX11_canRise 191 = .ok (.iaload, 1) := by decide +kernel
theorem dX11_canRise_192 : decode cX11_canRise 192 = .ok (.goto 4, 3) := by decide +kernel
theorem dX11_canRise_195 : decode cX11_canRise 195 = .ok (.iconst 0, 1) := by decide +kernel
theorem dX11_canRise_196 : decode cX11_canRise 196 = .ok (.istore 5, 2) := by decide +kernel
theorem dX11_canRise_198 : decode cX11_canRise 198 = .ok (.iload 5, 2) := by decide +kernel
theorem dX11_canRise_200 : decode cX11_canRise 200 = .ok (.iload_n 2, 1) := by decide +kernel
theorem dX11_canRise_201 : decode cX11_canRise 201 = .ok (.if_icmp .ge 8, 3) := by decide +kernel
theorem dX11_canRise_204 : decode cX11_canRise 204 = .ok (.iload 5, 2) := by decide +kernel
theorem dX11_canRise_206 : decode cX11_canRise 206 = .ok (.goto 4, 3) := by decide +kernel
theorem dX11_canRise_209 : decode cX11_canRise 209 = .ok (.iload_n 2, 1) := by decide +kernel
theorem dX11_canRise_210 : decode cX11_canRise 210 = .ok (.istore_n 2, 1) := by decide +kernel
theorem dX11_canRise_211 : decode cX11_canRise 211 = .ok (.iload 5, 2) := by decide +kernel
theorem dX11_canRise_213 : decode cX11_canRise 213 = .ok (.iload_n 3, 1) := by decide +kernel
theorem dX11_canRise_214 : decode cX11_canRise 214 = .ok (.if_icmp .le 8, 3) := by decide +kernel
theorem dX11_canRise_217 : decode cX11_canRise 217 = .ok (.iload 5, 2) := by decide +kernel
theorem dX11_canRise_219 : decode cX11_canRise 219 = .ok (.goto 4, 3) := by decide +kernel
theorem dX11_canRise_222 : decode cX11_canRise 222 = .ok (.iload_n 3, 1) := by decide +kernel
theorem dX11_canRise_223 : decode cX11_canRise 223 = .ok (.istore_n 3, 1) := by decide +kernel
theorem dX11_canRise_224 : decode cX11_canRise 224 = .ok (.iinc 4 1, 3) := by decide +kernel
theorem dX11_canRise_227 : decode cX11_canRise 227 = .ok (.goto (-190), 3) := by decide +kernel
theorem dX11_canRise_230 : decode cX11_canRise 230 = .ok (.iload_n 1, 1) := by decide +kernel
theorem dX11_canRise_231 : decode cX11_canRise 231 = .ok (.ifCond .eq 29, 3) := by decide +kernel
theorem dX11_canRise_234 : decode cX11_canRise 234 = .ok (.iload_n 3, 1) := by decide +kernel
theorem dX11_canRise_235 : decode cX11_canRise 235 = .ok (.iload_n 2, 1) := by decide +kernel
theorem dX11_canRise_236 : decode cX11_canRise 236 = .ok (.isub, 1) := by decide +kernel
theorem dX11_canRise_237 : decode cX11_canRise 237 = .ok (.iconst 2, 1) := by decide +kernel
theorem dX11_canRise_238 : decode cX11_canRise 238 = .ok (.if_icmp .gt 22, 3) := by decide +kernel
theorem dX11_canRise_241 : decode cX11_canRise 241 = .ok (.aload_n 0, 1) := by decide +kernel
theorem dX11_canRise_242 : decode cX11_canRise 242 = .ok (.iconst 1, 1) := by decide +kernel
theorem dX11_canRise_243 : decode cX11_canRise 243 = .ok (.aload_n 0, 1) := by decide +kernel
theorem dX11_canRise_244 : decode cX11_canRise 244 = .ok (.getfield 63, 3) := by decide +kernel
theorem dX11_canRise_247 : decode cX11_canRise 247 = .ok (.ishl, 1) := by decide +kernel
theorem dX11_canRise_248 : decode cX11_canRise 248 = .ok (.iconst 1, 1) := by decide +kernel
theorem dX11_canRise_249 : decode cX11_canRise 249 = .ok (.isub, 1) := by decide +kernel
theorem dX11_canRise_250 : decode cX11_canRise 250 = .ok (.invokevirtual 180, 3) := by decide +kernel
theorem dX11_canRise_253 : decode cX11_canRise 253 = .ok (.ifCond .eq 7, 3) := by decide +kernel
theorem dX11_canRise_256 : decode cX11_canRise 256 = .ok (.iconst 1, 1) := by decide +kernel
theorem dX11_canRise_257 : decode cX11_canRise 257 = .ok (.goto 4, 3) := by decide +kernel
theorem dX11_canRise_260 : decode cX11_canRise 260 = .ok (.iconst 0, 1) := by decide +kernel
theorem dX11_canRise_261 : decode cX11_canRise 261 = .ok (.ireturn, 1) := by decide +kernel
theorem dX11_rise_0 : decode cX11_rise 0 = .ok (.aload_n 0, 1) := by decide +kernel
theorem dX11_rise_1 : decode cX11_rise 1 = .ok (.aload_n 0, 1) := by decide +kernel
theorem dX11_rise_2 : decode cX11_rise 2 = .ok (.invokevirtual 207, 3) := by decide +kernel
theorem dX11_rise_5 : decode cX11_rise 5 = .ok (.ifCond .eq 7, 3) := by decide +kernel
theorem dX11_rise_8 : decode cX11_rise 8 = .ok (.iconst 0, 1) := by decide +kernel
theorem dX11_rise_9 : decode cX11_rise 9 = .ok (.goto 4, 3) := by decide +kernel
theorem dX11_rise_12 : decode cX11_rise 12 = .ok (.iconst 1, 1) := by decide +kernel
theorem dX11_rise_13 : decode cX11_rise 13 = .ok (.invokevirtual 77, 3) := by decide +kernel
theorem dX11_rise_16 : decode cX11_rise 16 = .ok (.ifCond .eq 5, 3) := by decide +kernel
theorem dX11_rise_19 : decode cX11_rise 19 = .ok (.iconst 0, 1) := by decide +kernel
theorem dX11_rise_20 : decode cX11_rise 20 = .ok (.ireturn, 1) := by decide +kernel
theorem dX11_rise_21 : decode cX11_rise 21 = .ok (.aload_n 0, 1) := by decide +kernel
theorem dX11_rise_22 : decode cX11_rise 22 = .ok (.dup, 1) := by decide +kernel
theorem dX11_rise_23 : decode cX11_rise 23 = .ok (.getfield 29, 3) := by decide +kernel
theorem dX11_rise_26 : decode cX11_rise 26 = .ok (.bipush 20, 2) := by decide +kernel
theorem dX11_rise_28 : decode cX11_rise 28 = .ok (.isub, 1) := by decide +kernel
theorem dX11_rise_29 : decode cX11_rise 29 = .ok (.putfield 29, 3) := by decide +kernel
theorem dX11_rise_32 : decode cX11_rise 32 = .ok (.aload_n 0, 1) := by decide +kernel
theorem dX11_rise_33 : decode cX11_rise 33 = .ok (.iconst 1, 1) := by decide +kernel
theorem dX11_rise_34 : decode cX11_rise 34 = .ok (.putfield 84, 3) := by decide +kernel
theorem dX11_rise_37 : decode cX11_rise 37 = .ok (.aload_n 0, 1) := by decide +kernel
theorem dX11_rise_38 : decode cX11_rise 38 = .ok (.iconst 0, 1) := by decide +kernel
theorem dX11_rise_39 : decode cX11_rise 39 = .ok (.putfield 140, 3) := by decide +kernel
theorem dX11_rise_42 : decode cX11_rise 42 = .ok (.aload_n 0, 1) := by decide +kernel
theorem dX11_rise_43 : decode cX11_rise 43 = .ok (.iconst 0, 1) := by decide +kernel
theorem dX11_rise_44 : decode cX11_rise 44 = .ok (.putfield 143, 3) := by decide +kernel
theorem dX11_rise_47 : decode cX11_rise 47 = .ok (.aload_n 0, 1) := by decide +kernel
theorem dX11_rise_48 : decode cX11_rise 48 = .ok (.iconst 0, 1) := by decide +kernel
theorem dX11_rise_49 : decode cX11_rise 49 = .ok (.putfield 152, 3) := by decide +kernel
theorem dX11_rise_52 : decode cX11_rise 52 = .ok (.iconst 0, 1) := by decide +kernel
theorem dX11_rise_53 : decode cX11_rise 53 = .ok (.istore_n 1, 1) := by decide +kernel
theorem dX11_rise_54 : decode cX11_rise 54 = .ok (.iload_n 1, 1) := by decide +kernel
theorem dX11_rise_55 : decode cX11_rise 55 = .ok (.aload_n 0, 1) := by decide +kernel
theorem dX11_rise_56 : decode cX11_rise 56 = .ok (.getfield 63, 3) := by decide +kernel
theorem dX11_rise_59 : decode cX11_rise 59 = .ok (.if_icmp .ge 50, 3) := by decide +kernel
theorem dX11_rise_62 : decode cX11_rise 62 = .ok (.aload_n 0, 1) := by decide +kernel
theorem dX11_rise_63 : decode cX11_rise 63 = .ok (.getfield 22, 3) := by decide +kernel
theorem dX11_rise_66 : decode cX11_rise 66 = .ok (.aload_n 0, 1) := by decide +kernel
theorem dX11_rise_67 : decode cX11_rise 67 = .ok (.getfield 32, 3) := by decide +kernel
theorem dX11_rise_70 : decode cX11_rise 70 = .ok (.iload_n 1, 1) := by decide +kernel
theorem dX11_rise_71 : decode cX11_rise 71 = .ok (.iaload, 1) := by decide +kernel
theorem dX11_rise_72 : decode cX11_rise 72 = .ok (.iadd, 1) := by decide +kernel
theorem dX11_rise_73 : decode cX11_rise 73 = .ok (.istore_n 2, 1) := by decide +kernel
theorem dX11_rise_74 : decode cX11_rise 74 = .ok (.aload_n 0, 1) := by decide +kernel
theorem dX11_rise_75 : decode cX11_rise 75 = .ok (.getfield 26, 3) := by decide +kernel
theorem dX11_rise_78 : decode cX11_rise 78 = .ok (.aload_n 0, 1) := by decide +kernel
theorem dX11_rise_79 : decode cX11_rise 79 = .ok (.getfield 35, 3) := by decide +kernel
theorem dX11_rise_82 : decode cX11_rise 82 = .ok (.iload_n 1, 1) := by decide +kernel
theorem dX11_rise_83 : decode cX11_rise 83 = .ok (.iaload, 1) := by decide +kernel
theorem dX11_rise_84 : decode cX11_rise 84 = .ok (.iadd, 1) := by decide +kernel
theorem dX11_rise_85 : decode cX11_rise 85 = .ok (.istore_n 3, 1) := by decide +kernel
theorem dX11_rise_86 : decode cX11_rise 86 = .ok (.aload_n 0, 1) := by decide +kernel
theorem dX11_rise_87 : decode cX11_rise 87 = .ok (.iload_n 2, 1) := by decide +kernel
theorem dX11_rise_88 : decode cX11_rise 88 = .ok (.iload_n 3, 1) := by decide +kernel
theorem dX11_rise_89 : decode cX11_rise 89 = .ok (.invokevirtual 73, 3) := by decide +kernel
theorem dX11_rise_92 : decode cX11_rise 92 = .ok (.iconst (-1), 1) := by decide +kernel
theorem dX11_rise_93 : decode cX11_rise 93 = .ok (.if_icmp .ne 10, 3) := by decide +kernel
theorem dX11_rise_96 : decode cX11_rise 96 = .ok (.aload_n 0, 1) := by decide +kernel
theorem dX11_rise_97 : decode cX11_rise 97 = .ok (.iload_n 1, 1) := by decide +kernel
theorem dX11_rise_98 : decode cX11_rise 98 = .ok (.iload_n 2, 1) := by decide +kernel
theorem dX11_rise_99 : decode cX11_rise 99 = .ok (.iload_n 3, 1) := by decide +kernel
theorem dX11_rise_100 : decode cX11_rise 100 = .ok (.invokevirtual 201, 3) := by decide +kernel
theorem dX11_rise_103 : decode cX11_rise 103 = .ok (.iinc 1 1, 3) := by decide +kernel
theorem dX11_rise_106 : decode cX11_rise 106 = .ok (.goto (-52), 3) := by decide +kernel
theorem dX11_rise_109 : decode cX11_rise 109 = .ok (.aload_n 0, 1) := by decide +kernel
theorem dX11_rise_110 : decode cX11_rise 110 = .ok (.invokevirtual 189, 3) := by decide +kernel
theorem dX11_rise_113 : decode cX11_rise 113 = .ok (.aload_n 0, 1) := by decide +kernel
theorem dX11_rise_114 : decode cX11_rise 114 = .ok (.getfield 66, 3) := by decide +kernel
theorem dX11_rise_117 : decode cX11_rise 117 = .ok (.invokestatic 137, 3) := by decide +kernel
theorem dX11_rise_120 : decode cX11_rise 120 = .ok (.ireturn, 1) := by decide +kernel
theorem dX11_lift_0 : decode cX11_lift 0 = .ok (.aload_n 0, 1) := by decide +kernel
theorem dX11_lift_1 : decode cX11_lift 1 = .ok (.aload_n 0, 1) := by decide +kernel
theorem dX11_lift_2 : decode cX11_lift 2 = .ok (.iload_n 1, 1) := by decide +kernel
theorem dX11_lift_3 : decode cX11_lift 3 = .ok (.invokevirtual 88, 3) := by decide +kernel
theorem dX11_lift_6 : decode cX11_lift 6 = .ok (.ifCond .ne 7, 3) := by decide +kernel
theorem dX11_lift_9 : decode cX11_lift 9 = .ok (.iconst 1, 1) := by decide +kernel
theorem dX11_lift_10 : decode cX11_lift 10 = .ok (.goto 16, 3) := by decide +kernel
theorem dX11_lift_13 : decode cX11_lift 13 = .ok (.aload_n 0, 1) := by decide +kernel
theorem dX11_lift_14 : decode cX11_lift 14 = .ok (.iload_n 1, 1) := by decide +kernel
theorem dX11_lift_15 : decode cX11_lift 15 = .ok (.invokevirtual 211, 3) := by decide +kernel
theorem dX11_lift_18 : decode cX11_lift 18 = .ok (.ifCond .eq 7, 3) := by decide +kernel
theorem dX11_lift_21 : decode cX11_lift 21 = .ok (.iconst 0, 1) := by decide +kernel
theorem dX11_lift_22 : decode cX11_lift 22 = .ok (.goto 4, 3) := by decide +kernel
theorem dX11_lift_25 : decode cX11_lift 25 = .ok (.iconst 2, 1) := by decide +kernel
theorem dX11_lift_26 : decode cX11_lift 26 = .ok (.invokevirtual 77, 3) := by decide +kernel
theorem dX11_lift_29 : decode cX11_lift 29 = .ok (.ifCond .eq 7, 3) := by decide +kernel
theorem dX11_lift_32 : decode cX11_lift 32 = .ok (.iconst 0, 1) := by decide +kernel
theorem dX11_lift_33 : decode cX11_lift 33 = .ok (.goto 7, 3) := by decide +kernel
theorem dX11_lift_36 : decode cX11_lift 36 = .ok (.aload_n 0, 1) := by decide +kernel
theorem dX11_lift_37 : decode cX11_lift 37 = .ok (.getfield 152, 3) := by decide +kernel
theorem dX11_lift_40 : decode cX11_lift 40 = .ok (.ireturn, 1) := by decide +kernel
theorem dX11_place_0 : decode cX11_place 0 = .ok (.aload_n 0, 1) := by decide +kernel
theorem dX11_place_1 : decode cX11_place 1 = .ok (.aload_n 0, 1) := by decide +kernel
theorem dX11_place_2 : decode cX11_place 2 = .ok (.iload_n 1, 1) := by decide +kernel
theorem dX11_place_3 : decode cX11_place 3 = .ok (.invokevirtual 88, 3) := by decide +kernel
theorem dX11_place_6 : decode cX11_place 6 = .ok (.ifCond .ne 7, 3) := by decide +kernel
theorem dX11_place_9 : decode cX11_place 9 = .ok (.iconst 1, 1) := by decide +kernel
theorem dX11_place_10 : decode cX11_place 10 = .ok (.goto 30, 3) := by decide +kernel
theorem dX11_place_13 : decode cX11_place 13 = .ok (.iload_n 2, 1) := by decide +kernel
theorem dX11_place_14 : decode cX11_place 14 = .ok (.iload_n 3, 1) := by decide +kernel
theorem dX11_place_15 : decode cX11_place 15 = .ok (.invokestatic 69, 3) := by decide +kernel
theorem dX11_place_18 : decode cX11_place 18 = .ok (.ifCond .ne 7, 3) := by decide +kernel
theorem dX11_place_21 : decode cX11_place 21 = .ok (.iconst 2, 1) := by decide +kernel
theorem dX11_place_22 : decode cX11_place 22 = .ok (.goto 18, 3) := by decide +kernel
theorem dX11_place_25 : decode cX11_place 25 = .ok (.aload_n 0, 1) := by decide +kernel
theorem dX11_place_26 : decode cX11_place 26 = .ok (.iload_n 1, 1) := by decide +kernel
theorem dX11_place_27 : decode cX11_place 27 = .ok (.iload_n 2, 1) := by decide +kernel
theorem dX11_place_28 : decode cX11_place 28 = .ok (.iload_n 3, 1) := by decide +kernel
theorem dX11_place_29 : decode cX11_place 29 = .ok (.invokevirtual 214, 3) := by decide +kernel
theorem dX11_place_32 : decode cX11_place 32 = .ok (.ifCond .eq 7, 3) := by decide +kernel
theorem dX11_place_35 : decode cX11_place 35 = .ok (.iconst 0, 1) := by decide +kernel
theorem dX11_place_36 : decode cX11_place 36 = .ok (.goto 4, 3) := by decide +kernel
theorem dX11_place_39 : decode cX11_place 39 = .ok (.iconst 3, 1) := by decide +kernel
theorem dX11_place_40 : decode cX11_place 40 = .ok (.invokevirtual 77, 3) := by decide +kernel
theorem dX11_place_43 : decode cX11_place 43 = .ok (.ifCond .eq 7, 3) := by decide +kernel
theorem dX11_place_46 : decode cX11_place 46 = .ok (.iconst 0, 1) := by decide +kernel
theorem dX11_place_47 : decode cX11_place 47 = .ok (.goto 7, 3) := by decide +kernel
theorem dX11_place_50 : decode cX11_place 50 = .ok (.aload_n 0, 1) := by decide +kernel
theorem dX11_place_51 : decode cX11_place 51 = .ok (.getfield 152, 3) := by decide +kernel
theorem dX11_place_54 : decode cX11_place 54 = .ok (.ireturn, 1) := by decide +kernel
theorem dX11_shift_0 : decode cX11_shift 0 = .ok (.iload_n 1, 1) := by decide +kernel
theorem dX11_shift_1 : decode cX11_shift 1 = .ok (.iconst (-1), 1) := by decide +kernel
theorem dX11_shift_2 : decode cX11_shift 2 = .ok (.iconst 1, 1) := by decide +kernel
theorem dX11_shift_3 : decode cX11_shift 3 = .ok (.invokestatic 59, 3) := by decide +kernel
theorem dX11_shift_6 : decode cX11_shift 6 = .ok (.ifCond .eq 24, 3) := by decide +kernel
theorem dX11_shift_9 : decode cX11_shift 9 = .ok (.iload_n 2, 1) := by decide +kernel
theorem dX11_shift_10 : decode cX11_shift 10 = .ok (.iconst (-1), 1) := by decide +kernel
theorem dX11_shift_11 : decode cX11_shift 11 = .ok (.iconst 1, 1) := by decide +kernel
theorem dX11_shift_12 : decode cX11_shift 12 = .ok (.invokestatic 59, 3) := by decide +kernel
theorem dX11_shift_15 : decode cX11_shift 15 = .ok (.ifCond .eq 15, 3) := by decide +kernel
theorem dX11_shift_18 : decode cX11_shift 18 = .ok (.iload_n 1, 1) := by decide +kernel
theorem dX11_shift_19 : decode cX11_shift 19 = .ok (.ifCond .ne 7, 3) := by decide +kernel
theorem dX11_shift_22 : decode cX11_shift 22 = .ok (.iload_n 2, 1) := by decide +kernel
theorem dX11_shift_23 : decode cX11_shift 23 = .ok (.ifCond .eq 7, 3) := by decide +kernel
theorem dX11_shift_26 : decode cX11_shift 26 = .ok (.iconst 1, 1) := by decide +kernel
theorem dX11_shift_27 : decode cX11_shift 27 = .ok (.goto 4, 3) := by decide +kernel
theorem dX11_shift_30 : decode cX11_shift 30 = .ok (.iconst 0, 1) := by decide +kernel
theorem dX11_shift_31 : decode cX11_shift 31 = .ok (.istore_n 3, 1) := by decide +kernel
theorem dX11_shift_32 : decode cX11_shift 32 = .ok (.aload_n 0, 1) := by decide +kernel
theorem dX11_shift_33 : decode cX11_shift 33 = .ok (.iload_n 3, 1) := by decide +kernel
theorem dX11_shift_34 : decode cX11_shift 34 = .ok (.ifCond .ne 7, 3) := by decide +kernel
theorem dX11_shift_37 : decode cX11_shift 37 = .ok (.iconst 1, 1) := by decide +kernel
theorem dX11_shift_38 : decode cX11_shift 38 = .ok (.goto 17, 3) := by decide +kernel
theorem dX11_shift_41 : decode cX11_shift 41 = .ok (.aload_n 0, 1) := by decide +kernel
theorem dX11_shift_42 : decode cX11_shift 42 = .ok (.iload_n 1, 1) := by decide +kernel
theorem dX11_shift_43 : decode cX11_shift 43 = .ok (.iload_n 2, 1) := by decide +kernel
theorem dX11_shift_44 : decode cX11_shift 44 = .ok (.invokevirtual 217, 3) := by decide +kernel
theorem dX11_shift_47 : decode cX11_shift 47 = .ok (.ifCond .eq 7, 3) := by decide +kernel
theorem dX11_shift_50 : decode cX11_shift 50 = .ok (.iconst 0, 1) := by decide +kernel
theorem dX11_shift_51 : decode cX11_shift 51 = .ok (.goto 4, 3) := by decide +kernel
theorem dX11_shift_54 : decode cX11_shift 54 = .ok (.iconst 2, 1) := by decide +kernel
theorem dX11_shift_55 : decode cX11_shift 55 = .ok (.invokevirtual 77, 3) := by decide +kernel
theorem dX11_shift_58 : decode cX11_shift 58 = .ok (.ifCond .eq 7, 3) := by decide +kernel
theorem dX11_shift_61 : decode cX11_shift 61 = .ok (.iconst 0, 1) := by decide +kernel
theorem dX11_shift_62 : decode cX11_shift 62 = .ok (.goto 7, 3) := by decide +kernel
theorem dX11_shift_65 : decode cX11_shift 65 = .ok (.aload_n 0, 1) := by decide +kernel
theorem dX11_shift_66 : decode cX11_shift 66 = .ok (.getfield 152, 3) := by decide +kernel
theorem dX11_shift_69 : decode cX11_shift 69 = .ok (.ireturn, 1) := by decide +kernel
theorem dX11_walks_0 : decode cX11_walks 0 = .ok (.iconst 5, 1) := by decide +kernel
theorem dX11_walks_1 : decode cX11_walks 1 = .ok (.aload_n 0, 1) := by decide +kernel
theorem dX11_walks_2 : decode cX11_walks 2 = .ok (.getfield 94, 3) := by decide +kernel
theorem dX11_walks_5 : decode cX11_walks 5 = .ok (.imul, 1) := by decide +kernel
theorem dX11_walks_6 : decode cX11_walks 6 = .ok (.istore_n 1, 1) := by decide +kernel
theorem dX11_walks_7 : decode cX11_walks 7 = .ok (.aload_n 0, 1) := by decide +kernel
theorem dX11_walks_8 : decode cX11_walks 8 = .ok (.getfield 50, 3) := by decide +kernel
theorem dX11_walks_11 : decode cX11_walks 11 = .ok (.iload_n 1, 1) := by decide +kernel
theorem dX11_walks_12 : decode cX11_walks 12 = .ok (.iaload, 1) := by decide +kernel
theorem dX11_walks_13 : decode cX11_walks 13 = .ok (.istore_n 2, 1) := by decide +kernel
theorem dX11_walks_14 : decode cX11_walks 14 = .ok (.aload_n 0, 1) := by decide +kernel
theorem dX11_walks_15 : decode cX11_walks 15 = .ok (.iload_n 2, 1) := by decide +kernel
theorem dX11_walks_16 : decode cX11_walks 16 = .ok (.invokevirtual 97, 3) := by decide +kernel
theorem dX11_walks_19 : decode cX11_walks 19 = .ok (.ifCond .ne 5, 3) := by decide +kernel
theorem dX11_walks_22 : decode cX11_walks 22 = .ok (.iconst 0, 1) := by decide +kernel
theorem dX11_walks_23 : decode cX11_walks 23 = .ok (.ireturn, 1) := by decide +kernel
theorem dX11_walks_24 : decode cX11_walks 24 = .ok (.aload_n 0, 1) := by decide +kernel
theorem dX11_walks_25 : decode cX11_walks 25 = .ok (.getfield 41, 3) := by decide +kernel
theorem dX11_walks_28 : decode cX11_walks 28 = .ok (.iload_n 2, 1) := by decide +kernel
theorem dX11_walks_29 : decode cX11_walks 29 = .ok (.iaload, 1) := by decide +kernel
theorem dX11_walks_30 : decode cX11_walks 30 = .ok (.aload_n 0, 1) := by decide +kernel
theorem dX11_walks_31 : decode cX11_walks 31 = .ok (.getfield 50, 3) := by decide +kernel
theorem dX11_walks_34 : decode cX11_walks 34 = .ok (.iload_n 1, 1) := by decide +kernel
theorem dX11_walks_35 : decode cX11_walks 35 = .ok (.iconst 1, 1) := by decide +kernel
theorem dX11_walks_36 : decode cX11_walks 36 = .ok (.iadd, 1) := by decide +kernel
theorem dX11_walks_37 : decode cX11_walks 37 = .ok (.iaload, 1) := by decide +kernel
theorem dX11_walks_38 : decode cX11_walks 38 = .ok (.iadd, 1) := by decide +kernel
theorem dX11_walks_39 : decode cX11_walks 39 = .ok (.istore_n 3, 1) := by decide +kernel
theorem dX11_walks_40 : decode cX11_walks 40 = .ok (.aload_n 0, 1) := by decide +kernel
theorem dX11_walks_41 : decode cX11_walks 41 = .ok (.getfield 44, 3) := by decide +kernel
theorem dX11_walks_44 : decode cX11_walks 44 = .ok (.iload_n 2, 1) := by decide +kernel
theorem dX11_walks_45 : decode cX11_walks 45 = .ok (.iaload, 1) := by decide +kernel
theorem dX11_walks_46 : decode cX11_walks 46 = .ok (.aload_n 0, 1) := by decide +kernel
theorem dX11_walks_47 : decode cX11_walks 47 = .ok (.getfield 50, 3) := by decide +kernel
theorem dX11_walks_50 : decode cX11_walks 50 = .ok (.iload_n 1, 1) := by decide +kernel
theorem dX11_walks_51 : decode cX11_walks 51 = .ok (.iconst 2, 1) := by decide +kernel
theorem dX11_walks_52 : decode cX11_walks 52 = .ok (.iadd, 1) := by decide +kernel
theorem dX11_walks_53 : decode cX11_walks 53 = .ok (.iaload, 1) := by decide +kernel
theorem dX11_walks_54 : decode cX11_walks 54 = .ok (.iadd, 1) := by decide +kernel
theorem dX11_walks_55 : decode cX11_walks 55 = .ok (.istore 4, 2) := by decide +kernel
theorem dX11_walks_57 : decode cX11_walks 57 = .ok (.aload_n 0, 1) := by decide +kernel
theorem dX11_walks_58 : decode cX11_walks 58 = .ok (.iload_n 2, 1) := by decide +kernel
theorem dX11_walks_59 : decode cX11_walks 59 = .ok (.invokevirtual 211, 3) := by decide +kernel
theorem dX11_walks_62 : decode cX11_walks 62 = .ok (.ifCond .eq 37, 3) := by decide +kernel
theorem dX11_walks_65 : decode cX11_walks 65 = .ok (.aload_n 0, 1) := by decide +kernel
theorem dX11_walks_66 : decode cX11_walks 66 = .ok (.getfield 152, 3) := by decide +kernel
theorem dX11_walks_69 : decode cX11_walks 69 = .ok (.ifCond .gt 30, 3) := by decide +kernel
theorem dX11_walks_72 : decode cX11_walks 72 = .ok (.iload_n 3, 1) := by decide +kernel
theorem dX11_walks_73 : decode cX11_walks 73 = .ok (.iload 4, 2) := by decide +kernel
theorem dX11_walks_75 : decode cX11_walks 75 = .ok (.invokestatic 69, 3) := by decide +kernel
theorem dX11_walks_78 : decode cX11_walks 78 = .ok (.ifCond .eq 21, 3) := by decide +kernel
theorem dX11_walks_81 : decode cX11_walks 81 = .ok (.aload_n 0, 1) := by decide +kernel
theorem dX11_walks_82 : decode cX11_walks 82 = .ok (.iload_n 2, 1) := by decide +kernel
theorem dX11_walks_83 : decode cX11_walks 83 = .ok (.iload_n 3, 1) := by decide +kernel
theorem dX11_walks_84 : decode cX11_walks 84 = .ok (.iload 4, 2) := by decide +kernel
theorem dX11_walks_86 : decode cX11_walks 86 = .ok (.invokevirtual 214, 3) := by decide +kernel
theorem dX11_walks_89 : decode cX11_walks 89 = .ok (.ifCond .eq 10, 3) := by decide +kernel
theorem dX11_walks_92 : decode cX11_walks 92 = .ok (.aload_n 0, 1) := by decide +kernel
theorem dX11_walks_93 : decode cX11_walks 93 = .ok (.getfield 152, 3) := by decide +kernel
theorem dX11_walks_96 : decode cX11_walks 96 = .ok (.ifCond .le 5, 3) := by decide +kernel
theorem dX11_walks_99 : decode cX11_walks 99 = .ok (.iconst 0, 1) := by decide +kernel
theorem dX11_walks_100 : decode cX11_walks 100 = .ok (.ireturn, 1) := by decide +kernel
theorem dX11_walks_101 : decode cX11_walks 101 = .ok (.aload_n 0, 1) := by decide +kernel
theorem dX11_walks_102 : decode cX11_walks 102 = .ok (.getfield 50, 3) := by decide +kernel
theorem dX11_walks_105 : decode cX11_walks 105 = .ok (.iload_n 1, 1) := by decide +kernel
theorem dX11_walks_106 : decode cX11_walks 106 = .ok (.iconst 3, 1) := by decide +kernel
theorem dX11_walks_107 : decode cX11_walks 107 = .ok (.iadd, 1) := by decide +kernel
theorem dX11_walks_108 : decode cX11_walks 108 = .ok (.iaload, 1) := by decide +kernel
theorem dX11_walks_109 : decode cX11_walks 109 = .ok (.ifCond .ne 14, 3) := by decide +kernel
theorem dX11_walks_112 : decode cX11_walks 112 = .ok (.aload_n 0, 1) := by decide +kernel
theorem dX11_walks_113 : decode cX11_walks 113 = .ok (.getfield 50, 3) := by decide +kernel
theorem dX11_walks_116 : decode cX11_walks 116 = .ok (.iload_n 1, 1) := by decide +kernel
theorem dX11_walks_117 : decode cX11_walks 117 = .ok (.iconst 4, 1) := by decide +kernel
theorem dX11_walks_118 : decode cX11_walks 118 = .ok (.iadd, 1) := by decide +kernel
theorem dX11_walks_119 : decode cX11_walks 119 = .ok (.iaload, 1) := by decide +kernel
theorem dX11_walks_120 : decode cX11_walks 120 = .ok (.ifCond .eq 7, 3) := by decide +kernel
theorem dX11_walks_123 : decode cX11_walks 123 = .ok (.iconst 1, 1) := by decide +kernel
theorem dX11_walks_124 : decode cX11_walks 124 = .ok (.goto 4, 3) := by decide +kernel
theorem dX11_walks_127 : decode cX11_walks 127 = .ok (.iconst 0, 1) := by decide +kernel
theorem dX11_walks_128 : decode cX11_walks 128 = .ok (.istore 5, 2) := by decide +kernel
theorem dX11_walks_130 : decode cX11_walks 130 = .ok (.iload 5, 2) := by decide +kernel
theorem dX11_walks_132 : decode cX11_walks 132 = .ok (.ifCond .eq 33, 3) := by decide +kernel
theorem dX11_walks_135 : decode cX11_walks 135 = .ok (.aload_n 0, 1) := by decide +kernel
theorem dX11_walks_136 : decode cX11_walks 136 = .ok (.aload_n 0, 1) := by decide +kernel
theorem dX11_walks_137 : decode cX11_walks 137 = .ok (.getfield 50, 3) := by decide +kernel
theorem dX11_walks_140 : decode cX11_walks 140 = .ok (.iload_n 1, 1) := by decide +kernel
theorem dX11_walks_141 : decode cX11_walks 141 = .ok (.iconst 3, 1) := by decide +kernel
theorem dX11_walks_142 : decode cX11_walks 142 = .ok (.iadd, 1) := by decide +kernel
theorem dX11_walks_143 : decode cX11_walks 143 = .ok (.iaload, 1) := by decide +kernel
theorem dX11_walks_144 : decode cX11_walks 144 = .ok (.aload_n 0, 1) := by decide +kernel
theorem dX11_walks_145 : decode cX11_walks 145 = .ok (.getfield 50, 3) := by decide +kernel
theorem dX11_walks_148 : decode cX11_walks 148 = .ok (.iload_n 1, 1) := by decide +kernel
theorem dX11_walks_149 : decode cX11_walks 149 = .ok (.iconst 4, 1) := by decide +kernel
theorem dX11_walks_150 : decode cX11_walks 150 = .ok (.iadd, 1) := by decide +kernel
theorem dX11_walks_151 : decode cX11_walks 151 = .ok (.iaload, 1) := by decide +kernel
theorem dX11_walks_152 : decode cX11_walks 152 = .ok (.invokevirtual 217, 3) := by decide +kernel
theorem dX11_walks_155 : decode cX11_walks 155 = .ok (.ifCond .eq 14, 3) := by decide +kernel
theorem dX11_walks_158 : decode cX11_walks 158 = .ok (.aload_n 0, 1) := by decide +kernel
theorem dX11_walks_159 : decode cX11_walks 159 = .ok (.getfield 152, 3) := by decide +kernel
theorem dX11_walks_162 : decode cX11_walks 162 = .ok (.ifCond .ne 7, 3) := by decide +kernel
theorem dX11_walks_165 : decode cX11_walks 165 = .ok (.iconst 1, 1) := by decide +kernel
theorem dX11_walks_166 : decode cX11_walks 166 = .ok (.goto 4, 3) := by decide +kernel
theorem dX11_walks_169 : decode cX11_walks 169 = .ok (.iconst 0, 1) := by decide +kernel
theorem dX11_walks_170 : decode cX11_walks 170 = .ok (.ireturn, 1) := by decide +kernel
theorem dX11_walk_0 : decode cX11_walk 0 = .ok (.aload_n 0, 1) := by decide +kernel
theorem dX11_walk_1 : decode cX11_walk 1 = .ok (.iload_n 1, 1) := by decide +kernel
theorem dX11_walk_2 : decode cX11_walk 2 = .ok (.iconst 1, 1) := by decide +kernel
theorem dX11_walk_3 : decode cX11_walk 3 = .ok (.bipush 20, 2) := by decide +kernel
theorem dX11_walk_5 : decode cX11_walk 5 = .ok (.invokestatic 59, 3) := by decide +kernel
theorem dX11_walk_8 : decode cX11_walk 8 = .ok (.ifCond .ne 7, 3) := by decide +kernel
theorem dX11_walk_11 : decode cX11_walk 11 = .ok (.iconst 1, 1) := by decide +kernel
theorem dX11_walk_12 : decode cX11_walk 12 = .ok (.goto 15, 3) := by decide +kernel
theorem dX11_walk_15 : decode cX11_walk 15 = .ok (.aload_n 0, 1) := by decide +kernel
theorem dX11_walk_16 : decode cX11_walk 16 = .ok (.getfield 91, 3) := by decide +kernel
theorem dX11_walk_19 : decode cX11_walk 19 = .ok (.ifCond .ne 7, 3) := by decide +kernel
theorem dX11_walk_22 : decode cX11_walk 22 = .ok (.iconst 2, 1) := by decide +kernel
theorem dX11_walk_23 : decode cX11_walk 23 = .ok (.goto 4, 3) := by decide +kernel
theorem dX11_walk_26 : decode cX11_walk 26 = .ok (.iconst 0, 1) := by decide +kernel
theorem dX11_walk_27 : decode cX11_walk 27 = .ok (.invokevirtual 77, 3) := by decide +kernel
theorem dX11_walk_30 : decode cX11_walk 30 = .ok (.ifCond .eq 5, 3) := by decide +kernel
theorem dX11_walk_33 : decode cX11_walk 33 = .ok (.iconst 0, 1) := by decide +kernel
theorem dX11_walk_34 : decode cX11_walk 34 = .ok (.ireturn, 1) := by decide +kernel
theorem dX11_walk_35 : decode cX11_walk 35 = .ok (.iconst 0, 1) := by decide +kernel
theorem dX11_walk_36 : decode cX11_walk 36 = .ok (.istore_n 2, 1) := by decide +kernel
theorem dX11_walk_37 : decode cX11_walk 37 = .ok (.iload_n 2, 1) := by decide +kernel
theorem dX11_walk_38 : decode cX11_walk 38 = .ok (.iload_n 1, 1) := by decide +kernel
theorem dX11_walk_39 : decode cX11_walk 39 = .ok (.if_icmp .ge 31, 3) := by decide +kernel
theorem dX11_walk_42 : decode cX11_walk 42 = .ok (.aload_n 0, 1) := by decide +kernel
theorem dX11_walk_43 : decode cX11_walk 43 = .ok (.invokevirtual 220, 3) := by decide +kernel
theorem dX11_walk_46 : decode cX11_walk 46 = .ok (.ifCond .eq 24, 3) := by decide +kernel
theorem dX11_walk_49 : decode cX11_walk 49 = .ok (.iinc 2 1, 3) := by decide +kernel
theorem dX11_walk_52 : decode cX11_walk 52 = .ok (.aload_n 0, 1) := by decide +kernel
theorem dX11_walk_53 : decode cX11_walk 53 = .ok (.aload_n 0, 1) := by decide +kernel
theorem dX11_walk_54 : decode cX11_walk 54 = .ok (.getfield 94, 3) := by decide +kernel
theorem dX11_walk_57 : decode cX11_walk 57 = .ok (.iconst 1, 1) := by decide +kernel
theorem dX11_walk_58 : decode cX11_walk 58 = .ok (.iadd, 1) := by decide +kernel
theorem dX11_walk_59 : decode cX11_walk 59 = .ok (.aload_n 0, 1) := by decide +kernel
theorem dX11_walk_60 : decode cX11_walk 60 = .ok (.getfield 91, 3) := by decide +kernel
theorem dX11_walk_63 : decode cX11_walk 63 = .ok (.irem, 1) := by decide +kernel
theorem dX11_walk_64 : decode cX11_walk 64 = .ok (.putfield 94, 3) := by decide +kernel
theorem dX11_walk_67 : decode cX11_walk 67 = .ok (.goto (-30), 3) := by decide +kernel
theorem dX11_walk_70 : decode cX11_walk 70 = .ok (.iload_n 2, 1) := by decide +kernel
theorem dX11_walk_71 : decode cX11_walk 71 = .ok (.ireturn, 1) := by decide +kernel
theorem dX11_machine_0 : decode cX11_machine 0 = .ok (.aload_n 0, 1) := by decide +kernel
theorem dX11_machine_1 : decode cX11_machine 1 = .ok (.iload_n 1, 1) := by decide +kernel
theorem dX11_machine_2 : decode cX11_machine 2 = .ok (.iconst 0, 1) := by decide +kernel
theorem dX11_machine_3 : decode cX11_machine 3 = .ok (.bipush 11, 2) := by decide +kernel
theorem dX11_machine_5 : decode cX11_machine 5 = .ok (.invokestatic 59, 3) := by decide +kernel
theorem dX11_machine_8 : decode cX11_machine 8 = .ok (.ifCond .eq 7, 3) := by decide +kernel
theorem dX11_machine_11 : decode cX11_machine 11 = .ok (.iconst 0, 1) := by decide +kernel
theorem dX11_machine_12 : decode cX11_machine 12 = .ok (.goto 4, 3) := by decide +kernel
theorem dX11_machine_15 : decode cX11_machine 15 = .ok (.iconst 1, 1) := by decide +kernel
theorem dX11_machine_16 : decode cX11_machine 16 = .ok (.invokevirtual 77, 3) := by decide +kernel
theorem dX11_machine_19 : decode cX11_machine 19 = .ok (.ifCond .eq 5, 3) := by decide +kernel
theorem dX11_machine_22 : decode cX11_machine 22 = .ok (.iconst 0, 1) := by decide +kernel
theorem dX11_machine_23 : decode cX11_machine 23 = .ok (.ireturn, 1) := by decide +kernel
theorem dX11_machine_24 : decode cX11_machine 24 = .ok (.iload_n 1, 1) := by decide +kernel
theorem dX11_machine_25 : decode cX11_machine 25 = .ok (.tableswitch 133 0 10 #[59, 64, 69, 82, 87, 92, 101, 110, 118, 123, 128], 59) := by decide +kernel
theorem dX11_machine_84 : decode cX11_machine 84 = .ok (.aload_n 0, 1) := by decide +kernel
theorem dX11_machine_85 : decode cX11_machine 85 = .ok (.getfield 22, 3) := by decide +kernel
theorem dX11_machine_88 : decode cX11_machine 88 = .ok (.ireturn, 1) := by decide +kernel
theorem dX11_machine_89 : decode cX11_machine 89 = .ok (.aload_n 0, 1) := by decide +kernel
theorem dX11_machine_90 : decode cX11_machine 90 = .ok (.getfield 26, 3) := by decide +kernel
theorem dX11_machine_93 : decode cX11_machine 93 = .ok (.ireturn, 1) := by decide +kernel
theorem dX11_machine_94 : decode cX11_machine 94 = .ok (.aload_n 0, 1) := by decide +kernel
theorem dX11_machine_95 : decode cX11_machine 95 = .ok (.getfield 84, 3) := by decide +kernel
theorem dX11_machine_98 : decode cX11_machine 98 = .ok (.ifCond .eq 7, 3) := by decide +kernel
theorem dX11_machine_101 : decode cX11_machine 101 = .ok (.iconst 1, 1) := by decide +kernel
theorem dX11_machine_102 : decode cX11_machine 102 = .ok (.goto 4, 3) := by decide +kernel
theorem dX11_machine_105 : decode cX11_machine 105 = .ok (.iconst 0, 1) := by decide +kernel
theorem dX11_machine_106 : decode cX11_machine 106 = .ok (.ireturn, 1) := by decide +kernel
theorem dX11_machine_107 : decode cX11_machine 107 = .ok (.aload_n 0, 1) := by decide +kernel
theorem dX11_machine_108 : decode cX11_machine 108 = .ok (.getfield 29, 3) := by decide +kernel
theorem dX11_machine_111 : decode cX11_machine 111 = .ok (.ireturn, 1) := by decide +kernel
theorem dX11_machine_112 : decode cX11_machine 112 = .ok (.aload_n 0, 1) := by decide +kernel
theorem dX11_machine_113 : decode cX11_machine 113 = .ok (.getfield 100, 3) := by decide +kernel
theorem dX11_machine_116 : decode cX11_machine 116 = .ok (.ireturn, 1) := by decide +kernel
theorem dX11_machine_117 : decode cX11_machine 117 = .ok (.aload_n 0, 1) := by decide +kernel
theorem dX11_machine_118 : decode cX11_machine 118 = .ok (.aload_n 0, 1) := by decide +kernel
theorem dX11_machine_119 : decode cX11_machine 119 = .ok (.getfield 66, 3) := by decide +kernel
theorem dX11_machine_122 : decode cX11_machine 122 = .ok (.invokevirtual 192, 3) := by decide +kernel
theorem dX11_machine_125 : decode cX11_machine 125 = .ok (.ireturn, 1) := by decide +kernel
theorem dX11_machine_126 : decode cX11_machine 126 = .ok (.aload_n 0, 1) := by decide +kernel
theorem dX11_machine_127 : decode cX11_machine 127 = .ok (.aload_n 0, 1) := by decide +kernel
theorem dX11_machine_128 : decode cX11_machine 128 = .ok (.getfield 66, 3) := by decide +kernel
theorem dX11_machine_131 : decode cX11_machine 131 = .ok (.invokevirtual 168, 3) := by decide +kernel
theorem dX11_machine_134 : decode cX11_machine 134 = .ok (.ireturn, 1) := by decide +kernel
theorem dX11_machine_135 : decode cX11_machine 135 = .ok (.aload_n 0, 1) := by decide +kernel
theorem dX11_machine_136 : decode cX11_machine 136 = .ok (.getfield 66, 3) := by decide +kernel
theorem dX11_machine_139 : decode cX11_machine 139 = .ok (.invokestatic 137, 3) := by decide +kernel
theorem dX11_machine_142 : decode cX11_machine 142 = .ok (.ireturn, 1) := by decide +kernel
theorem dX11_machine_143 : decode cX11_machine 143 = .ok (.aload_n 0, 1) := by decide +kernel
theorem dX11_machine_144 : decode cX11_machine 144 = .ok (.getfield 140, 3) := by decide +kernel
theorem dX11_machine_147 : decode cX11_machine 147 = .ok (.ireturn, 1) := by decide +kernel
theorem dX11_machine_148 : decode cX11_machine 148 = .ok (.aload_n 0, 1) := by decide +kernel
theorem dX11_machine_149 : decode cX11_machine 149 = .ok (.getfield 183, 3) := by decide +kernel
theorem dX11_machine_152 : decode cX11_machine 152 = .ok (.ireturn, 1) := by decide +kernel
theorem dX11_machine_153 : decode cX11_machine 153 = .ok (.aload_n 0, 1) := by decide +kernel
theorem dX11_machine_154 : decode cX11_machine 154 = .ok (.getfield 63, 3) := by decide +kernel
theorem dX11_machine_157 : decode cX11_machine 157 = .ok (.ireturn, 1) := by decide +kernel
theorem dX11_machine_158 : decode cX11_machine 158 = .ok (.aload_n 0, 1) := by decide +kernel
theorem dX11_machine_159 : decode cX11_machine 159 = .ok (.getfield 91, 3) := by decide +kernel
theorem dX11_machine_162 : decode cX11_machine 162 = .ok (.ifCond .ne 7, 3) := by decide +kernel
theorem dX11_machine_165 : decode cX11_machine 165 = .ok (.iconst (-1), 1) := by decide +kernel
theorem dX11_machine_166 : decode cX11_machine 166 = .ok (.goto 7, 3) := by decide +kernel
theorem dX11_machine_169 : decode cX11_machine 169 = .ok (.aload_n 0, 1) := by decide +kernel
theorem dX11_machine_170 : decode cX11_machine 170 = .ok (.getfield 94, 3) := by decide +kernel
theorem dX11_machine_173 : decode cX11_machine 173 = .ok (.ireturn, 1) := by decide +kernel
theorem dX11_foot_0 : decode cX11_foot 0 = .ok (.aload_n 0, 1) := by decide +kernel
theorem dX11_foot_1 : decode cX11_foot 1 = .ok (.aload_n 0, 1) := by decide +kernel
theorem dX11_foot_2 : decode cX11_foot 2 = .ok (.iload_n 1, 1) := by decide +kernel
theorem dX11_foot_3 : decode cX11_foot 3 = .ok (.invokevirtual 88, 3) := by decide +kernel
theorem dX11_foot_6 : decode cX11_foot 6 = .ok (.ifCond .ne 7, 3) := by decide +kernel
theorem dX11_foot_9 : decode cX11_foot 9 = .ok (.iconst 1, 1) := by decide +kernel
theorem dX11_foot_10 : decode cX11_foot 10 = .ok (.goto 17, 3) := by decide +kernel
theorem dX11_foot_13 : decode cX11_foot 13 = .ok (.iload_n 2, 1) := by decide +kernel
theorem dX11_foot_14 : decode cX11_foot 14 = .ok (.iconst 0, 1) := by decide +kernel
theorem dX11_foot_15 : decode cX11_foot 15 = .ok (.iconst 2, 1) := by decide +kernel
theorem dX11_foot_16 : decode cX11_foot 16 = .ok (.invokestatic 59, 3) := by decide +kernel
theorem dX11_foot_19 : decode cX11_foot 19 = .ok (.ifCond .eq 7, 3) := by decide +kernel
theorem dX11_foot_22 : decode cX11_foot 22 = .ok (.iconst 0, 1) := by decide +kernel
theorem dX11_foot_23 : decode cX11_foot 23 = .ok (.goto 4, 3) := by decide +kernel
theorem dX11_foot_26 : decode cX11_foot 26 = .ok (.iconst 2, 1) := by decide +kernel
theorem dX11_foot_27 : decode cX11_foot 27 = .ok (.invokevirtual 77, 3) := by decide +kernel
theorem dX11_foot_30 : decode cX11_foot 30 = .ok (.ifCond .eq 5, 3) := by decide +kernel
theorem dX11_foot_33 : decode cX11_foot 33 = .ok (.iconst 0, 1) := by decide +kernel
theorem dX11_foot_34 : decode cX11_foot 34 = .ok (.ireturn, 1) := by decide +kernel
theorem dX11_foot_35 : decode cX11_foot 35 = .ok (.iload_n 2, 1) := by decide +kernel
theorem dX11_foot_36 : decode cX11_foot 36 = .ok (.ifCond .ne 19, 3) := by decide +kernel
theorem dX11_foot_39 : decode cX11_foot 39 = .ok (.aload_n 0, 1) := by decide +kernel
theorem dX11_foot_40 : decode cX11_foot 40 = .ok (.iload_n 1, 1) := by decide +kernel
theorem dX11_foot_41 : decode cX11_foot 41 = .ok (.invokevirtual 97, 3) := by decide +kernel
theorem dX11_foot_44 : decode cX11_foot 44 = .ok (.ifCond .eq 7, 3) := by decide +kernel
theorem dX11_foot_47 : decode cX11_foot 47 = .ok (.iconst 1, 1) := by decide +kernel
theorem dX11_foot_48 : decode cX11_foot 48 = .ok (.goto 39, 3) := by decide +kernel
theorem dX11_foot_51 : decode cX11_foot 51 = .ok (.iconst 0, 1) := by decide +kernel
theorem dX11_foot_52 : decode cX11_foot 52 = .ok (.goto 35, 3) := by decide +kernel
theorem dX11_foot_55 : decode cX11_foot 55 = .ok (.aload_n 0, 1) := by decide +kernel
theorem dX11_foot_56 : decode cX11_foot 56 = .ok (.iload_n 1, 1) := by decide +kernel
theorem dX11_foot_57 : decode cX11_foot 57 = .ok (.invokevirtual 97, 3) := by decide +kernel
theorem dX11_foot_60 : decode cX11_foot 60 = .ok (.ifCond .ne 7, 3) := by decide +kernel
theorem dX11_foot_63 : decode cX11_foot 63 = .ok (.iconst (-1), 1) := by decide +kernel
theorem dX11_foot_64 : decode cX11_foot 64 = .ok (.goto 23, 3) := by decide +kernel
theorem dX11_foot_67 : decode cX11_foot 67 = .ok (.iload_n 2, 1) := by decide +kernel
theorem dX11_foot_68 : decode cX11_foot 68 = .ok (.iconst 1, 1) := by decide +kernel
theorem dX11_foot_69 : decode cX11_foot 69 = .ok (.if_icmp .ne 12, 3) := by decide +kernel
theorem dX11_foot_72 : decode cX11_foot 72 = .ok (.aload_n 0, 1) := by decide +kernel
theorem dX11_foot_73 : decode cX11_foot 73 = .ok (.getfield 41, 3) := by decide +kernel
theorem dX11_foot_76 : decode cX11_foot 76 = .ok (.iload_n 1, 1) := by decide +kernel
theorem dX11_foot_77 : decode cX11_foot 77 = .ok (.iaload, 1) := by decide +kernel
theorem dX11_foot_78 : decode cX11_foot 78 = .ok (.goto 9, 3) := by decide +kernel
theorem dX11_foot_81 : decode cX11_foot 81 = .ok (.aload_n 0, 1) := by decide +kernel
theorem dX11_foot_82 : decode cX11_foot 82 = .ok (.getfield 44, 3) := by decide +kernel
theorem dX11_foot_85 : decode cX11_foot 85 = .ok (.iload_n 1, 1) := by decide +kernel
theorem dX11_foot_86 : decode cX11_foot 86 = .ok (.iaload, 1) := by decide +kernel
theorem dX11_foot_87 : decode cX11_foot 87 = .ok (.ireturn, 1) := by decide +kernel
theorem dX11_point_0 : decode cX11_point 0 = .ok (.aload_n 0, 1) := by decide +kernel
theorem dX11_point_1 : decode cX11_point 1 = .ok (.iload_n 1, 1) := by decide +kernel
theorem dX11_point_2 : decode cX11_point 2 = .ok (.iload_n 2, 1) := by decide +kernel
theorem dX11_point_3 : decode cX11_point 3 = .ok (.invokestatic 69, 3) := by decide +kernel
theorem dX11_point_6 : decode cX11_point 6 = .ok (.ifCond .eq 16, 3) := by decide +kernel
theorem dX11_point_9 : decode cX11_point 9 = .ok (.iload_n 3, 1) := by decide +kernel
theorem dX11_point_10 : decode cX11_point 10 = .ok (.iconst 0, 1) := by decide +kernel
theorem dX11_point_11 : decode cX11_point 11 = .ok (.iconst 3, 1) := by decide +kernel
theorem dX11_point_12 : decode cX11_point 12 = .ok (.invokestatic 59, 3) := by decide +kernel
theorem dX11_point_15 : decode cX11_point 15 = .ok (.ifCond .eq 7, 3) := by decide +kernel
theorem dX11_point_18 : decode cX11_point 18 = .ok (.iconst 0, 1) := by decide +kernel
theorem dX11_point_19 : decode cX11_point 19 = .ok (.goto 4, 3) := by decide +kernel
theorem dX11_point_22 : decode cX11_point 22 = .ok (.iconst 1, 1) := by decide +kernel
theorem dX11_point_23 : decode cX11_point 23 = .ok (.invokevirtual 77, 3) := by decide +kernel
theorem dX11_point_26 : decode cX11_point 26 = .ok (.ifCond .eq 5, 3) := by decide +kernel
theorem dX11_point_29 : decode cX11_point 29 = .ok (.iconst 0, 1) := by decide +kernel
theorem dX11_point_30 : decode cX11_point 30 = .ok (.ireturn, 1) := by decide +kernel
theorem dX11_point_31 : decode cX11_point 31 = .ok (.iload_n 1, 1) := by decide +kernel
theorem dX11_point_32 : decode cX11_point 32 = .ok (.iload_n 2, 1) := by decide +kernel
theorem dX11_point_33 : decode cX11_point 33 = .ok (.invokestatic 81, 3) := by decide +kernel
theorem dX11_point_36 : decode cX11_point 36 = .ok (.istore 4, 2) := by decide +kernel
theorem dX11_point_38 : decode cX11_point 38 = .ok (.iload_n 3, 1) := by decide +kernel
theorem dX11_point_39 : decode cX11_point 39 = .ok (.ifCond .ne 13, 3) := by decide +kernel
theorem dX11_point_42 : decode cX11_point 42 = .ok (.aload_n 0, 1) := by decide +kernel
theorem dX11_point_43 : decode cX11_point 43 = .ok (.getfield 7, 3) := by decide +kernel
theorem dX11_point_46 : decode cX11_point 46 = .ok (.iload 4, 2) := by decide +kernel
theorem dX11_point_48 : decode cX11_point 48 = .ok (.iaload, 1) := by decide +kernel
theorem dX11_point_49 : decode cX11_point 49 = .ok (.goto 40, 3) := by decide +kernel
theorem dX11_point_52 : decode cX11_point 52 = .ok (.iload_n 3, 1) := by decide +kernel
theorem dX11_point_53 : decode cX11_point 53 = .ok (.iconst 1, 1) := by decide +kernel
theorem dX11_point_54 : decode cX11_point 54 = .ok (.if_icmp .ne 13, 3) := by decide +kernel
theorem dX11_point_57 : decode cX11_point 57 = .ok (.aload_n 0, 1) := by decide +kernel
theorem dX11_point_58 : decode cX11_point 58 = .ok (.getfield 13, 3) := by decide +kernel
theorem dX11_point_61 : decode cX11_point 61 = .ok (.iload 4, 2) := by decide +kernel
theorem dX11_point_63 : decode cX11_point 63 = .ok (.iaload, 1) := by decide +kernel
theorem dX11_point_64 : decode cX11_point 64 = .ok (.goto 25, 3) := by decide +kernel
theorem dX11_point_67 : decode cX11_point 67 = .ok (.iload_n 3, 1) := by decide +kernel
theorem dX11_point_68 : decode cX11_point 68 = .ok (.iconst 2, 1) := by decide +kernel
theorem dX11_point_69 : decode cX11_point 69 = .ok (.if_icmp .ne 13, 3) := by decide +kernel
theorem dX11_point_72 : decode cX11_point 72 = .ok (.aload_n 0, 1) := by decide +kernel
theorem dX11_point_73 : decode cX11_point 73 = .ok (.getfield 16, 3) := by decide +kernel
theorem dX11_point_76 : decode cX11_point 76 = .ok (.iload 4, 2) := by decide +kernel
theorem dX11_point_78 : decode cX11_point 78 = .ok (.iaload, 1) := by decide +kernel
theorem dX11_point_79 : decode cX11_point 79 = .ok (.goto 10, 3) := by decide +kernel
theorem dX11_point_82 : decode cX11_point 82 = .ok (.aload_n 0, 1) := by decide +kernel
theorem dX11_point_83 : decode cX11_point 83 = .ok (.getfield 19, 3) := by decide +kernel
theorem dX11_point_86 : decode cX11_point 86 = .ok (.iload 4, 2) := by decide +kernel
theorem dX11_point_88 : decode cX11_point 88 = .ok (.iaload, 1) := by decide +kernel
theorem dX11_point_89 : decode cX11_point 89 = .ok (.ireturn, 1) := by decide +kernel
theorem dX11_isStable_0 : decode cX11_isStable 0 = .ok (.aload_n 0, 1) := by decide +kernel
theorem dX11_isStable_1 : decode cX11_isStable 1 = .ok (.iconst 0, 1) := by decide +kernel
theorem dX11_isStable_2 : decode cX11_isStable 2 = .ok (.putfield 56, 3) := by decide +kernel
theorem dX11_isStable_5 : decode cX11_isStable 5 = .ok (.aload_n 0, 1) := by decide +kernel
theorem dX11_isStable_6 : decode cX11_isStable 6 = .ok (.aload_n 0, 1) := by decide +kernel
theorem dX11_isStable_7 : decode cX11_isStable 7 = .ok (.getfield 66, 3) := by decide +kernel
theorem dX11_isStable_10 : decode cX11_isStable 10 = .ok (.invokevirtual 180, 3) := by decide +kernel
theorem dX11_isStable_13 : decode cX11_isStable 13 = .ok (.ireturn, 1) := by decide +kernel
theorem dX11_isStableAnew_0 : decode cX11_isStableAnew 0 = .ok (.aload_n 0, 1) := by decide +kernel
theorem dX11_isStableAnew_1 : decode cX11_isStableAnew 1 = .ok (.invokevirtual 223, 3) := by decide +kernel
theorem dX11_isStableAnew_4 : decode cX11_isStableAnew 4 = .ok (.ireturn, 1) := by decide +kernel
theorem dX11_margin_0 : decode cX11_margin 0 = .ok (.aload_n 0, 1) := by decide +kernel
theorem dX11_margin_1 : decode cX11_margin 1 = .ok (.iconst 0, 1) := by decide +kernel
theorem dX11_margin_2 : decode cX11_margin 2 = .ok (.putfield 56, 3) := by decide +kernel
theorem dX11_margin_5 : decode cX11_margin 5 = .ok (.aload_n 0, 1) := by decide +kernel
theorem dX11_margin_6 : decode cX11_margin 6 = .ok (.aload_n 0, 1) := by decide +kernel
theorem dX11_margin_7 : decode cX11_margin 7 = .ok (.getfield 66, 3) := by decide +kernel
theorem dX11_margin_10 : decode cX11_margin 10 = .ok (.invokevirtual 180, 3) := by decide +kernel
theorem dX11_margin_13 : decode cX11_margin 13 = .ok (.ifCond .ne 9, 3) := by decide +kernel
theorem dX11_margin_16 : decode cX11_margin 16 = .ok (.ldc 226, 2) := by decide +kernel
theorem dX11_margin_18 : decode cX11_margin 18 = .ok (.invokestatic 227, 3) := by decide +kernel
theorem dX11_margin_21 : decode cX11_margin 21 = .ok (.ireturn, 1) := by decide +kernel
theorem dX11_margin_22 : decode cX11_margin 22 = .ok (.fconst 0, 1) := by decide +kernel
theorem dX11_margin_23 : decode cX11_margin 23 = .ok (.fstore_n 1, 1) := by decide +kernel
theorem dX11_margin_24 : decode cX11_margin 24 = .ok (.iconst 0, 1) := by decide +kernel
theorem dX11_margin_25 : decode cX11_margin 25 = .ok (.istore_n 2, 1) := by decide +kernel
theorem dX11_margin_26 : decode cX11_margin 26 = .ok (.iload_n 2, 1) := by decide +kernel
theorem dX11_margin_27 : decode cX11_margin 27 = .ok (.aload_n 0, 1) := by decide +kernel
theorem dX11_margin_28 : decode cX11_margin 28 = .ok (.getfield 113, 3) := by decide +kernel
theorem dX11_margin_31 : decode cX11_margin 31 = .ok (.if_icmp .ge 90, 3) := by decide +kernel
theorem dX11_margin_34 : decode cX11_margin 34 = .ok (.aload_n 0, 1) := by decide +kernel
theorem dX11_margin_35 : decode cX11_margin 35 = .ok (.getfield 113, 3) := by decide +kernel
theorem dX11_margin_38 : decode cX11_margin 38 = .ok (.iconst 2, 1) := by decide +kernel
theorem dX11_margin_39 : decode cX11_margin 39 = .ok (.if_icmp .le 82, 3) := by decide +kernel
theorem dX11_margin_42 : decode cX11_margin 42 = .ok (.aload_n 0, 1) := by decide +kernel
theorem dX11_margin_43 : decode cX11_margin 43 = .ok (.iload_n 2, 1) := by decide +kernel
theorem dX11_margin_44 : decode cX11_margin 44 = .ok (.invokevirtual 133, 3) := by decide +kernel
theorem dX11_margin_47 : decode cX11_margin 47 = .ok (.i2l, 1) := by decide +kernel
theorem dX11_margin_48 : decode cX11_margin 48 = .ok (.lstore_n 3, 1) := by decide +kernel
theorem dX11_margin_49 : decode cX11_margin 49 = .ok (.aload_n 0, 1) := by decide +kernel
theorem dX11_margin_50 : decode cX11_margin 50 = .ok (.aload_n 0, 1) := by decide +kernel
theorem dX11_margin_51 : decode cX11_margin 51 = .ok (.getfield 53, 3) := by decide +kernel
theorem dX11_margin_54 : decode cX11_margin 54 = .ok (.iload_n 2, 1) := by decide +kernel
theorem dX11_margin_55 : decode cX11_margin 55 = .ok (.iaload, 1) := by decide +kernel
theorem dX11_margin_56 : decode cX11_margin 56 = .ok (.aload_n 0, 1) := by decide +kernel
theorem dX11_margin_57 : decode cX11_margin 57 = .ok (.getfield 53, 3) := by decide +kernel
theorem dX11_margin_60 : decode cX11_margin 60 = .ok (.iload_n 2, 1) := by decide +kernel
theorem dX11_margin_61 : decode cX11_margin 61 = .ok (.iconst 1, 1) := by decide +kernel
theorem dX11_margin_62 : decode cX11_margin 62 = .ok (.iadd, 1) := by decide +kernel
theorem dX11_margin_63 : decode cX11_margin 63 = .ok (.aload_n 0, 1) := by decide +kernel
theorem dX11_margin_64 : decode cX11_margin 64 = .ok (.getfield 113, 3) := by decide +kernel
theorem dX11_margin_67 : decode cX11_margin 67 = .ok (.irem, 1) := by decide +kernel
theorem dX11_margin_68 : decode cX11_margin 68 = .ok (.iaload, 1) := by decide +kernel
theorem dX11_margin_69 : decode cX11_margin 69 = .ok (.invokevirtual 120, 3) := by decide +kernel
theorem dX11_margin_72 : decode cX11_margin 72 = .ok (.i2l, 1) := by decide +kernel
theorem dX11_margin_73 : decode cX11_margin 73 = .ok (.aload_n 0, 1) := by decide +kernel
theorem dX11_margin_74 : decode cX11_margin 74 = .ok (.invokevirtual 103, 3) := by decide +kernel
theorem dX11_margin_77 : decode cX11_margin 77 = .ok (.i2l, 1) := by decide +kernel
theorem dX11_margin_78 : decode cX11_margin 78 = .ok (.lmul, 1) := by decide +kernel
theorem dX11_margin_79 : decode cX11_margin 79 = .ok (.aload_n 0, 1) := by decide +kernel
theorem dX11_margin_80 : decode cX11_margin 80 = .ok (.invokevirtual 103, 3) := by decide +kernel
theorem dX11_margin_83 : decode cX11_margin 83 = .ok (.i2l, 1) := by decide +kernel
theorem dX11_margin_84 : decode cX11_margin 84 = .ok (.lmul, 1) := by decide +kernel
theorem dX11_margin_85 : decode cX11_margin 85 = .ok (.lstore 5, 2) := by decide +kernel
theorem dX11_margin_87 : decode cX11_margin 87 = .ok (.lload_n 3, 1) := by decide +kernel
theorem dX11_margin_88 : decode cX11_margin 88 = .ok (.lload_n 3, 1) := by decide +kernel
theorem dX11_margin_89 : decode cX11_margin 89 = .ok (.lmul, 1) := by decide +kernel
theorem dX11_margin_90 : decode cX11_margin 90 = .ok (.l2f, 1) := by decide +kernel
theorem dX11_margin_91 : decode cX11_margin 91 = .ok (.lload 5, 2) := by decide +kernel
theorem dX11_margin_93 : decode cX11_margin 93 = .ok (.l2f, 1) := by decide +kernel
theorem dX11_margin_94 : decode cX11_margin 94 = .ok (.fdiv, 1) := by decide +kernel
theorem dX11_margin_95 : decode cX11_margin 95 = .ok (.fstore 7, 2) := by decide +kernel
theorem dX11_margin_97 : decode cX11_margin 97 = .ok (.iload_n 2, 1) := by decide +kernel
theorem dX11_margin_98 : decode cX11_margin 98 = .ok (.ifCond .eq 10, 3) := by decide +kernel
theorem dX11_margin_101 : decode cX11_margin 101 = .ok (.fload 7, 2) := by decide +kernel
theorem dX11_margin_103 : decode cX11_margin 103 = .ok (.fload_n 1, 1) := by decide +kernel
theorem dX11_margin_104 : decode cX11_margin 104 = .ok (.fcmp .g, 1) := by decide +kernel
theorem dX11_margin_105 : decode cX11_margin 105 = .ok (.ifCond .ge 8, 3) := by decide +kernel
theorem dX11_margin_108 : decode cX11_margin 108 = .ok (.fload 7, 2) := by decide +kernel
theorem dX11_margin_110 : decode cX11_margin 110 = .ok (.goto 4, 3) := by decide +kernel
theorem dX11_margin_113 : decode cX11_margin 113 = .ok (.fload_n 1, 1) := by decide +kernel
theorem dX11_margin_114 : decode cX11_margin 114 = .ok (.fstore_n 1, 1) := by decide +kernel
theorem dX11_margin_115 : decode cX11_margin 115 = .ok (.iinc 2 1, 3) := by decide +kernel
theorem dX11_margin_118 : decode cX11_margin 118 = .ok (.goto (-92), 3) := by decide +kernel
theorem dX11_margin_121 : decode cX11_margin 121 = .ok (.fload_n 1, 1) := by decide +kernel
theorem dX11_margin_122 : decode cX11_margin 122 = .ok (.invokestatic 227, 3) := by decide +kernel
theorem dX11_margin_125 : decode cX11_margin 125 = .ok (.ireturn, 1) := by decide +kernel
theorem dX11_corner_0 : decode cX11_corner 0 = .ok (.aload_n 0, 1) := by decide +kernel
theorem dX11_corner_1 : decode cX11_corner 1 = .ok (.iload_n 1, 1) := by decide +kernel
theorem dX11_corner_2 : decode cX11_corner 2 = .ok (.ifCond .lt 7, 3) := by decide +kernel
theorem dX11_corner_5 : decode cX11_corner 5 = .ok (.iconst 0, 1) := by decide +kernel
theorem dX11_corner_6 : decode cX11_corner 6 = .ok (.goto 4, 3) := by decide +kernel
theorem dX11_corner_9 : decode cX11_corner 9 = .ok (.iconst 1, 1) := by decide +kernel
theorem dX11_corner_10 : decode cX11_corner 10 = .ok (.invokevirtual 77, 3) := by decide +kernel
theorem dX11_corner_13 : decode cX11_corner 13 = .ok (.ifCond .eq 5, 3) := by decide +kernel
theorem dX11_corner_16 : decode cX11_corner 16 = .ok (.iconst 0, 1) := by decide +kernel
theorem dX11_corner_17 : decode cX11_corner 17 = .ok (.ireturn, 1) := by decide +kernel
theorem dX11_corner_18 : decode cX11_corner 18 = .ok (.aload_n 0, 1) := by decide +kernel
theorem dX11_corner_19 : decode cX11_corner 19 = .ok (.aload_n 0, 1) := by decide +kernel
theorem dX11_corner_20 : decode cX11_corner 20 = .ok (.getfield 66, 3) := by decide +kernel
theorem dX11_corner_23 : decode cX11_corner 23 = .ok (.invokevirtual 129, 3) := by decide +kernel
theorem dX11_corner_26 : decode cX11_corner 26 = .ok (.iload_n 1, 1) := by decide +kernel
theorem dX11_corner_27 : decode cX11_corner 27 = .ok (.aload_n 0, 1) := by decide +kernel
theorem dX11_corner_28 : decode cX11_corner 28 = .ok (.getfield 113, 3) := by decide +kernel
theorem dX11_corner_31 : decode cX11_corner 31 = .ok (.if_icmp .ge 31, 3) := by decide +kernel
theorem dX11_corner_34 : decode cX11_corner 34 = .ok (.aload_n 0, 1) := by decide +kernel
theorem dX11_corner_35 : decode cX11_corner 35 = .ok (.getfield 41, 3) := by decide +kernel
theorem dX11_corner_38 : decode cX11_corner 38 = .ok (.aload_n 0, 1) := by decide +kernel
theorem dX11_corner_39 : decode cX11_corner 39 = .ok (.getfield 53, 3) := by decide +kernel
theorem dX11_corner_42 : decode cX11_corner 42 = .ok (.iload_n 1, 1) := by decide +kernel
theorem dX11_corner_43 : decode cX11_corner 43 = .ok (.iaload, 1) := by decide +kernel
theorem dX11_corner_44 : decode cX11_corner 44 = .ok (.iaload, 1) := by decide +kernel
theorem dX11_corner_45 : decode cX11_corner 45 = .ok (.aload_n 0, 1) := by decide +kernel
theorem dX11_corner_46 : decode cX11_corner 46 = .ok (.getfield 44, 3) := by decide +kernel
theorem dX11_corner_49 : decode cX11_corner 49 = .ok (.aload_n 0, 1) := by decide +kernel
theorem dX11_corner_50 : decode cX11_corner 50 = .ok (.getfield 53, 3) := by decide +kernel
theorem dX11_corner_53 : decode cX11_corner 53 = .ok (.iload_n 1, 1) := by decide +kernel
theorem dX11_corner_54 : decode cX11_corner 54 = .ok (.iaload, 1) := by decide +kernel
theorem dX11_corner_55 : decode cX11_corner 55 = .ok (.iaload, 1) := by decide +kernel
theorem dX11_corner_56 : decode cX11_corner 56 = .ok (.invokestatic 81, 3) := by decide +kernel
theorem dX11_corner_59 : decode cX11_corner 59 = .ok (.goto 4, 3) := by decide +kernel
theorem dX11_corner_62 : decode cX11_corner 62 = .ok (.iconst (-1), 1) := by decide +kernel
theorem dX11_corner_63 : decode cX11_corner 63 = .ok (.ireturn, 1) := by decide +kernel
theorem dX11_footholdOf_0 : decode cX11_footholdOf 0 = .ok (.aload_n 0, 1) := by decide +kernel
theorem dX11_footholdOf_1 : decode cX11_footholdOf 1 = .ok (.getfield 66, 3) := by decide +kernel
theorem dX11_footholdOf_4 : decode cX11_footholdOf 4 = .ok (.iconst 1, 1) := by decide +kernel
theorem dX11_footholdOf_5 : decode cX11_footholdOf 5 = .ok (.iload_n 1, 1) := by decide +kernel
theorem dX11_footholdOf_6 : decode cX11_footholdOf 6 = .ok (.ishl, 1) := by decide +kernel
theorem dX11_footholdOf_7 : decode cX11_footholdOf 7 = .ok (.iconst (-1), 1) := by decide +kernel
theorem dX11_footholdOf_8 : decode cX11_footholdOf 8 = .ok (.ixor, 1) := by decide +kernel
theorem dX11_footholdOf_9 : decode cX11_footholdOf 9 = .ok (.iand, 1) := by decide +kernel
theorem dX11_footholdOf_10 : decode cX11_footholdOf 10 = .ok (.istore_n 2, 1) := by decide +kernel
theorem dX11_footholdOf_11 : decode cX11_footholdOf 11 = .ok (.aload_n 0, 1) := by decide +kernel
theorem dX11_footholdOf_12 : decode cX11_footholdOf 12 = .ok (.iload_n 2, 1) := by decide +kernel
theorem dX11_footholdOf_13 : decode cX11_footholdOf 13 = .ok (.invokevirtual 192, 3) := by decide +kernel
theorem dX11_footholdOf_16 : decode cX11_footholdOf 16 = .ok (.istore_n 3, 1) := by decide +kernel
theorem dX11_footholdOf_17 : decode cX11_footholdOf 17 = .ok (.iconst (-1), 1) := by decide +kernel
theorem dX11_footholdOf_18 : decode cX11_footholdOf 18 = .ok (.istore 4, 2) := by decide +kernel
theorem dX11_footholdOf_20 : decode cX11_footholdOf 20 = .ok (.iconst 0, 1) := by decide +kernel
theorem dX11_footholdOf_21 : decode cX11_footholdOf 21 = .ok (.istore 5, 2) := by decide +kernel
theorem dX11_footholdOf_23 : decode cX11_footholdOf 23 = .ok (.iconst 0, 1) := by decide +kernel
theorem dX11_footholdOf_24 : decode cX11_footholdOf 24 = .ok (.istore 6, 2) := by decide +kernel
theorem dX11_footholdOf_26 : decode cX11_footholdOf 26 = .ok (.iload 6, 2) := by decide +kernel
theorem dX11_footholdOf_28 : decode cX11_footholdOf 28 = .ok (.sipush 400, 3) := by decide +kernel
theorem dX11_footholdOf_31 : decode cX11_footholdOf 31 = .ok (.if_icmp .ge 174, 3) := by decide +kernel
theorem dX11_footholdOf_34 : decode cX11_footholdOf 34 = .ok (.iload 6, 2) := by decide +kernel
theorem dX11_footholdOf_36 : decode cX11_footholdOf 36 = .ok (.bipush 20, 2) := by decide +kernel
theorem dX11_footholdOf_38 : decode cX11_footholdOf 38 = .ok (.irem, 1) := by decide +kernel
theorem dX11_footholdOf_39 : decode cX11_footholdOf 39 = .ok (.istore 7, 2) := by decide +kernel
theorem dX11_footholdOf_41 : decode cX11_footholdOf 41 = .ok (.iload 6, 2) := by decide +kernel
theorem dX11_footholdOf_43 : decode cX11_footholdOf 43 = .ok (.bipush 20, 2) := by decide +kernel
theorem dX11_footholdOf_45 : decode cX11_footholdOf 45 = .ok (.idiv, 1) := by decide +kernel
theorem dX11_footholdOf_46 : decode cX11_footholdOf 46 = .ok (.istore 8, 2) := by decide +kernel
theorem dX11_footholdOf_48 : decode cX11_footholdOf 48 = .ok (.aload_n 0, 1) := by decide +kernel
theorem dX11_footholdOf_49 : decode cX11_footholdOf 49 = .ok (.getfield 19, 3) := by decide +kernel
theorem dX11_footholdOf_52 : decode cX11_footholdOf 52 = .ok (.iload 6, 2) := by decide +kernel
theorem dX11_footholdOf_54 : decode cX11_footholdOf 54 = .ok (.iaload, 1) := by decide +kernel
theorem dX11_footholdOf_55 : decode cX11_footholdOf 55 = .ok (.iload_n 3, 1) := by decide +kernel
theorem dX11_footholdOf_56 : decode cX11_footholdOf 56 = .ok (.if_icmp .le 15, 3) := by decide +kernel
theorem dX11_footholdOf_59 : decode cX11_footholdOf 59 = .ok (.aload_n 0, 1) := by decide +kernel
theorem dX11_footholdOf_60 : decode cX11_footholdOf 60 = .ok (.getfield 19, 3) := by decide +kernel
theorem dX11_footholdOf_63 : decode cX11_footholdOf 63 = .ok (.iload 6, 2) := by decide +kernel
theorem dX11_footholdOf_65 : decode cX11_footholdOf 65 = .ok (.iaload, 1) := by decide +kernel
theorem dX11_footholdOf_66 : decode cX11_footholdOf 66 = .ok (.iload_n 3, 1) := by decide +kernel
theorem dX11_footholdOf_67 : decode cX11_footholdOf 67 = .ok (.isub, 1) := by decide +kernel
theorem dX11_footholdOf_68 : decode cX11_footholdOf 68 = .ok (.goto 12, 3) := by decide +kernel
theorem dX11_footholdOf_71 : decode cX11_footholdOf 71 = .ok (.iload_n 3, 1) := by decide +kernel
theorem dX11_footholdOf_72 : decode cX11_footholdOf 72 = .ok (.aload_n 0, 1) := by decide +kernel
theorem dX11_footholdOf_73 : decode cX11_footholdOf 73 = .ok (.getfield 19, 3) := by decide +kernel
theorem dX11_footholdOf_76 : decode cX11_footholdOf 76 = .ok (.iload 6, 2) := by decide +kernel
theorem dX11_footholdOf_78 : decode cX11_footholdOf 78 = .ok (.iaload, 1) := by decide +kernel
theorem dX11_footholdOf_79 : decode cX11_footholdOf 79 = .ok (.isub, 1) := by decide +kernel
theorem dX11_footholdOf_80 : decode cX11_footholdOf 80 = .ok (.istore 9, 2) := by decide +kernel
theorem dX11_footholdOf_82 : decode cX11_footholdOf 82 = .ok (.aload_n 0, 1) := by decide +kernel
theorem dX11_footholdOf_83 : decode cX11_footholdOf 83 = .ok (.iload 7, 2) := by decide +kernel
theorem dX11_footholdOf_85 : decode cX11_footholdOf 85 = .ok (.iload 8, 2) := by decide +kernel
theorem dX11_footholdOf_87 : decode cX11_footholdOf 87 = .ok (.invokevirtual 73, 3) := by decide +kernel
theorem dX11_footholdOf_90 : decode cX11_footholdOf 90 = .ok (.istore 10, 2) := by decide +kernel
theorem dX11_footholdOf_92 : decode cX11_footholdOf 92 = .ok (.iload 9, 2) := by decide +kernel
theorem dX11_footholdOf_94 : decode cX11_footholdOf 94 = .ok (.iconst 2, 1) := by decide +kernel
theorem dX11_footholdOf_95 : decode cX11_footholdOf 95 = .ok (.if_icmp .gt 31, 3) := by decide +kernel
theorem dX11_footholdOf_98 : decode cX11_footholdOf 98 = .ok (.aload_n 0, 1) := by decide +kernel
theorem dX11_footholdOf_99 : decode cX11_footholdOf 99 = .ok (.iload_n 1, 1) := by decide +kernel
theorem dX11_footholdOf_100 : decode cX11_footholdOf 100 = .ok (.iload 7, 2) := by decide +kernel
theorem dX11_footholdOf_102 : decode cX11_footholdOf 102 = .ok (.iload 8, 2) := by decide +kernel
theorem dX11_footholdOf_104 : decode cX11_footholdOf 104 = .ok (.invokevirtual 162, 3) := by decide +kernel
theorem dX11_footholdOf_107 : decode cX11_footholdOf 107 = .ok (.ifCond .eq 19, 3) := by decide +kernel
theorem dX11_footholdOf_110 : decode cX11_footholdOf 110 = .ok (.iload 10, 2) := by decide +kernel
theorem dX11_footholdOf_112 : decode cX11_footholdOf 112 = .ok (.iconst (-1), 1) := by decide +kernel
theorem dX11_footholdOf_113 : decode cX11_footholdOf 113 = .ok (.if_icmp .eq 9, 3) := by decide +kernel
theorem dX11_footholdOf_116 : decode cX11_footholdOf 116 = .ok (.iload 10, 2) := by decide +kernel
theorem dX11_footholdOf_118 : decode cX11_footholdOf 118 = .ok (.iload_n 1, 1) := by decide +kernel
theorem dX11_footholdOf_119 : decode cX11_footholdOf 119 = .ok (.if_icmp .ne 7, 3) := by decide +kernel
theorem dX11_footholdOf_122 : decode cX11_footholdOf 122 = .ok (.iconst 1, 1) := by decide +kernel
theorem dX11_footholdOf_123 : decode cX11_footholdOf 123 = .ok (.goto 4, 3) := by decide +kernel
theorem dX11_footholdOf_126 : decode cX11_footholdOf 126 = .ok (.iconst 0, 1) := by decide +kernel
theorem dX11_footholdOf_127 : decode cX11_footholdOf 127 = .ok (.istore 11, 2) := by decide +kernel
theorem dX11_footholdOf_129 : decode cX11_footholdOf 129 = .ok (.bipush 10, 2) := by decide +kernel
theorem dX11_footholdOf_131 : decode cX11_footholdOf 131 = .ok (.iload 9, 2) := by decide +kernel
theorem dX11_footholdOf_133 : decode cX11_footholdOf 133 = .ok (.imul, 1) := by decide +kernel
theorem dX11_footholdOf_134 : decode cX11_footholdOf 134 = .ok (.aload_n 0, 1) := by decide +kernel
theorem dX11_footholdOf_135 : decode cX11_footholdOf 135 = .ok (.iload_n 1, 1) := by decide +kernel
theorem dX11_footholdOf_136 : decode cX11_footholdOf 136 = .ok (.iload 7, 2) := by decide +kernel
theorem dX11_footholdOf_138 : decode cX11_footholdOf 138 = .ok (.iload 8, 2) := by decide +kernel
theorem dX11_footholdOf_140 : decode cX11_footholdOf 140 = .ok (.invokevirtual 195, 3) := by decide +kernel
theorem dX11_footholdOf_143 : decode cX11_footholdOf 143 = .ok (.iadd, 1) := by decide +kernel
theorem dX11_footholdOf_144 : decode cX11_footholdOf 144 = .ok (.istore 12, 2) := by decide +kernel
theorem dX11_footholdOf_146 : decode cX11_footholdOf 146 = .ok (.iload 11, 2) := by decide +kernel
theorem dX11_footholdOf_148 : decode cX11_footholdOf 148 = .ok (.ifCond .eq 20, 3) := by decide +kernel
theorem dX11_footholdOf_151 : decode cX11_footholdOf 151 = .ok (.iload 4, 2) := by decide +kernel
theorem dX11_footholdOf_153 : decode cX11_footholdOf 153 = .ok (.iconst (-1), 1) := by decide +kernel
theorem dX11_footholdOf_154 : decode cX11_footholdOf 154 = .ok (.if_icmp .eq 10, 3) := by decide +kernel
theorem dX11_footholdOf_157 : decode cX11_footholdOf 157 = .ok (.iload 12, 2) := by decide +kernel
theorem dX11_footholdOf_159 : decode cX11_footholdOf 159 = .ok (.iload 5, 2) := by decide +kernel
theorem dX11_footholdOf_161 : decode cX11_footholdOf 161 = .ok (.if_icmp .ge 7, 3) := by decide +kernel
theorem dX11_footholdOf_164 : decode cX11_footholdOf 164 = .ok (.iconst 1, 1) := by decide +kernel
theorem dX11_footholdOf_165 : decode cX11_footholdOf 165 = .ok (.goto 4, 3) := by decide +kernel
theorem dX11_footholdOf_168 : decode cX11_footholdOf 168 = .ok (.iconst 0, 1) := by decide +kernel
theorem dX11_footholdOf_169 : decode cX11_footholdOf 169 = .ok (.istore 13, 2) := by decide +kernel
theorem dX11_footholdOf_171 : decode cX11_footholdOf 171 = .ok (.iload 13, 2) := by decide +kernel
theorem dX11_footholdOf_173 : decode cX11_footholdOf 173 = .ok (.ifCond .eq 8, 3) := by decide +kernel
theorem dX11_footholdOf_176 : decode cX11_footholdOf 176 = .ok (.iload 6, 2) := by decide +kernel
theorem dX11_footholdOf_178 : decode cX11_footholdOf 178 = .ok (.goto 5, 3) := by decide +kernel
theorem dX11_footholdOf_181 : decode cX11_footholdOf 181 = .ok (.iload 4, 2) := by decide +kernel
theorem dX11_footholdOf_183 : decode cX11_footholdOf 183 = .ok (.istore 4, 2) := by decide +kernel
theorem dX11_footholdOf_185 : decode cX11_footholdOf 185 = .ok (.iload 13, 2) := by decide +kernel
theorem dX11_footholdOf_187 : decode cX11_footholdOf 187 = .ok (.ifCond .eq 8, 3) := by decide +kernel
theorem dX11_footholdOf_190 : decode cX11_footholdOf 190 = .ok (.iload 12, 2) := by decide +kernel
theorem dX11_footholdOf_192 : decode cX11_footholdOf 192 = .ok (.goto 5, 3) := by decide +kernel
theorem dX11_footholdOf_195 : decode cX11_footholdOf 195 = .ok (.iload 5, 2) := by decide +kernel
theorem dX11_footholdOf_197 : decode cX11_footholdOf 197 = .ok (.istore 5, 2) := by decide +kernel
theorem dX11_footholdOf_199 : decode cX11_footholdOf 199 = .ok (.iinc 6 1, 3) := by decide +kernel
theorem dX11_footholdOf_202 : decode cX11_footholdOf 202 = .ok (.goto (-176), 3) := by decide +kernel
theorem dX11_footholdOf_205 : decode cX11_footholdOf 205 = .ok (.iload 4, 2) := by decide +kernel
theorem dX11_footholdOf_207 : decode cX11_footholdOf 207 = .ok (.ireturn, 1) := by decide +kernel
theorem dX11_foothold_0 : decode cX11_foothold 0 = .ok (.aload_n 0, 1) := by decide +kernel
theorem dX11_foothold_1 : decode cX11_foothold 1 = .ok (.aload_n 0, 1) := by decide +kernel
theorem dX11_foothold_2 : decode cX11_foothold 2 = .ok (.iload_n 1, 1) := by decide +kernel
theorem dX11_foothold_3 : decode cX11_foothold 3 = .ok (.invokevirtual 88, 3) := by decide +kernel
theorem dX11_foothold_6 : decode cX11_foothold 6 = .ok (.ifCond .eq 7, 3) := by decide +kernel
theorem dX11_foothold_9 : decode cX11_foothold 9 = .ok (.iconst 0, 1) := by decide +kernel
theorem dX11_foothold_10 : decode cX11_foothold 10 = .ok (.goto 4, 3) := by decide +kernel
theorem dX11_foothold_13 : decode cX11_foothold 13 = .ok (.iconst 1, 1) := by decide +kernel
theorem dX11_foothold_14 : decode cX11_foothold 14 = .ok (.invokevirtual 77, 3) := by decide +kernel
theorem dX11_foothold_17 : decode cX11_foothold 17 = .ok (.ifCond .eq 7, 3) := by decide +kernel
theorem dX11_foothold_20 : decode cX11_foothold 20 = .ok (.iconst 0, 1) := by decide +kernel
theorem dX11_foothold_21 : decode cX11_foothold 21 = .ok (.goto 8, 3) := by decide +kernel
theorem dX11_foothold_24 : decode cX11_foothold 24 = .ok (.aload_n 0, 1) := by decide +kernel
theorem dX11_foothold_25 : decode cX11_foothold 25 = .ok (.iload_n 1, 1) := by decide +kernel
theorem dX11_foothold_26 : decode cX11_foothold 26 = .ok (.invokevirtual 233, 3) := by decide +kernel
theorem dX11_foothold_29 : decode cX11_foothold 29 = .ok (.ireturn, 1) := by decide +kernel
theorem dX11_wouldLift_0 : decode cX11_wouldLift 0 = .ok (.aload_n 0, 1) := by decide +kernel
theorem dX11_wouldLift_1 : decode cX11_wouldLift 1 = .ok (.aload_n 0, 1) := by decide +kernel
theorem dX11_wouldLift_2 : decode cX11_wouldLift 2 = .ok (.iload_n 1, 1) := by decide +kernel
theorem dX11_wouldLift_3 : decode cX11_wouldLift 3 = .ok (.invokevirtual 88, 3) := by decide +kernel
theorem dX11_wouldLift_6 : decode cX11_wouldLift 6 = .ok (.ifCond .eq 7, 3) := by decide +kernel
theorem dX11_wouldLift_9 : decode cX11_wouldLift 9 = .ok (.iconst 0, 1) := by decide +kernel
theorem dX11_wouldLift_10 : decode cX11_wouldLift 10 = .ok (.goto 4, 3) := by decide +kernel
theorem dX11_wouldLift_13 : decode cX11_wouldLift 13 = .ok (.iconst 1, 1) := by decide +kernel
theorem dX11_wouldLift_14 : decode cX11_wouldLift 14 = .ok (.invokevirtual 77, 3) := by decide +kernel
theorem dX11_wouldLift_17 : decode cX11_wouldLift 17 = .ok (.ifCond .eq 5, 3) := by decide +kernel
theorem dX11_wouldLift_20 : decode cX11_wouldLift 20 = .ok (.iconst 0, 1) := by decide +kernel
theorem dX11_wouldLift_21 : decode cX11_wouldLift 21 = .ok (.ireturn, 1) := by decide +kernel
theorem dX11_wouldLift_22 : decode cX11_wouldLift 22 = .ok (.aload_n 0, 1) := by decide +kernel
theorem dX11_wouldLift_23 : decode cX11_wouldLift 23 = .ok (.getfield 66, 3) := by decide +kernel
theorem dX11_wouldLift_26 : decode cX11_wouldLift 26 = .ok (.iconst 1, 1) := by decide +kernel
theorem dX11_wouldLift_27 : decode cX11_wouldLift 27 = .ok (.iload_n 1, 1) := by decide +kernel
theorem dX11_wouldLift_28 : decode cX11_wouldLift 28 = .ok (.ishl, 1) := by decide +kernel
theorem dX11_wouldLift_29 : decode cX11_wouldLift 29 = .ok (.iconst (-1), 1) := by decide +kernel
theorem dX11_wouldLift_30 : decode cX11_wouldLift 30 = .ok (.ixor, 1) := by decide +kernel
theorem dX11_wouldLift_31 : decode cX11_wouldLift 31 = .ok (.iand, 1) := by decide +kernel
theorem dX11_wouldLift_32 : decode cX11_wouldLift 32 = .ok (.istore_n 2, 1) := by decide +kernel
theorem dX11_wouldLift_33 : decode cX11_wouldLift 33 = .ok (.aload_n 0, 1) := by decide +kernel
theorem dX11_wouldLift_34 : decode cX11_wouldLift 34 = .ok (.getfield 84, 3) := by decide +kernel
theorem dX11_wouldLift_37 : decode cX11_wouldLift 37 = .ok (.ifCond .eq 27, 3) := by decide +kernel
theorem dX11_wouldLift_40 : decode cX11_wouldLift 40 = .ok (.aload_n 0, 1) := by decide +kernel
theorem dX11_wouldLift_41 : decode cX11_wouldLift 41 = .ok (.getfield 29, 3) := by decide +kernel
theorem dX11_wouldLift_44 : decode cX11_wouldLift 44 = .ok (.iconst 1, 1) := by decide +kernel
theorem dX11_wouldLift_45 : decode cX11_wouldLift 45 = .ok (.if_icmp .lt 19, 3) := by decide +kernel
theorem dX11_wouldLift_48 : decode cX11_wouldLift 48 = .ok (.aload_n 0, 1) := by decide +kernel
theorem dX11_wouldLift_49 : decode cX11_wouldLift 49 = .ok (.iload_n 1, 1) := by decide +kernel
theorem dX11_wouldLift_50 : decode cX11_wouldLift 50 = .ok (.invokevirtual 97, 3) := by decide +kernel
theorem dX11_wouldLift_53 : decode cX11_wouldLift 53 = .ok (.ifCond .eq 11, 3) := by decide +kernel
theorem dX11_wouldLift_56 : decode cX11_wouldLift 56 = .ok (.aload_n 0, 1) := by decide +kernel
theorem dX11_wouldLift_57 : decode cX11_wouldLift 57 = .ok (.iload_n 2, 1) := by decide +kernel
theorem dX11_wouldLift_58 : decode cX11_wouldLift 58 = .ok (.invokevirtual 180, 3) := by decide +kernel
theorem dX11_wouldLift_61 : decode cX11_wouldLift 61 = .ok (.ifCond .ne 5, 3) := by decide +kernel
theorem dX11_wouldLift_64 : decode cX11_wouldLift 64 = .ok (.iconst (-1), 1) := by decide +kernel
theorem dX11_wouldLift_65 : decode cX11_wouldLift 65 = .ok (.ireturn, 1) := by decide +kernel
theorem dX11_wouldLift_66 : decode cX11_wouldLift 66 = .ok (.iconst 0, 1) := by decide +kernel
theorem dX11_wouldLift_67 : decode cX11_wouldLift 67 = .ok (.istore_n 3, 1) := by decide +kernel
theorem dX11_wouldLift_68 : decode cX11_wouldLift 68 = .ok (.aload_n 0, 1) := by decide +kernel
theorem dX11_wouldLift_69 : decode cX11_wouldLift 69 = .ok (.iload_n 2, 1) := by decide +kernel
theorem dX11_wouldLift_70 : decode cX11_wouldLift 70 = .ok (.invokevirtual 171, 3) := by decide +kernel
theorem dX11_wouldLift_73 : decode cX11_wouldLift 73 = .ok (.istore 4, 2) := by decide +kernel
theorem dX11_wouldLift_75 : decode cX11_wouldLift 75 = .ok (.iload 4, 2) := by decide +kernel
theorem dX11_wouldLift_77 : decode cX11_wouldLift 77 = .ok (.ifCond .eq 22, 3) := by decide +kernel
theorem dX11_wouldLift_80 : decode cX11_wouldLift 80 = .ok (.iconst 1, 1) := by decide +kernel
theorem dX11_wouldLift_81 : decode cX11_wouldLift 81 = .ok (.istore_n 3, 1) := by decide +kernel
theorem dX11_wouldLift_82 : decode cX11_wouldLift 82 = .ok (.iload_n 2, 1) := by decide +kernel
theorem dX11_wouldLift_83 : decode cX11_wouldLift 83 = .ok (.iload 4, 2) := by decide +kernel
theorem dX11_wouldLift_85 : decode cX11_wouldLift 85 = .ok (.iconst (-1), 1) := by decide +kernel
theorem dX11_wouldLift_86 : decode cX11_wouldLift 86 = .ok (.ixor, 1) := by decide +kernel
theorem dX11_wouldLift_87 : decode cX11_wouldLift 87 = .ok (.iand, 1) := by decide +kernel
theorem dX11_wouldLift_88 : decode cX11_wouldLift 88 = .ok (.istore_n 2, 1) := by decide +kernel
theorem dX11_wouldLift_89 : decode cX11_wouldLift 89 = .ok (.aload_n 0, 1) := by decide +kernel
theorem dX11_wouldLift_90 : decode cX11_wouldLift 90 = .ok (.iload_n 2, 1) := by decide +kernel
theorem dX11_wouldLift_91 : decode cX11_wouldLift 91 = .ok (.invokevirtual 171, 3) := by decide +kernel
theorem dX11_wouldLift_94 : decode cX11_wouldLift 94 = .ok (.istore 4, 2) := by decide +kernel
theorem dX11_wouldLift_96 : decode cX11_wouldLift 96 = .ok (.goto (-21), 3) := by decide +kernel
theorem dX11_wouldLift_99 : decode cX11_wouldLift 99 = .ok (.aload_n 0, 1) := by decide +kernel
theorem dX11_wouldLift_100 : decode cX11_wouldLift 100 = .ok (.iload_n 2, 1) := by decide +kernel
theorem dX11_wouldLift_101 : decode cX11_wouldLift 101 = .ok (.invokevirtual 180, 3) := by decide +kernel
theorem dX11_wouldLift_104 : decode cX11_wouldLift 104 = .ok (.ifCond .ne 7, 3) := by decide +kernel
theorem dX11_wouldLift_107 : decode cX11_wouldLift 107 = .ok (.iconst 2, 1) := by decide +kernel
theorem dX11_wouldLift_108 : decode cX11_wouldLift 108 = .ok (.goto 12, 3) := by decide +kernel
theorem dX11_wouldLift_111 : decode cX11_wouldLift 111 = .ok (.iload_n 3, 1) := by decide +kernel
theorem dX11_wouldLift_112 : decode cX11_wouldLift 112 = .ok (.ifCond .eq 7, 3) := by decide +kernel
theorem dX11_wouldLift_115 : decode cX11_wouldLift 115 = .ok (.iconst 1, 1) := by decide +kernel
theorem dX11_wouldLift_116 : decode cX11_wouldLift 116 = .ok (.goto 4, 3) := by decide +kernel
theorem dX11_wouldLift_119 : decode cX11_wouldLift 119 = .ok (.iconst 0, 1) := by decide +kernel
theorem dX11_wouldLift_120 : decode cX11_wouldLift 120 = .ok (.ireturn, 1) := by decide +kernel
theorem dX11_tries_0 : decode cX11_tries 0 = .ok (.iload_n 1, 1) := by decide +kernel
theorem dX11_tries_1 : decode cX11_tries 1 = .ok (.bipush 6, 2) := by decide +kernel
theorem dX11_tries_3 : decode cX11_tries 3 = .ok (.if_icmp .lt 50, 3) := by decide +kernel
theorem dX11_tries_6 : decode cX11_tries 6 = .ok (.iload_n 1, 1) := by decide +kernel
theorem dX11_tries_7 : decode cX11_tries 7 = .ok (.bipush 6, 2) := by decide +kernel
theorem dX11_tries_9 : decode cX11_tries 9 = .ok (.isub, 1) := by decide +kernel
theorem dX11_tries_10 : decode cX11_tries 10 = .ok (.istore_n 2, 1) := by decide +kernel
theorem dX11_tries_11 : decode cX11_tries 11 = .ok (.aload_n 0, 1) := by decide +kernel
theorem dX11_tries_12 : decode cX11_tries 12 = .ok (.iload_n 2, 1) := by decide +kernel
theorem dX11_tries_13 : decode cX11_tries 13 = .ok (.ifCond .ne 7, 3) := by decide +kernel
theorem dX11_tries_16 : decode cX11_tries 16 = .ok (.iconst (-1), 1) := by decide +kernel
theorem dX11_tries_17 : decode cX11_tries 17 = .ok (.goto 13, 3) := by decide +kernel
theorem dX11_tries_20 : decode cX11_tries 20 = .ok (.iload_n 2, 1) := by decide +kernel
theorem dX11_tries_21 : decode cX11_tries 21 = .ok (.iconst 1, 1) := by decide +kernel
theorem dX11_tries_22 : decode cX11_tries 22 = .ok (.if_icmp .ne 7, 3) := by decide +kernel
theorem dX11_tries_25 : decode cX11_tries 25 = .ok (.iconst 1, 1) := by decide +kernel
theorem dX11_tries_26 : decode cX11_tries 26 = .ok (.goto 4, 3) := by decide +kernel
theorem dX11_tries_29 : decode cX11_tries 29 = .ok (.iconst 0, 1) := by decide +kernel
theorem dX11_tries_30 : decode cX11_tries 30 = .ok (.iload_n 2, 1) := by decide +kernel
theorem dX11_tries_31 : decode cX11_tries 31 = .ok (.iconst 2, 1) := by decide +kernel
theorem dX11_tries_32 : decode cX11_tries 32 = .ok (.if_icmp .ne 7, 3) := by decide +kernel
theorem dX11_tries_35 : decode cX11_tries 35 = .ok (.iconst (-1), 1) := by decide +kernel
theorem dX11_tries_36 : decode cX11_tries 36 = .ok (.goto 13, 3) := by decide +kernel
theorem dX11_tries_39 : decode cX11_tries 39 = .ok (.iload_n 2, 1) := by decide +kernel
theorem dX11_tries_40 : decode cX11_tries 40 = .ok (.iconst 3, 1) := by decide +kernel
theorem dX11_tries_41 : decode cX11_tries 41 = .ok (.if_icmp .ne 7, 3) := by decide +kernel
theorem dX11_tries_44 : decode cX11_tries 44 = .ok (.iconst 1, 1) := by decide +kernel
theorem dX11_tries_45 : decode cX11_tries 45 = .ok (.goto 4, 3) := by decide +kernel
theorem dX11_tries_48 : decode cX11_tries 48 = .ok (.iconst 0, 1) := by decide +kernel
theorem dX11_tries_49 : decode cX11_tries 49 = .ok (.invokevirtual 204, 3) := by decide +kernel
theorem dX11_tries_52 : decode cX11_tries 52 = .ok (.ireturn, 1) := by decide +kernel
theorem dX11_tries_53 : decode cX11_tries 53 = .ok (.iload_n 1, 1) := by decide +kernel
theorem dX11_tries_54 : decode cX11_tries 54 = .ok (.aload_n 0, 1) := by decide +kernel
theorem dX11_tries_55 : decode cX11_tries 55 = .ok (.getfield 63, 3) := by decide +kernel
theorem dX11_tries_58 : decode cX11_tries 58 = .ok (.if_icmp .ge 28, 3) := by decide +kernel
theorem dX11_tries_61 : decode cX11_tries 61 = .ok (.aload_n 0, 1) := by decide +kernel
theorem dX11_tries_62 : decode cX11_tries 62 = .ok (.iload_n 1, 1) := by decide +kernel
theorem dX11_tries_63 : decode cX11_tries 63 = .ok (.invokevirtual 97, 3) := by decide +kernel
theorem dX11_tries_66 : decode cX11_tries 66 = .ok (.ifCond .eq 22, 3) := by decide +kernel
theorem dX11_tries_69 : decode cX11_tries 69 = .ok (.aload_n 0, 1) := by decide +kernel
theorem dX11_tries_70 : decode cX11_tries 70 = .ok (.aload_n 0, 1) := by decide +kernel
theorem dX11_tries_71 : decode cX11_tries 71 = .ok (.getfield 66, 3) := by decide +kernel
theorem dX11_tries_74 : decode cX11_tries 74 = .ok (.iconst 1, 1) := by decide +kernel
theorem dX11_tries_75 : decode cX11_tries 75 = .ok (.iload_n 1, 1) := by decide +kernel
theorem dX11_tries_76 : decode cX11_tries 76 = .ok (.ishl, 1) := by decide +kernel
theorem dX11_tries_77 : decode cX11_tries 77 = .ok (.iconst (-1), 1) := by decide +kernel
theorem dX11_tries_78 : decode cX11_tries 78 = .ok (.ixor, 1) := by decide +kernel
theorem dX11_tries_79 : decode cX11_tries 79 = .ok (.iand, 1) := by decide +kernel
theorem dX11_tries_80 : decode cX11_tries 80 = .ok (.invokevirtual 180, 3) := by decide +kernel
theorem dX11_tries_83 : decode cX11_tries 83 = .ok (.ifCond .ne 5, 3) := by decide +kernel
theorem dX11_tries_86 : decode cX11_tries 86 = .ok (.iconst 0, 1) := by decide +kernel
theorem dX11_tries_87 : decode cX11_tries 87 = .ok (.ireturn, 1) := by decide +kernel
theorem dX11_tries_88 : decode cX11_tries 88 = .ok (.aload_n 0, 1) := by decide +kernel
theorem dX11_tries_89 : decode cX11_tries 89 = .ok (.iload_n 1, 1) := by decide +kernel
theorem dX11_tries_90 : decode cX11_tries 90 = .ok (.invokevirtual 233, 3) := by decide +kernel
theorem dX11_tries_93 : decode cX11_tries 93 = .ok (.istore_n 2, 1) := by decide +kernel
theorem dX11_tries_94 : decode cX11_tries 94 = .ok (.iload_n 2, 1) := by decide +kernel
theorem dX11_tries_95 : decode cX11_tries 95 = .ok (.iconst (-1), 1) := by decide +kernel
theorem dX11_tries_96 : decode cX11_tries 96 = .ok (.if_icmp .ne 5, 3) := by decide +kernel
theorem dX11_tries_99 : decode cX11_tries 99 = .ok (.iconst 0, 1) := by decide +kernel
theorem dX11_tries_100 : decode cX11_tries 100 = .ok (.ireturn, 1) := by decide +kernel
theorem dX11_tries_101 : decode cX11_tries 101 = .ok (.aload_n 0, 1) := by decide +kernel
theorem dX11_tries_102 : decode cX11_tries 102 = .ok (.iload_n 1, 1) := by decide +kernel
theorem dX11_tries_103 : decode cX11_tries 103 = .ok (.iload_n 2, 1) := by decide +kernel
theorem dX11_tries_104 : decode cX11_tries 104 = .ok (.bipush 20, 2) := by decide +kernel
theorem dX11_tries_106 : decode cX11_tries 106 = .ok (.irem, 1) := by decide +kernel
theorem dX11_tries_107 : decode cX11_tries 107 = .ok (.iload_n 2, 1) := by decide +kernel
theorem dX11_tries_108 : decode cX11_tries 108 = .ok (.bipush 20, 2) := by decide +kernel
theorem dX11_tries_110 : decode cX11_tries 110 = .ok (.idiv, 1) := by decide +kernel
theorem dX11_tries_111 : decode cX11_tries 111 = .ok (.invokevirtual 165, 3) := by decide +kernel
theorem dX11_tries_114 : decode cX11_tries 114 = .ok (.iconst 1, 1) := by decide +kernel
theorem dX11_tries_115 : decode cX11_tries 115 = .ok (.ireturn, 1) := by decide +kernel
theorem dX11_fewest_0 : decode cX11_fewest 0 = .ok (.aload_n 0, 1) := by decide +kernel
theorem dX11_fewest_1 : decode cX11_fewest 1 = .ok (.iload_n 1, 1) := by decide +kernel
theorem dX11_fewest_2 : decode cX11_fewest 2 = .ok (.iload_n 2, 1) := by decide +kernel
theorem dX11_fewest_3 : decode cX11_fewest 3 = .ok (.invokestatic 69, 3) := by decide +kernel
theorem dX11_fewest_6 : decode cX11_fewest 6 = .ok (.ifCond .eq 7, 3) := by decide +kernel
theorem dX11_fewest_9 : decode cX11_fewest 9 = .ok (.iconst 0, 1) := by decide +kernel
theorem dX11_fewest_10 : decode cX11_fewest 10 = .ok (.goto 4, 3) := by decide +kernel
theorem dX11_fewest_13 : decode cX11_fewest 13 = .ok (.iconst 1, 1) := by decide +kernel
theorem dX11_fewest_14 : decode cX11_fewest 14 = .ok (.invokevirtual 77, 3) := by decide +kernel
theorem dX11_fewest_17 : decode cX11_fewest 17 = .ok (.ifCond .eq 5, 3) := by decide +kernel
theorem dX11_fewest_20 : decode cX11_fewest 20 = .ok (.iconst 0, 1) := by decide +kernel
theorem dX11_fewest_21 : decode cX11_fewest 21 = .ok (.ireturn, 1) := by decide +kernel
theorem dX11_fewest_22 : decode cX11_fewest 22 = .ok (.aload_n 0, 1) := by decide +kernel
theorem dX11_fewest_23 : decode cX11_fewest 23 = .ok (.getfield 84, 3) := by decide +kernel
theorem dX11_fewest_26 : decode cX11_fewest 26 = .ok (.ifCond .ne 5, 3) := by decide +kernel
theorem dX11_fewest_29 : decode cX11_fewest 29 = .ok (.iconst (-1), 1) := by decide +kernel
theorem dX11_fewest_30 : decode cX11_fewest 30 = .ok (.ireturn, 1) := by decide +kernel
theorem dX11_fewest_31 : decode cX11_fewest 31 = .ok (.aload_n 0, 1) := by decide +kernel
theorem dX11_fewest_32 : decode cX11_fewest 32 = .ok (.getfield 22, 3) := by decide +kernel
theorem dX11_fewest_35 : decode cX11_fewest 35 = .ok (.istore_n 3, 1) := by decide +kernel
theorem dX11_fewest_36 : decode cX11_fewest 36 = .ok (.aload_n 0, 1) := by decide +kernel
theorem dX11_fewest_37 : decode cX11_fewest 37 = .ok (.getfield 26, 3) := by decide +kernel
theorem dX11_fewest_40 : decode cX11_fewest 40 = .ok (.istore 4, 2) := by decide +kernel
theorem dX11_fewest_42 : decode cX11_fewest 42 = .ok (.aload_n 0, 1) := by decide +kernel
theorem dX11_fewest_43 : decode cX11_fewest 43 = .ok (.getfield 66, 3) := by decide +kernel
theorem dX11_fewest_46 : decode cX11_fewest 46 = .ok (.istore 5, 2) := by decide +kernel
theorem dX11_fewest_48 : decode cX11_fewest 48 = .ok (.bipush 6, 2) := by decide +kernel
theorem dX11_fewest_50 : decode cX11_fewest 50 = .ok (.newarray .int, 2) := by decide +kernel
theorem dX11_fewest_52 : decode cX11_fewest 52 = .ok (.astore 6, 2) := by decide +kernel
theorem dX11_fewest_54 : decode cX11_fewest 54 = .ok (.bipush 6, 2) := by decide +kernel
theorem dX11_fewest_56 : decode cX11_fewest 56 = .ok (.newarray .int, 2) := by decide +kernel
theorem dX11_fewest_58 : decode cX11_fewest 58 = .ok (.astore 7, 2) := by decide +kernel
theorem dX11_fewest_60 : decode cX11_fewest 60 = .ok (.iconst 0, 1) := by decide +kernel
theorem dX11_fewest_61 : decode cX11_fewest 61 = .ok (.istore 8, 2) := by decide +kernel
theorem dX11_fewest_63 : decode cX11_fewest 63 = .ok (.iload 8, 2) := by decide +kernel
theorem dX11_fewest_65 : decode cX11_fewest 65 = .ok (.bipush 6, 2) := by decide +kernel
theorem dX11_fewest_67 : decode cX11_fewest 67 = .ok (.if_icmp .ge 33, 3) := by decide +kernel
theorem dX11_fewest_70 : decode cX11_fewest 70 = .ok (.aload 6, 2) := by decide +kernel
theorem dX11_fewest_72 : decode cX11_fewest 72 = .ok (.iload 8, 2) := by decide +kernel
theorem dX11_fewest_74 : decode cX11_fewest 74 = .ok (.aload_n 0, 1) := by decide +kernel
theorem dX11_fewest_75 : decode cX11_fewest 75 = .ok (.getfield 41, 3) := by decide +kernel
theorem dX11_fewest_78 : decode cX11_fewest 78 = .ok (.iload 8, 2) := by decide +kernel
theorem dX11_fewest_80 : decode cX11_fewest 80 = .ok (.iaload, 1) := by decide +kernel
theorem dX11_fewest_81 : decode cX11_fewest 81 = .ok (.iastore, 1) := by decide +kernel
theorem dX11_fewest_82 : decode cX11_fewest 82 = .ok (.aload 7, 2) := by decide +kernel
theorem dX11_fewest_84 : decode cX11_fewest 84 = .ok (.iload 8, 2) := by decide +kernel
theorem dX11_fewest_86 : decode cX11_fewest 86 = .ok (.aload_n 0, 1) := by decide +kernel
theorem dX11_fewest_87 : decode cX11_fewest 87 = .ok (.getfield 44, 3) := by decide +kernel
theorem dX11_fewest_90 : decode cX11_fewest 90 = .ok (.iload 8, 2) := by decide +kernel
theorem dX11_fewest_92 : decode cX11_fewest 92 = .ok (.iaload, 1) := by decide +kernel
theorem dX11_fewest_93 : decode cX11_fewest 93 = .ok (.iastore, 1) := by decide +kernel
theorem dX11_fewest_94 : decode cX11_fewest 94 = .ok (.iinc 8 1, 3) := by decide +kernel
theorem dX11_fewest_97 : decode cX11_fewest 97 = .ok (.goto (-34), 3) := by decide +kernel
theorem dX11_fewest_100 : decode cX11_fewest 100 = .ok (.iload_n 3, 1) := by decide +kernel
theorem dX11_fewest_101 : decode cX11_fewest 101 = .ok (.iload_n 1, 1) := by decide +kernel
theorem dX11_fewest_102 : decode cX11_fewest 102 = .ok (.if_icmp .ne 13, 3) := by decide +kernel
theorem dX11_fewest_105 : decode cX11_fewest 105 = .ok (.iload 4, 2) := by decide +kernel
theorem dX11_fewest_107 : decode cX11_fewest 107 = .ok (.iload_n 2, 1) := by decide +kernel
theorem dX11_fewest_108 : decode cX11_fewest 108 = .ok (.if_icmp .ne 7, 3) := by decide +kernel
theorem dX11_fewest_111 : decode cX11_fewest 111 = .ok (.iconst 0, 1) := by decide +kernel
theorem dX11_fewest_112 : decode cX11_fewest 112 = .ok (.goto 4, 3) := by decide +kernel
theorem dX11_fewest_115 : decode cX11_fewest 115 = .ok (.iconst (-1), 1) := by decide +kernel
theorem dX11_fewest_116 : decode cX11_fewest 116 = .ok (.istore 8, 2) := by decide +kernel
theorem dX11_fewest_118 : decode cX11_fewest 118 = .ok (.iconst 1, 1) := by decide +kernel
theorem dX11_fewest_119 : decode cX11_fewest 119 = .ok (.istore 9, 2) := by decide +kernel
theorem dX11_fewest_121 : decode cX11_fewest 121 = .ok (.iconst 1, 1) := by decide +kernel
theorem dX11_fewest_122 : decode cX11_fewest 122 = .ok (.istore 10, 2) := by decide +kernel
theorem dX11_fewest_124 : decode cX11_fewest 124 = .ok (.iload 10, 2) := by decide +kernel
theorem dX11_fewest_126 : decode cX11_fewest 126 = .ok (.iconst 3, 1) := by decide +kernel
theorem dX11_fewest_127 : decode cX11_fewest 127 = .ok (.if_icmp .gt 176, 3) := by decide +kernel
theorem dX11_fewest_130 : decode cX11_fewest 130 = .ok (.iload 8, 2) := by decide +kernel
theorem dX11_fewest_132 : decode cX11_fewest 132 = .ok (.iconst (-1), 1) := by decide +kernel
theorem dX11_fewest_133 : decode cX11_fewest 133 = .ok (.if_icmp .ne 170, 3) := by decide +kernel
theorem dX11_fewest_136 : decode cX11_fewest 136 = .ok (.iload 9, 2) := by decide +kernel
theorem dX11_fewest_138 : decode cX11_fewest 138 = .ok (.bipush 10, 2) := by decide +kernel
theorem dX11_fewest_140 : decode cX11_fewest 140 = .ok (.imul, 1) := by decide +kernel
theorem dX11_fewest_141 : decode cX11_fewest 141 = .ok (.istore 9, 2) := by decide +kernel
theorem dX11_fewest_143 : decode cX11_fewest 143 = .ok (.iconst 0, 1) := by decide +kernel
theorem dX11_fewest_144 : decode cX11_fewest 144 = .ok (.istore 11, 2) := by decide +kernel
theorem dX11_fewest_146 : decode cX11_fewest 146 = .ok (.iload 11, 2) := by decide +kernel
theorem dX11_fewest_148 : decode cX11_fewest 148 = .ok (.iload 9, 2) := by decide +kernel
theorem dX11_fewest_150 : decode cX11_fewest 150 = .ok (.if_icmp .ge 147, 3) := by decide +kernel
theorem dX11_fewest_153 : decode cX11_fewest 153 = .ok (.iload 8, 2) := by decide +kernel
theorem dX11_fewest_155 : decode cX11_fewest 155 = .ok (.iconst (-1), 1) := by decide +kernel
theorem dX11_fewest_156 : decode cX11_fewest 156 = .ok (.if_icmp .ne 141, 3) := by decide +kernel
theorem dX11_fewest_159 : decode cX11_fewest 159 = .ok (.iconst 1, 1) := by decide +kernel
theorem dX11_fewest_160 : decode cX11_fewest 160 = .ok (.istore 12, 2) := by decide +kernel
theorem dX11_fewest_162 : decode cX11_fewest 162 = .ok (.iload 11, 2) := by decide +kernel
theorem dX11_fewest_164 : decode cX11_fewest 164 = .ok (.istore 13, 2) := by decide +kernel
theorem dX11_fewest_166 : decode cX11_fewest 166 = .ok (.iconst 0, 1) := by decide +kernel
theorem dX11_fewest_167 : decode cX11_fewest 167 = .ok (.istore 14, 2) := by decide +kernel
theorem dX11_fewest_169 : decode cX11_fewest 169 = .ok (.iload 14, 2) := by decide +kernel
theorem dX11_fewest_171 : decode cX11_fewest 171 = .ok (.iload 10, 2) := by decide +kernel
theorem dX11_fewest_173 : decode cX11_fewest 173 = .ok (.if_icmp .ge 32, 3) := by decide +kernel
theorem dX11_fewest_176 : decode cX11_fewest 176 = .ok (.iload 12, 2) := by decide +kernel
theorem dX11_fewest_178 : decode cX11_fewest 178 = .ok (.ifCond .eq 27, 3) := by decide +kernel
theorem dX11_fewest_181 : decode cX11_fewest 181 = .ok (.aload_n 0, 1) := by decide +kernel
theorem dX11_fewest_182 : decode cX11_fewest 182 = .ok (.iload 13, 2) := by decide +kernel
theorem dX11_fewest_184 : decode cX11_fewest 184 = .ok (.bipush 10, 2) := by decide +kernel
theorem dX11_fewest_186 : decode cX11_fewest 186 = .ok (.irem, 1) := by decide +kernel
theorem dX11_fewest_187 : decode cX11_fewest 187 = .ok (.invokevirtual 236, 3) := by decide +kernel
theorem dX11_fewest_190 : decode cX11_fewest 190 = .ok (.istore 12, 2) := by decide +kernel
theorem dX11_fewest_192 : decode cX11_fewest 192 = .ok (.iload 13, 2) := by decide +kernel
theorem dX11_fewest_194 : decode cX11_fewest 194 = .ok (.bipush 10, 2) := by decide +kernel
theorem dX11_fewest_196 : decode cX11_fewest 196 = .ok (.idiv, 1) := by decide +kernel
theorem dX11_fewest_197 : decode cX11_fewest 197 = .ok (.istore 13, 2) := by decide +kernel
theorem dX11_fewest_199 : decode cX11_fewest 199 = .ok (.iinc 14 1, 3) := by decide +kernel
theorem dX11_fewest_202 : decode cX11_fewest 202 = .ok (.goto (-33), 3) := by decide +kernel
theorem dX11_fewest_205 : decode cX11_fewest 205 = .ok (.iload 12, 2) := by decide +kernel
theorem dX11_fewest_207 : decode cX11_fewest 207 = .ok (.ifCond .eq 24, 3) := by decide +kernel
theorem dX11_fewest_210 : decode cX11_fewest 210 = .ok (.aload_n 0, 1) := by decide +kernel
theorem dX11_fewest_211 : decode cX11_fewest 211 = .ok (.getfield 22, 3) := by decide +kernel
theorem dX11_fewest_214 : decode cX11_fewest 214 = .ok (.iload_n 1, 1) := by decide +kernel
theorem dX11_fewest_215 : decode cX11_fewest 215 = .ok (.if_icmp .ne 16, 3) := by decide +kernel
theorem dX11_fewest_218 : decode cX11_fewest 218 = .ok (.aload_n 0, 1) := by decide +kernel
theorem dX11_fewest_219 : decode cX11_fewest 219 = .ok (.getfield 26, 3) := by decide +kernel
theorem dX11_fewest_222 : decode cX11_fewest 222 = .ok (.iload_n 2, 1) := by decide +kernel
theorem dX11_fewest_223 : decode cX11_fewest 223 = .ok (.if_icmp .ne 8, 3) := by decide +kernel
theorem dX11_fewest_226 : decode cX11_fewest 226 = .ok (.iload 10, 2) := by decide +kernel
theorem dX11_fewest_228 : decode cX11_fewest 228 = .ok (.goto 4, 3) := by decide +kernel
theorem dX11_fewest_231 : decode cX11_fewest 231 = .ok (.iconst (-1), 1) := by decide +kernel
theorem dX11_fewest_232 : decode cX11_fewest 232 = .ok (.istore 8, 2) := by decide +kernel
theorem dX11_fewest_234 : decode cX11_fewest 234 = .ok (.aload_n 0, 1) := by decide +kernel
theorem dX11_fewest_235 : decode cX11_fewest 235 = .ok (.iload_n 3, 1) := by decide +kernel
theorem dX11_fewest_236 : decode cX11_fewest 236 = .ok (.putfield 22, 3) := by decide +kernel
theorem dX11_fewest_239 : decode cX11_fewest 239 = .ok (.aload_n 0, 1) := by decide +kernel
theorem dX11_fewest_240 : decode cX11_fewest 240 = .ok (.iload 4, 2) := by decide +kernel
theorem dX11_fewest_242 : decode cX11_fewest 242 = .ok (.putfield 26, 3) := by decide +kernel
theorem dX11_fewest_245 : decode cX11_fewest 245 = .ok (.aload_n 0, 1) := by decide +kernel
theorem dX11_fewest_246 : decode cX11_fewest 246 = .ok (.iload 5, 2) := by decide +kernel
theorem dX11_fewest_248 : decode cX11_fewest 248 = .ok (.putfield 66, 3) := by decide +kernel
theorem dX11_fewest_251 : decode cX11_fewest 251 = .ok (.iconst 0, 1) := by decide +kernel
theorem dX11_fewest_252 : decode cX11_fewest 252 = .ok (.istore 14, 2) := by decide +kernel
theorem dX11_fewest_254 : decode cX11_fewest 254 = .ok (.iload 14, 2) := by decide +kernel
theorem dX11_fewest_256 : decode cX11_fewest 256 = .ok (.bipush 6, 2) := by decide +kernel
theorem dX11_fewest_258 : decode cX11_fewest 258 = .ok (.if_icmp .ge 33, 3) := by decide +kernel
theorem dX11_fewest_261 : decode cX11_fewest 261 = .ok (.aload_n 0, 1) := by decide +kernel
theorem dX11_fewest_262 : decode cX11_fewest 262 = .ok (.getfield 41, 3) := by decide +kernel
theorem dX11_fewest_265 : decode cX11_fewest 265 = .ok (.iload 14, 2) := by decide +kernel
theorem dX11_fewest_267 : decode cX11_fewest 267 = .ok (.aload 6, 2) := by decide +kernel
theorem dX11_fewest_269 : decode cX11_fewest 269 = .ok (.iload 14, 2) := by decide +kernel
theorem dX11_fewest_271 : decode cX11_fewest 271 = .ok (.iaload, 1) := by decide +kernel
theorem dX11_fewest_272 : decode cX11_fewest 272 = .ok (.iastore, 1) := by decide +kernel
theorem dX11_fewest_273 : decode cX11_fewest 273 = .ok (.aload_n 0, 1) := by decide +kernel
theorem dX11_fewest_274 : decode cX11_fewest 274 = .ok (.getfield 44, 3) := by decide +kernel
theorem dX11_fewest_277 : decode cX11_fewest 277 = .ok (.iload 14, 2) := by decide +kernel
theorem dX11_fewest_279 : decode cX11_fewest 279 = .ok (.aload 7, 2) := by decide +kernel
theorem dX11_fewest_281 : decode cX11_fewest 281 = .ok (.iload 14, 2) := by decide +kernel
theorem dX11_fewest_283 : decode cX11_fewest 283 = .ok (.iaload, 1) := by decide +kernel
theorem dX11_fewest_284 : decode cX11_fewest 284 = .ok (.iastore, 1) := by decide +kernel
theorem dX11_fewest_285 : decode cX11_fewest 285 = .ok (.iinc 14 1, 3) := by decide +kernel
theorem dX11_fewest_288 : decode cX11_fewest 288 = .ok (.goto (-34), 3) := by decide +kernel
theorem dX11_fewest_291 : decode cX11_fewest 291 = .ok (.iinc 11 1, 3) := by decide +kernel
theorem dX11_fewest_294 : decode cX11_fewest 294 = .ok (.goto (-148), 3) := by decide +kernel
theorem dX11_fewest_297 : decode cX11_fewest 297 = .ok (.iinc 10 1, 3) := by decide +kernel
theorem dX11_fewest_300 : decode cX11_fewest 300 = .ok (.goto (-176), 3) := by decide +kernel
theorem dX11_fewest_303 : decode cX11_fewest 303 = .ok (.iload 8, 2) := by decide +kernel
theorem dX11_fewest_305 : decode cX11_fewest 305 = .ok (.ireturn, 1) := by decide +kernel
theorem dX11_fewestAnew_0 : decode cX11_fewestAnew 0 = .ok (.aload_n 0, 1) := by decide +kernel
theorem dX11_fewestAnew_1 : decode cX11_fewestAnew 1 = .ok (.iload_n 1, 1) := by decide +kernel
theorem dX11_fewestAnew_2 : decode cX11_fewestAnew 2 = .ok (.iload_n 2, 1) := by decide +kernel
theorem dX11_fewestAnew_3 : decode cX11_fewestAnew 3 = .ok (.invokevirtual 239, 3) := by decide +kernel
theorem dX11_fewestAnew_6 : decode cX11_fewestAnew 6 = .ok (.ireturn, 1) := by decide +kernel
theorem dX11_fall_0 : decode cX11_fall 0 = .ok (.aload_n 0, 1) := by decide +kernel
theorem dX11_fall_1 : decode cX11_fall 1 = .ok (.getfield 183, 3) := by decide +kernel
theorem dX11_fall_4 : decode cX11_fall 4 = .ok (.bipush 40, 2) := by decide +kernel
theorem dX11_fall_6 : decode cX11_fall 6 = .ok (.if_icmp .ge 10, 3) := by decide +kernel
theorem dX11_fall_9 : decode cX11_fall 9 = .ok (.aload_n 0, 1) := by decide +kernel
theorem dX11_fall_10 : decode cX11_fall 10 = .ok (.getfield 183, 3) := by decide +kernel
theorem dX11_fall_13 : decode cX11_fall 13 = .ok (.goto 5, 3) := by decide +kernel
theorem dX11_fall_16 : decode cX11_fall 16 = .ok (.bipush 40, 2) := by decide +kernel
theorem dX11_fall_18 : decode cX11_fall 18 = .ok (.istore_n 3, 1) := by decide +kernel
theorem dX11_fall_19 : decode cX11_fall 19 = .ok (.aload_n 0, 1) := by decide +kernel
theorem dX11_fall_20 : decode cX11_fall 20 = .ok (.iload_n 1, 1) := by decide +kernel
theorem dX11_fall_21 : decode cX11_fall 21 = .ok (.iconst 0, 1) := by decide +kernel
theorem dX11_fall_22 : decode cX11_fall 22 = .ok (.iload_n 3, 1) := by decide +kernel
theorem dX11_fall_23 : decode cX11_fall 23 = .ok (.iconst 1, 1) := by decide +kernel
theorem dX11_fall_24 : decode cX11_fall 24 = .ok (.isub, 1) := by decide +kernel
theorem dX11_fall_25 : decode cX11_fall 25 = .ok (.invokestatic 59, 3) := by decide +kernel
theorem dX11_fall_28 : decode cX11_fall 28 = .ok (.ifCond .ne 7, 3) := by decide +kernel
theorem dX11_fall_31 : decode cX11_fall 31 = .ok (.iconst 1, 1) := by decide +kernel
theorem dX11_fall_32 : decode cX11_fall 32 = .ok (.goto 17, 3) := by decide +kernel
theorem dX11_fall_35 : decode cX11_fall 35 = .ok (.iload_n 2, 1) := by decide +kernel
theorem dX11_fall_36 : decode cX11_fall 36 = .ok (.iconst 0, 1) := by decide +kernel
theorem dX11_fall_37 : decode cX11_fall 37 = .ok (.iconst 3, 1) := by decide +kernel
theorem dX11_fall_38 : decode cX11_fall 38 = .ok (.invokestatic 59, 3) := by decide +kernel
theorem dX11_fall_41 : decode cX11_fall 41 = .ok (.ifCond .eq 7, 3) := by decide +kernel
theorem dX11_fall_44 : decode cX11_fall 44 = .ok (.iconst 0, 1) := by decide +kernel
theorem dX11_fall_45 : decode cX11_fall 45 = .ok (.goto 4, 3) := by decide +kernel
theorem dX11_fall_48 : decode cX11_fall 48 = .ok (.iconst 2, 1) := by decide +kernel
theorem dX11_fall_49 : decode cX11_fall 49 = .ok (.invokevirtual 77, 3) := by decide +kernel
theorem dX11_fall_52 : decode cX11_fall 52 = .ok (.ifCond .eq 5, 3) := by decide +kernel
theorem dX11_fall_55 : decode cX11_fall 55 = .ok (.iconst 0, 1) := by decide +kernel
theorem dX11_fall_56 : decode cX11_fall 56 = .ok (.ireturn, 1) := by decide +kernel
theorem dX11_fall_57 : decode cX11_fall 57 = .ok (.aload_n 0, 1) := by decide +kernel
theorem dX11_fall_58 : decode cX11_fall 58 = .ok (.getfield 47, 3) := by decide +kernel
theorem dX11_fall_61 : decode cX11_fall 61 = .ok (.iconst 4, 1) := by decide +kernel
theorem dX11_fall_62 : decode cX11_fall 62 = .ok (.iload_n 1, 1) := by decide +kernel
theorem dX11_fall_63 : decode cX11_fall 63 = .ok (.imul, 1) := by decide +kernel
theorem dX11_fall_64 : decode cX11_fall 64 = .ok (.iload_n 2, 1) := by decide +kernel
theorem dX11_fall_65 : decode cX11_fall 65 = .ok (.iadd, 1) := by decide +kernel
theorem dX11_fall_66 : decode cX11_fall 66 = .ok (.iaload, 1) := by decide +kernel
theorem dX11_fall_67 : decode cX11_fall 67 = .ok (.ireturn, 1) := by decide +kernel
theorem dJxf58ca_isNaN_12338_0 : decode cJxf58ca_isNaN_12338 0 = .ok (.fload_n 0, 1) := by decide +kernel
theorem dJxf58ca_isNaN_12338_1 : decode cJxf58ca_isNaN_12338 1 = .ok (.fload_n 0, 1) := by decide +kernel
theorem dJxf58ca_isNaN_12338_2 : decode cJxf58ca_isNaN_12338 2 = .ok (.fcmp .l, 1) := by decide +kernel
theorem dJxf58ca_isNaN_12338_3 : decode cJxf58ca_isNaN_12338 3 = .ok (.ifCond .eq 7, 3) := by decide +kernel
theorem dJxf58ca_isNaN_12338_6 : decode cJxf58ca_isNaN_12338 6 = .ok (.iconst 1, 1) := by decide +kernel
theorem dJxf58ca_isNaN_12338_7 : decode cJxf58ca_isNaN_12338 7 = .ok (.goto 4, 3) := by decide +kernel
theorem dJxf58ca_isNaN_12338_10 : decode cJxf58ca_isNaN_12338 10 = .ok (.iconst 0, 1) := by decide +kernel
theorem dJxf58ca_isNaN_12338_11 : decode cJxf58ca_isNaN_12338 11 = .ok (.ireturn, 1) := by decide +kernel
theorem dJxf58ca_floatToIntBits_5c35a_0 : decode cJxf58ca_floatToIntBits_5c35a 0 = .ok (.fload_n 0, 1) := by decide +kernel
theorem dJxf58ca_floatToIntBits_5c35a_1 : decode cJxf58ca_floatToIntBits_5c35a 1 = .ok (.invokestatic 59, 3) := by decide +kernel
theorem dJxf58ca_floatToIntBits_5c35a_4 : decode cJxf58ca_floatToIntBits_5c35a 4 = .ok (.ifCond .ne 8, 3) := by decide +kernel
theorem dJxf58ca_floatToIntBits_5c35a_7 : decode cJxf58ca_floatToIntBits_5c35a 7 = .ok (.fload_n 0, 1) := by decide +kernel
theorem dJxf58ca_floatToIntBits_5c35a_8 : decode cJxf58ca_floatToIntBits_5c35a 8 = .ok (.invokestatic 74, 3) := by decide +kernel
theorem dJxf58ca_floatToIntBits_5c35a_11 : decode cJxf58ca_floatToIntBits_5c35a 11 = .ok (.ireturn, 1) := by decide +kernel
theorem dJxf58ca_floatToIntBits_5c35a_12 : decode cJxf58ca_floatToIntBits_5c35a 12 = .ok (.ldc 77, 2) := by decide +kernel
theorem dJxf58ca_floatToIntBits_5c35a_14 : decode cJxf58ca_floatToIntBits_5c35a 14 = .ok (.ireturn, 1) := by decide +kernel
theorem dJ6_signum_0f7a4_0 : decode cJ6_signum_0f7a4 0 = .ok (.iload_n 0, 1) := by decide +kernel
theorem dJ6_signum_0f7a4_1 : decode cJ6_signum_0f7a4 1 = .ok (.bipush 31, 2) := by decide +kernel
theorem dJ6_signum_0f7a4_3 : decode cJ6_signum_0f7a4 3 = .ok (.ishr, 1) := by decide +kernel
theorem dJ6_signum_0f7a4_4 : decode cJ6_signum_0f7a4 4 = .ok (.iload_n 0, 1) := by decide +kernel
theorem dJ6_signum_0f7a4_5 : decode cJ6_signum_0f7a4 5 = .ok (.ineg, 1) := by decide +kernel
theorem dJ6_signum_0f7a4_6 : decode cJ6_signum_0f7a4 6 = .ok (.bipush 31, 2) := by decide +kernel
theorem dJ6_signum_0f7a4_8 : decode cJ6_signum_0f7a4 8 = .ok (.iushr, 1) := by decide +kernel
theorem dJ6_signum_0f7a4_9 : decode cJ6_signum_0f7a4 9 = .ok (.ior, 1) := by decide +kernel
theorem dJ6_signum_0f7a4_10 : decode cJ6_signum_0f7a4 10 = .ok (.ireturn, 1) := by decide +kernel
theorem dJ9_abs_0f7a4_0 : decode cJ9_abs_0f7a4 0 = .ok (.iload_n 0, 1) := by decide +kernel
theorem dJ9_abs_0f7a4_1 : decode cJ9_abs_0f7a4 1 = .ok (.ifCond .ge 8, 3) := by decide +kernel
theorem dJ9_abs_0f7a4_4 : decode cJ9_abs_0f7a4 4 = .ok (.iload_n 0, 1) := by decide +kernel
theorem dJ9_abs_0f7a4_5 : decode cJ9_abs_0f7a4 5 = .ok (.ineg, 1) := by decide +kernel
theorem dJ9_abs_0f7a4_6 : decode cJ9_abs_0f7a4 6 = .ok (.goto 4, 3) := by decide +kernel
theorem dJ9_abs_0f7a4_9 : decode cJ9_abs_0f7a4 9 = .ok (.iload_n 0, 1) := by decide +kernel
theorem dJ9_abs_0f7a4_10 : decode cJ9_abs_0f7a4 10 = .ok (.ireturn, 1) := by decide +kernel
theorem dJ9_max_7cf53_0 : decode cJ9_max_7cf53 0 = .ok (.iload_n 0, 1) := by decide +kernel
theorem dJ9_max_7cf53_1 : decode cJ9_max_7cf53 1 = .ok (.iload_n 1, 1) := by decide +kernel
theorem dJ9_max_7cf53_2 : decode cJ9_max_7cf53 2 = .ok (.if_icmp .lt 7, 3) := by decide +kernel
theorem dJ9_max_7cf53_5 : decode cJ9_max_7cf53 5 = .ok (.iload_n 0, 1) := by decide +kernel
theorem dJ9_max_7cf53_6 : decode cJ9_max_7cf53 6 = .ok (.goto 4, 3) := by decide +kernel
theorem dJ9_max_7cf53_9 : decode cJ9_max_7cf53 9 = .ok (.iload_n 1, 1) := by decide +kernel
theorem dJ9_max_7cf53_10 : decode cJ9_max_7cf53 10 = .ok (.ireturn, 1) := by decide +kernel
theorem dJ9_min_7cf53_0 : decode cJ9_min_7cf53 0 = .ok (.iload_n 0, 1) := by decide +kernel
theorem dJ9_min_7cf53_1 : decode cJ9_min_7cf53 1 = .ok (.iload_n 1, 1) := by decide +kernel
theorem dJ9_min_7cf53_2 : decode cJ9_min_7cf53 2 = .ok (.if_icmp .gt 7, 3) := by decide +kernel
theorem dJ9_min_7cf53_5 : decode cJ9_min_7cf53 5 = .ok (.iload_n 0, 1) := by decide +kernel
theorem dJ9_min_7cf53_6 : decode cJ9_min_7cf53 6 = .ok (.goto 4, 3) := by decide +kernel
theorem dJ9_min_7cf53_9 : decode cJ9_min_7cf53 9 = .ok (.iload_n 1, 1) := by decide +kernel
theorem dJ9_min_7cf53_10 : decode cJ9_min_7cf53 10 = .ok (.ireturn, 1) := by decide +kernel
theorem dJ7_fill_53178_0 : decode cJ7_fill_53178 0 = .ok (.iconst 0, 1) := by decide +kernel
theorem dJ7_fill_53178_1 : decode cJ7_fill_53178 1 = .ok (.istore_n 2, 1) := by decide +kernel
theorem dJ7_fill_53178_2 : decode cJ7_fill_53178 2 = .ok (.aload_n 0, 1) := by decide +kernel
theorem dJ7_fill_53178_3 : decode cJ7_fill_53178 3 = .ok (.arraylength, 1) := by decide +kernel
theorem dJ7_fill_53178_4 : decode cJ7_fill_53178 4 = .ok (.istore_n 3, 1) := by decide +kernel
theorem dJ7_fill_53178_5 : decode cJ7_fill_53178 5 = .ok (.iload_n 2, 1) := by decide +kernel
theorem dJ7_fill_53178_6 : decode cJ7_fill_53178 6 = .ok (.iload_n 3, 1) := by decide +kernel
theorem dJ7_fill_53178_7 : decode cJ7_fill_53178 7 = .ok (.if_icmp .ge 13, 3) := by decide +kernel
theorem dJ7_fill_53178_10 : decode cJ7_fill_53178 10 = .ok (.aload_n 0, 1) := by decide +kernel
theorem dJ7_fill_53178_11 : decode cJ7_fill_53178 11 = .ok (.iload_n 2, 1) := by decide +kernel
theorem dJ7_fill_53178_12 : decode cJ7_fill_53178 12 = .ok (.iload_n 1, 1) := by decide +kernel
theorem dJ7_fill_53178_13 : decode cJ7_fill_53178 13 = .ok (.iastore, 1) := by decide +kernel
theorem dJ7_fill_53178_14 : decode cJ7_fill_53178 14 = .ok (.iinc 2 1, 3) := by decide +kernel
theorem dJ7_fill_53178_17 : decode cJ7_fill_53178 17 = .ok (.goto (-12), 3) := by decide +kernel
theorem dJ7_fill_53178_20 : decode cJ7_fill_53178 20 = .ok (.return_, 1) := by decide +kernel
theorem dL_ground_0 : decode cL_ground 0 = .ok (.aload 6, 2) := by decide +kernel
theorem dL_ground_2 : decode cL_ground 2 = .ok (.iconst 0, 1) := by decide +kernel
theorem dL_ground_3 : decode cL_ground 3 = .ok (.aload_n 0, 1) := by decide +kernel
theorem dL_ground_4 : decode cL_ground 4 = .ok (.iload_n 1, 1) := by decide +kernel
theorem dL_ground_5 : decode cL_ground 5 = .ok (.iload_n 2, 1) := by decide +kernel
theorem dL_ground_6 : decode cL_ground 6 = .ok (.iload_n 3, 1) := by decide +kernel
theorem dL_ground_7 : decode cL_ground 7 = .ok (.iload 4, 2) := by decide +kernel
theorem dL_ground_9 : decode cL_ground 9 = .ok (.iload 5, 2) := by decide +kernel
theorem dL_ground_11 : decode cL_ground 11 = .ok (.invokevirtual 7, 3) := by decide +kernel
theorem dL_ground_14 : decode cL_ground 14 = .ok (.i2l, 1) := by decide +kernel
theorem dL_ground_15 : decode cL_ground 15 = .ok (.lastore, 1) := by decide +kernel
theorem dL_ground_16 : decode cL_ground 16 = .ok (.goto 11, 3) := by decide +kernel
theorem dL_ground_19 : decode cL_ground 19 = .ok (.astore 7, 2) := by decide +kernel
theorem dL_ground_21 : decode cL_ground 21 = .ok (.iconst 1, 1) := by decide +kernel
theorem dL_ground_22 : decode cL_ground 22 = .ok (.ireturn, 1) := by decide +kernel
theorem dL_ground_23 : decode cL_ground 23 = .ok (.astore 7, 2) := by decide +kernel
theorem dL_ground_25 : decode cL_ground 25 = .ok (.iconst 2, 1) := by decide +kernel
theorem dL_ground_26 : decode cL_ground 26 = .ok (.ireturn, 1) := by decide +kernel
theorem dL_ground_27 : decode cL_ground 27 = .ok (.iconst 0, 1) := by decide +kernel
theorem dL_ground_28 : decode cL_ground 28 = .ok (.ireturn, 1) := by decide +kernel
theorem dL_chart_0 : decode cL_chart 0 = .ok (.aload 4, 2) := by decide +kernel
theorem dL_chart_2 : decode cL_chart 2 = .ok (.iconst 0, 1) := by decide +kernel
theorem dL_chart_3 : decode cL_chart 3 = .ok (.aload_n 0, 1) := by decide +kernel
theorem dL_chart_4 : decode cL_chart 4 = .ok (.iload_n 1, 1) := by decide +kernel
theorem dL_chart_5 : decode cL_chart 5 = .ok (.iload_n 2, 1) := by decide +kernel
theorem dL_chart_6 : decode cL_chart 6 = .ok (.iload_n 3, 1) := by decide +kernel
theorem dL_chart_7 : decode cL_chart 7 = .ok (.invokevirtual 17, 3) := by decide +kernel
theorem dL_chart_10 : decode cL_chart 10 = .ok (.i2l, 1) := by decide +kernel
theorem dL_chart_11 : decode cL_chart 11 = .ok (.lastore, 1) := by decide +kernel
theorem dL_chart_12 : decode cL_chart 12 = .ok (.goto 7, 3) := by decide +kernel
theorem dL_chart_15 : decode cL_chart 15 = .ok (.astore 5, 2) := by decide +kernel
theorem dL_chart_17 : decode cL_chart 17 = .ok (.iconst 1, 1) := by decide +kernel
theorem dL_chart_18 : decode cL_chart 18 = .ok (.ireturn, 1) := by decide +kernel
theorem dL_chart_19 : decode cL_chart 19 = .ok (.iconst 0, 1) := by decide +kernel
theorem dL_chart_20 : decode cL_chart 20 = .ok (.ireturn, 1) := by decide +kernel
theorem dL_leg_0 : decode cL_leg 0 = .ok (.aload 4, 2) := by decide +kernel
theorem dL_leg_2 : decode cL_leg 2 = .ok (.iconst 0, 1) := by decide +kernel
theorem dL_leg_3 : decode cL_leg 3 = .ok (.aload_n 0, 1) := by decide +kernel
theorem dL_leg_4 : decode cL_leg 4 = .ok (.iload_n 1, 1) := by decide +kernel
theorem dL_leg_5 : decode cL_leg 5 = .ok (.iload_n 2, 1) := by decide +kernel
theorem dL_leg_6 : decode cL_leg 6 = .ok (.iload_n 3, 1) := by decide +kernel
theorem dL_leg_7 : decode cL_leg 7 = .ok (.invokevirtual 21, 3) := by decide +kernel
theorem dL_leg_10 : decode cL_leg 10 = .ok (.i2l, 1) := by decide +kernel
theorem dL_leg_11 : decode cL_leg 11 = .ok (.lastore, 1) := by decide +kernel
theorem dL_leg_12 : decode cL_leg 12 = .ok (.goto 11, 3) := by decide +kernel
theorem dL_leg_15 : decode cL_leg 15 = .ok (.astore 5, 2) := by decide +kernel
theorem dL_leg_17 : decode cL_leg 17 = .ok (.iconst 1, 1) := by decide +kernel
theorem dL_leg_18 : decode cL_leg 18 = .ok (.ireturn, 1) := by decide +kernel
theorem dL_leg_19 : decode cL_leg 19 = .ok (.astore 5, 2) := by decide +kernel
theorem dL_leg_21 : decode cL_leg 21 = .ok (.iconst 2, 1) := by decide +kernel
theorem dL_leg_22 : decode cL_leg 22 = .ok (.ireturn, 1) := by decide +kernel
theorem dL_leg_23 : decode cL_leg 23 = .ok (.iconst 0, 1) := by decide +kernel
theorem dL_leg_24 : decode cL_leg 24 = .ok (.ireturn, 1) := by decide +kernel
theorem dL_charge_0 : decode cL_charge 0 = .ok (.aload_n 2, 1) := by decide +kernel
theorem dL_charge_1 : decode cL_charge 1 = .ok (.iconst 0, 1) := by decide +kernel
theorem dL_charge_2 : decode cL_charge 2 = .ok (.aload_n 0, 1) := by decide +kernel
theorem dL_charge_3 : decode cL_charge 3 = .ok (.iload_n 1, 1) := by decide +kernel
theorem dL_charge_4 : decode cL_charge 4 = .ok (.invokevirtual 24, 3) := by decide +kernel
theorem dL_charge_7 : decode cL_charge 7 = .ok (.i2l, 1) := by decide +kernel
theorem dL_charge_8 : decode cL_charge 8 = .ok (.lastore, 1) := by decide +kernel
theorem dL_charge_9 : decode cL_charge 9 = .ok (.goto 6, 3) := by decide +kernel
theorem dL_charge_12 : decode cL_charge 12 = .ok (.astore_n 3, 1) := by decide +kernel
theorem dL_charge_13 : decode cL_charge 13 = .ok (.iconst 1, 1) := by decide +kernel
theorem dL_charge_14 : decode cL_charge 14 = .ok (.ireturn, 1) := by decide +kernel
theorem dL_charge_15 : decode cL_charge 15 = .ok (.iconst 0, 1) := by decide +kernel
theorem dL_charge_16 : decode cL_charge 16 = .ok (.ireturn, 1) := by decide +kernel
theorem dL_phase_0 : decode cL_phase 0 = .ok (.aload 6, 2) := by decide +kernel
theorem dL_phase_2 : decode cL_phase 2 = .ok (.iconst 0, 1) := by decide +kernel
theorem dL_phase_3 : decode cL_phase 3 = .ok (.aload_n 0, 1) := by decide +kernel
theorem dL_phase_4 : decode cL_phase 4 = .ok (.iload_n 1, 1) := by decide +kernel
theorem dL_phase_5 : decode cL_phase 5 = .ok (.iload_n 2, 1) := by decide +kernel
theorem dL_phase_6 : decode cL_phase 6 = .ok (.iload_n 3, 1) := by decide +kernel
theorem dL_phase_7 : decode cL_phase 7 = .ok (.iload 4, 2) := by decide +kernel
theorem dL_phase_9 : decode cL_phase 9 = .ok (.iload 5, 2) := by decide +kernel
theorem dL_phase_11 : decode cL_phase 11 = .ok (.invokevirtual 28, 3) := by decide +kernel
theorem dL_phase_14 : decode cL_phase 14 = .ok (.i2l, 1) := by decide +kernel
theorem dL_phase_15 : decode cL_phase 15 = .ok (.lastore, 1) := by decide +kernel
theorem dL_phase_16 : decode cL_phase 16 = .ok (.goto 15, 3) := by decide +kernel
theorem dL_phase_19 : decode cL_phase 19 = .ok (.astore 7, 2) := by decide +kernel
theorem dL_phase_21 : decode cL_phase 21 = .ok (.iconst 1, 1) := by decide +kernel
theorem dL_phase_22 : decode cL_phase 22 = .ok (.ireturn, 1) := by decide +kernel
theorem dL_phase_23 : decode cL_phase 23 = .ok (.astore 7, 2) := by decide +kernel
theorem dL_phase_25 : decode cL_phase 25 = .ok (.iconst 2, 1) := by decide +kernel
theorem dL_phase_26 : decode cL_phase 26 = .ok (.ireturn, 1) := by decide +kernel
theorem dL_phase_27 : decode cL_phase 27 = .ok (.astore 7, 2) := by decide +kernel
theorem dL_phase_29 : decode cL_phase 29 = .ok (.iconst 3, 1) := by decide +kernel
theorem dL_phase_30 : decode cL_phase 30 = .ok (.ireturn, 1) := by decide +kernel
theorem dL_phase_31 : decode cL_phase 31 = .ok (.iconst 0, 1) := by decide +kernel
theorem dL_phase_32 : decode cL_phase 32 = .ok (.ireturn, 1) := by decide +kernel
theorem dL_load_0 : decode cL_load 0 = .ok (.aload 4, 2) := by decide +kernel
theorem dL_load_2 : decode cL_load 2 = .ok (.iconst 0, 1) := by decide +kernel
theorem dL_load_3 : decode cL_load 3 = .ok (.aload_n 0, 1) := by decide +kernel
theorem dL_load_4 : decode cL_load 4 = .ok (.iload_n 1, 1) := by decide +kernel
theorem dL_load_5 : decode cL_load 5 = .ok (.iload_n 2, 1) := by decide +kernel
theorem dL_load_6 : decode cL_load 6 = .ok (.iload_n 3, 1) := by decide +kernel
theorem dL_load_7 : decode cL_load 7 = .ok (.invokevirtual 33, 3) := by decide +kernel
theorem dL_load_10 : decode cL_load 10 = .ok (.i2l, 1) := by decide +kernel
theorem dL_load_11 : decode cL_load 11 = .ok (.lastore, 1) := by decide +kernel
theorem dL_load_12 : decode cL_load 12 = .ok (.goto 11, 3) := by decide +kernel
theorem dL_load_15 : decode cL_load 15 = .ok (.astore 5, 2) := by decide +kernel
theorem dL_load_17 : decode cL_load 17 = .ok (.iconst 1, 1) := by decide +kernel
theorem dL_load_18 : decode cL_load 18 = .ok (.ireturn, 1) := by decide +kernel
theorem dL_load_19 : decode cL_load 19 = .ok (.astore 5, 2) := by decide +kernel
theorem dL_load_21 : decode cL_load 21 = .ok (.iconst 2, 1) := by decide +kernel
theorem dL_load_22 : decode cL_load 22 = .ok (.ireturn, 1) := by decide +kernel
theorem dL_load_23 : decode cL_load 23 = .ok (.iconst 0, 1) := by decide +kernel
theorem dL_load_24 : decode cL_load 24 = .ok (.ireturn, 1) := by decide +kernel
theorem dL_rise_0 : decode cL_rise 0 = .ok (.aload_n 1, 1) := by decide +kernel
theorem dL_rise_1 : decode cL_rise 1 = .ok (.iconst 0, 1) := by decide +kernel
theorem dL_rise_2 : decode cL_rise 2 = .ok (.aload_n 0, 1) := by decide +kernel
theorem dL_rise_3 : decode cL_rise 3 = .ok (.invokevirtual 36, 3) := by decide +kernel
theorem dL_rise_6 : decode cL_rise 6 = .ok (.i2l, 1) := by decide +kernel
theorem dL_rise_7 : decode cL_rise 7 = .ok (.lastore, 1) := by decide +kernel
theorem dL_rise_8 : decode cL_rise 8 = .ok (.goto 6, 3) := by decide +kernel
theorem dL_rise_11 : decode cL_rise 11 = .ok (.astore_n 2, 1) := by decide +kernel
theorem dL_rise_12 : decode cL_rise 12 = .ok (.iconst 1, 1) := by decide +kernel
theorem dL_rise_13 : decode cL_rise 13 = .ok (.ireturn, 1) := by decide +kernel
theorem dL_rise_14 : decode cL_rise 14 = .ok (.iconst 0, 1) := by decide +kernel
theorem dL_rise_15 : decode cL_rise 15 = .ok (.ireturn, 1) := by decide +kernel
theorem dL_lift_0 : decode cL_lift 0 = .ok (.aload_n 2, 1) := by decide +kernel
theorem dL_lift_1 : decode cL_lift 1 = .ok (.iconst 0, 1) := by decide +kernel
theorem dL_lift_2 : decode cL_lift 2 = .ok (.aload_n 0, 1) := by decide +kernel
theorem dL_lift_3 : decode cL_lift 3 = .ok (.iload_n 1, 1) := by decide +kernel
theorem dL_lift_4 : decode cL_lift 4 = .ok (.invokevirtual 40, 3) := by decide +kernel
theorem dL_lift_7 : decode cL_lift 7 = .ok (.i2l, 1) := by decide +kernel
theorem dL_lift_8 : decode cL_lift 8 = .ok (.lastore, 1) := by decide +kernel
theorem dL_lift_9 : decode cL_lift 9 = .ok (.goto 9, 3) := by decide +kernel
theorem dL_lift_12 : decode cL_lift 12 = .ok (.astore_n 3, 1) := by decide +kernel
theorem dL_lift_13 : decode cL_lift 13 = .ok (.iconst 1, 1) := by decide +kernel
theorem dL_lift_14 : decode cL_lift 14 = .ok (.ireturn, 1) := by decide +kernel
theorem dL_lift_15 : decode cL_lift 15 = .ok (.astore_n 3, 1) := by decide +kernel
theorem dL_lift_16 : decode cL_lift 16 = .ok (.iconst 2, 1) := by decide +kernel
theorem dL_lift_17 : decode cL_lift 17 = .ok (.ireturn, 1) := by decide +kernel
theorem dL_lift_18 : decode cL_lift 18 = .ok (.iconst 0, 1) := by decide +kernel
theorem dL_lift_19 : decode cL_lift 19 = .ok (.ireturn, 1) := by decide +kernel
theorem dL_place_0 : decode cL_place 0 = .ok (.aload 4, 2) := by decide +kernel
theorem dL_place_2 : decode cL_place 2 = .ok (.iconst 0, 1) := by decide +kernel
theorem dL_place_3 : decode cL_place 3 = .ok (.aload_n 0, 1) := by decide +kernel
theorem dL_place_4 : decode cL_place 4 = .ok (.iload_n 1, 1) := by decide +kernel
theorem dL_place_5 : decode cL_place 5 = .ok (.iload_n 2, 1) := by decide +kernel
theorem dL_place_6 : decode cL_place 6 = .ok (.iload_n 3, 1) := by decide +kernel
theorem dL_place_7 : decode cL_place 7 = .ok (.invokevirtual 43, 3) := by decide +kernel
theorem dL_place_10 : decode cL_place 10 = .ok (.i2l, 1) := by decide +kernel
theorem dL_place_11 : decode cL_place 11 = .ok (.lastore, 1) := by decide +kernel
theorem dL_place_12 : decode cL_place 12 = .ok (.goto 15, 3) := by decide +kernel
theorem dL_place_15 : decode cL_place 15 = .ok (.astore 5, 2) := by decide +kernel
theorem dL_place_17 : decode cL_place 17 = .ok (.iconst 1, 1) := by decide +kernel
theorem dL_place_18 : decode cL_place 18 = .ok (.ireturn, 1) := by decide +kernel
theorem dL_place_19 : decode cL_place 19 = .ok (.astore 5, 2) := by decide +kernel
theorem dL_place_21 : decode cL_place 21 = .ok (.iconst 2, 1) := by decide +kernel
theorem dL_place_22 : decode cL_place 22 = .ok (.ireturn, 1) := by decide +kernel
theorem dL_place_23 : decode cL_place 23 = .ok (.astore 5, 2) := by decide +kernel
theorem dL_place_25 : decode cL_place 25 = .ok (.iconst 3, 1) := by decide +kernel
theorem dL_place_26 : decode cL_place 26 = .ok (.ireturn, 1) := by decide +kernel
theorem dL_place_27 : decode cL_place 27 = .ok (.iconst 0, 1) := by decide +kernel
theorem dL_place_28 : decode cL_place 28 = .ok (.ireturn, 1) := by decide +kernel
theorem dL_shift_0 : decode cL_shift 0 = .ok (.aload_n 3, 1) := by decide +kernel
theorem dL_shift_1 : decode cL_shift 1 = .ok (.iconst 0, 1) := by decide +kernel
theorem dL_shift_2 : decode cL_shift 2 = .ok (.aload_n 0, 1) := by decide +kernel
theorem dL_shift_3 : decode cL_shift 3 = .ok (.iload_n 1, 1) := by decide +kernel
theorem dL_shift_4 : decode cL_shift 4 = .ok (.iload_n 2, 1) := by decide +kernel
theorem dL_shift_5 : decode cL_shift 5 = .ok (.invokevirtual 46, 3) := by decide +kernel
theorem dL_shift_8 : decode cL_shift 8 = .ok (.i2l, 1) := by decide +kernel
theorem dL_shift_9 : decode cL_shift 9 = .ok (.lastore, 1) := by decide +kernel
theorem dL_shift_10 : decode cL_shift 10 = .ok (.goto 11, 3) := by decide +kernel
theorem dL_shift_13 : decode cL_shift 13 = .ok (.astore 4, 2) := by decide +kernel
theorem dL_shift_15 : decode cL_shift 15 = .ok (.iconst 1, 1) := by decide +kernel
theorem dL_shift_16 : decode cL_shift 16 = .ok (.ireturn, 1) := by decide +kernel
theorem dL_shift_17 : decode cL_shift 17 = .ok (.astore 4, 2) := by decide +kernel
theorem dL_shift_19 : decode cL_shift 19 = .ok (.iconst 2, 1) := by decide +kernel
theorem dL_shift_20 : decode cL_shift 20 = .ok (.ireturn, 1) := by decide +kernel
theorem dL_shift_21 : decode cL_shift 21 = .ok (.iconst 0, 1) := by decide +kernel
theorem dL_shift_22 : decode cL_shift 22 = .ok (.ireturn, 1) := by decide +kernel
theorem dL_walk_0 : decode cL_walk 0 = .ok (.aload_n 2, 1) := by decide +kernel
theorem dL_walk_1 : decode cL_walk 1 = .ok (.iconst 0, 1) := by decide +kernel
theorem dL_walk_2 : decode cL_walk 2 = .ok (.aload_n 0, 1) := by decide +kernel
theorem dL_walk_3 : decode cL_walk 3 = .ok (.iload_n 1, 1) := by decide +kernel
theorem dL_walk_4 : decode cL_walk 4 = .ok (.invokevirtual 50, 3) := by decide +kernel
theorem dL_walk_7 : decode cL_walk 7 = .ok (.i2l, 1) := by decide +kernel
theorem dL_walk_8 : decode cL_walk 8 = .ok (.lastore, 1) := by decide +kernel
theorem dL_walk_9 : decode cL_walk 9 = .ok (.goto 9, 3) := by decide +kernel
theorem dL_walk_12 : decode cL_walk 12 = .ok (.astore_n 3, 1) := by decide +kernel
theorem dL_walk_13 : decode cL_walk 13 = .ok (.iconst 1, 1) := by decide +kernel
theorem dL_walk_14 : decode cL_walk 14 = .ok (.ireturn, 1) := by decide +kernel
theorem dL_walk_15 : decode cL_walk 15 = .ok (.astore_n 3, 1) := by decide +kernel
theorem dL_walk_16 : decode cL_walk 16 = .ok (.iconst 2, 1) := by decide +kernel
theorem dL_walk_17 : decode cL_walk 17 = .ok (.ireturn, 1) := by decide +kernel
theorem dL_walk_18 : decode cL_walk 18 = .ok (.iconst 0, 1) := by decide +kernel
theorem dL_walk_19 : decode cL_walk 19 = .ok (.ireturn, 1) := by decide +kernel
theorem dL_machine_0 : decode cL_machine 0 = .ok (.aload_n 2, 1) := by decide +kernel
theorem dL_machine_1 : decode cL_machine 1 = .ok (.iconst 0, 1) := by decide +kernel
theorem dL_machine_2 : decode cL_machine 2 = .ok (.aload_n 0, 1) := by decide +kernel
theorem dL_machine_3 : decode cL_machine 3 = .ok (.iload_n 1, 1) := by decide +kernel
theorem dL_machine_4 : decode cL_machine 4 = .ok (.invokevirtual 53, 3) := by decide +kernel
theorem dL_machine_7 : decode cL_machine 7 = .ok (.i2l, 1) := by decide +kernel
theorem dL_machine_8 : decode cL_machine 8 = .ok (.lastore, 1) := by decide +kernel
theorem dL_machine_9 : decode cL_machine 9 = .ok (.goto 6, 3) := by decide +kernel
theorem dL_machine_12 : decode cL_machine 12 = .ok (.astore_n 3, 1) := by decide +kernel
theorem dL_machine_13 : decode cL_machine 13 = .ok (.iconst 1, 1) := by decide +kernel
theorem dL_machine_14 : decode cL_machine 14 = .ok (.ireturn, 1) := by decide +kernel
theorem dL_machine_15 : decode cL_machine 15 = .ok (.iconst 0, 1) := by decide +kernel
theorem dL_machine_16 : decode cL_machine 16 = .ok (.ireturn, 1) := by decide +kernel
theorem dL_foot_0 : decode cL_foot 0 = .ok (.aload_n 3, 1) := by decide +kernel
theorem dL_foot_1 : decode cL_foot 1 = .ok (.iconst 0, 1) := by decide +kernel
theorem dL_foot_2 : decode cL_foot 2 = .ok (.aload_n 0, 1) := by decide +kernel
theorem dL_foot_3 : decode cL_foot 3 = .ok (.iload_n 1, 1) := by decide +kernel
theorem dL_foot_4 : decode cL_foot 4 = .ok (.iload_n 2, 1) := by decide +kernel
theorem dL_foot_5 : decode cL_foot 5 = .ok (.invokevirtual 56, 3) := by decide +kernel
theorem dL_foot_8 : decode cL_foot 8 = .ok (.i2l, 1) := by decide +kernel
theorem dL_foot_9 : decode cL_foot 9 = .ok (.lastore, 1) := by decide +kernel
theorem dL_foot_10 : decode cL_foot 10 = .ok (.goto 11, 3) := by decide +kernel
theorem dL_foot_13 : decode cL_foot 13 = .ok (.astore 4, 2) := by decide +kernel
theorem dL_foot_15 : decode cL_foot 15 = .ok (.iconst 1, 1) := by decide +kernel
theorem dL_foot_16 : decode cL_foot 16 = .ok (.ireturn, 1) := by decide +kernel
theorem dL_foot_17 : decode cL_foot 17 = .ok (.astore 4, 2) := by decide +kernel
theorem dL_foot_19 : decode cL_foot 19 = .ok (.iconst 2, 1) := by decide +kernel
theorem dL_foot_20 : decode cL_foot 20 = .ok (.ireturn, 1) := by decide +kernel
theorem dL_foot_21 : decode cL_foot 21 = .ok (.iconst 0, 1) := by decide +kernel
theorem dL_foot_22 : decode cL_foot 22 = .ok (.ireturn, 1) := by decide +kernel
theorem dL_point_0 : decode cL_point 0 = .ok (.aload 4, 2) := by decide +kernel
theorem dL_point_2 : decode cL_point 2 = .ok (.iconst 0, 1) := by decide +kernel
theorem dL_point_3 : decode cL_point 3 = .ok (.aload_n 0, 1) := by decide +kernel
theorem dL_point_4 : decode cL_point 4 = .ok (.iload_n 1, 1) := by decide +kernel
theorem dL_point_5 : decode cL_point 5 = .ok (.iload_n 2, 1) := by decide +kernel
theorem dL_point_6 : decode cL_point 6 = .ok (.iload_n 3, 1) := by decide +kernel
theorem dL_point_7 : decode cL_point 7 = .ok (.invokevirtual 59, 3) := by decide +kernel
theorem dL_point_10 : decode cL_point 10 = .ok (.i2l, 1) := by decide +kernel
theorem dL_point_11 : decode cL_point 11 = .ok (.lastore, 1) := by decide +kernel
theorem dL_point_12 : decode cL_point 12 = .ok (.goto 7, 3) := by decide +kernel
theorem dL_point_15 : decode cL_point 15 = .ok (.astore 5, 2) := by decide +kernel
theorem dL_point_17 : decode cL_point 17 = .ok (.iconst 1, 1) := by decide +kernel
theorem dL_point_18 : decode cL_point 18 = .ok (.ireturn, 1) := by decide +kernel
theorem dL_point_19 : decode cL_point 19 = .ok (.iconst 0, 1) := by decide +kernel
theorem dL_point_20 : decode cL_point 20 = .ok (.ireturn, 1) := by decide +kernel
theorem dL_corner_0 : decode cL_corner 0 = .ok (.aload_n 2, 1) := by decide +kernel
theorem dL_corner_1 : decode cL_corner 1 = .ok (.iconst 0, 1) := by decide +kernel
theorem dL_corner_2 : decode cL_corner 2 = .ok (.aload_n 0, 1) := by decide +kernel
theorem dL_corner_3 : decode cL_corner 3 = .ok (.iload_n 1, 1) := by decide +kernel
theorem dL_corner_4 : decode cL_corner 4 = .ok (.invokevirtual 62, 3) := by decide +kernel
theorem dL_corner_7 : decode cL_corner 7 = .ok (.i2l, 1) := by decide +kernel
theorem dL_corner_8 : decode cL_corner 8 = .ok (.lastore, 1) := by decide +kernel
theorem dL_corner_9 : decode cL_corner 9 = .ok (.goto 6, 3) := by decide +kernel
theorem dL_corner_12 : decode cL_corner 12 = .ok (.astore_n 3, 1) := by decide +kernel
theorem dL_corner_13 : decode cL_corner 13 = .ok (.iconst 1, 1) := by decide +kernel
theorem dL_corner_14 : decode cL_corner 14 = .ok (.ireturn, 1) := by decide +kernel
theorem dL_corner_15 : decode cL_corner 15 = .ok (.iconst 0, 1) := by decide +kernel
theorem dL_corner_16 : decode cL_corner 16 = .ok (.ireturn, 1) := by decide +kernel
theorem dL_foothold_0 : decode cL_foothold 0 = .ok (.aload_n 2, 1) := by decide +kernel
theorem dL_foothold_1 : decode cL_foothold 1 = .ok (.iconst 0, 1) := by decide +kernel
theorem dL_foothold_2 : decode cL_foothold 2 = .ok (.aload_n 0, 1) := by decide +kernel
theorem dL_foothold_3 : decode cL_foothold 3 = .ok (.iload_n 1, 1) := by decide +kernel
theorem dL_foothold_4 : decode cL_foothold 4 = .ok (.invokevirtual 65, 3) := by decide +kernel
theorem dL_foothold_7 : decode cL_foothold 7 = .ok (.i2l, 1) := by decide +kernel
theorem dL_foothold_8 : decode cL_foothold 8 = .ok (.lastore, 1) := by decide +kernel
theorem dL_foothold_9 : decode cL_foothold 9 = .ok (.goto 6, 3) := by decide +kernel
theorem dL_foothold_12 : decode cL_foothold 12 = .ok (.astore_n 3, 1) := by decide +kernel
theorem dL_foothold_13 : decode cL_foothold 13 = .ok (.iconst 1, 1) := by decide +kernel
theorem dL_foothold_14 : decode cL_foothold 14 = .ok (.ireturn, 1) := by decide +kernel
theorem dL_foothold_15 : decode cL_foothold 15 = .ok (.iconst 0, 1) := by decide +kernel
theorem dL_foothold_16 : decode cL_foothold 16 = .ok (.ireturn, 1) := by decide +kernel
theorem dL_wouldLift_0 : decode cL_wouldLift 0 = .ok (.aload_n 2, 1) := by decide +kernel
theorem dL_wouldLift_1 : decode cL_wouldLift 1 = .ok (.iconst 0, 1) := by decide +kernel
theorem dL_wouldLift_2 : decode cL_wouldLift 2 = .ok (.aload_n 0, 1) := by decide +kernel
theorem dL_wouldLift_3 : decode cL_wouldLift 3 = .ok (.iload_n 1, 1) := by decide +kernel
theorem dL_wouldLift_4 : decode cL_wouldLift 4 = .ok (.invokevirtual 68, 3) := by decide +kernel
theorem dL_wouldLift_7 : decode cL_wouldLift 7 = .ok (.i2l, 1) := by decide +kernel
theorem dL_wouldLift_8 : decode cL_wouldLift 8 = .ok (.lastore, 1) := by decide +kernel
theorem dL_wouldLift_9 : decode cL_wouldLift 9 = .ok (.goto 6, 3) := by decide +kernel
theorem dL_wouldLift_12 : decode cL_wouldLift 12 = .ok (.astore_n 3, 1) := by decide +kernel
theorem dL_wouldLift_13 : decode cL_wouldLift 13 = .ok (.iconst 1, 1) := by decide +kernel
theorem dL_wouldLift_14 : decode cL_wouldLift 14 = .ok (.ireturn, 1) := by decide +kernel
theorem dL_wouldLift_15 : decode cL_wouldLift 15 = .ok (.iconst 0, 1) := by decide +kernel
theorem dL_wouldLift_16 : decode cL_wouldLift 16 = .ok (.ireturn, 1) := by decide +kernel
theorem dL_fewest_0 : decode cL_fewest 0 = .ok (.aload_n 3, 1) := by decide +kernel
theorem dL_fewest_1 : decode cL_fewest 1 = .ok (.iconst 0, 1) := by decide +kernel
theorem dL_fewest_2 : decode cL_fewest 2 = .ok (.aload_n 0, 1) := by decide +kernel
theorem dL_fewest_3 : decode cL_fewest 3 = .ok (.iload_n 1, 1) := by decide +kernel
theorem dL_fewest_4 : decode cL_fewest 4 = .ok (.iload_n 2, 1) := by decide +kernel
theorem dL_fewest_5 : decode cL_fewest 5 = .ok (.invokevirtual 71, 3) := by decide +kernel
theorem dL_fewest_8 : decode cL_fewest 8 = .ok (.i2l, 1) := by decide +kernel
theorem dL_fewest_9 : decode cL_fewest 9 = .ok (.lastore, 1) := by decide +kernel
theorem dL_fewest_10 : decode cL_fewest 10 = .ok (.goto 7, 3) := by decide +kernel
theorem dL_fewest_13 : decode cL_fewest 13 = .ok (.astore 4, 2) := by decide +kernel
theorem dL_fewest_15 : decode cL_fewest 15 = .ok (.iconst 1, 1) := by decide +kernel
theorem dL_fewest_16 : decode cL_fewest 16 = .ok (.ireturn, 1) := by decide +kernel
theorem dL_fewest_17 : decode cL_fewest 17 = .ok (.iconst 0, 1) := by decide +kernel
theorem dL_fewest_18 : decode cL_fewest 18 = .ok (.ireturn, 1) := by decide +kernel
theorem dL_fewestAnew_0 : decode cL_fewestAnew 0 = .ok (.aload_n 3, 1) := by decide +kernel
theorem dL_fewestAnew_1 : decode cL_fewestAnew 1 = .ok (.iconst 0, 1) := by decide +kernel
theorem dL_fewestAnew_2 : decode cL_fewestAnew 2 = .ok (.aload_n 0, 1) := by decide +kernel
theorem dL_fewestAnew_3 : decode cL_fewestAnew 3 = .ok (.iload_n 1, 1) := by decide +kernel
theorem dL_fewestAnew_4 : decode cL_fewestAnew 4 = .ok (.iload_n 2, 1) := by decide +kernel
theorem dL_fewestAnew_5 : decode cL_fewestAnew 5 = .ok (.invokevirtual 74, 3) := by decide +kernel
theorem dL_fewestAnew_8 : decode cL_fewestAnew 8 = .ok (.i2l, 1) := by decide +kernel
theorem dL_fewestAnew_9 : decode cL_fewestAnew 9 = .ok (.lastore, 1) := by decide +kernel
theorem dL_fewestAnew_10 : decode cL_fewestAnew 10 = .ok (.goto 7, 3) := by decide +kernel
theorem dL_fewestAnew_13 : decode cL_fewestAnew 13 = .ok (.astore 4, 2) := by decide +kernel
theorem dL_fewestAnew_15 : decode cL_fewestAnew 15 = .ok (.iconst 1, 1) := by decide +kernel
theorem dL_fewestAnew_16 : decode cL_fewestAnew 16 = .ok (.ireturn, 1) := by decide +kernel
theorem dL_fewestAnew_17 : decode cL_fewestAnew 17 = .ok (.iconst 0, 1) := by decide +kernel
theorem dL_fewestAnew_18 : decode cL_fewestAnew 18 = .ok (.ireturn, 1) := by decide +kernel
theorem dL_fall_0 : decode cL_fall 0 = .ok (.aload_n 3, 1) := by decide +kernel
theorem dL_fall_1 : decode cL_fall 1 = .ok (.iconst 0, 1) := by decide +kernel
theorem dL_fall_2 : decode cL_fall 2 = .ok (.aload_n 0, 1) := by decide +kernel
theorem dL_fall_3 : decode cL_fall 3 = .ok (.iload_n 1, 1) := by decide +kernel
theorem dL_fall_4 : decode cL_fall 4 = .ok (.iload_n 2, 1) := by decide +kernel
theorem dL_fall_5 : decode cL_fall 5 = .ok (.invokevirtual 77, 3) := by decide +kernel
theorem dL_fall_8 : decode cL_fall 8 = .ok (.i2l, 1) := by decide +kernel
theorem dL_fall_9 : decode cL_fall 9 = .ok (.lastore, 1) := by decide +kernel
theorem dL_fall_10 : decode cL_fall 10 = .ok (.goto 11, 3) := by decide +kernel
theorem dL_fall_13 : decode cL_fall 13 = .ok (.astore 4, 2) := by decide +kernel
theorem dL_fall_15 : decode cL_fall 15 = .ok (.iconst 1, 1) := by decide +kernel
theorem dL_fall_16 : decode cL_fall 16 = .ok (.ireturn, 1) := by decide +kernel
theorem dL_fall_17 : decode cL_fall 17 = .ok (.astore 4, 2) := by decide +kernel
theorem dL_fall_19 : decode cL_fall 19 = .ok (.iconst 2, 1) := by decide +kernel
theorem dL_fall_20 : decode cL_fall 20 = .ok (.ireturn, 1) := by decide +kernel
theorem dL_fall_21 : decode cL_fall 21 = .ok (.iconst 0, 1) := by decide +kernel
theorem dL_fall_22 : decode cL_fall 22 = .ok (.ireturn, 1) := by decide +kernel
