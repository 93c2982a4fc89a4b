-- decode rows of the class, by program
def RJ6 : String := "java/lang/Integer"
abbrev cJ6_bitCount_0f7a4 : ByteArray := prog_12_method_49_code
def yJ6_bitCount_0f7a4 : MethodName := ⟨RJ6, "bitCount", "(I)I"⟩
theorem dX0_init_0 : decode cX0_init 0 = .ok (.aload_n 0, 1) := by decide +kernel
theorem dX0_init_1 : decode cX0_init 1 = .ok (.invokespecial 3, 3) := by decide +kernel
theorem dX0_init_4 : decode cX0_init 4 = .ok (.aload_n 0, 1) := by decide +kernel
theorem dX0_init_5 : decode cX0_init 5 = .ok (.sipush 480, 3) := by decide +kernel
theorem dX0_init_8 : decode cX0_init 8 = .ok (.newarray .int, 2) := by decide +kernel
theorem dX0_init_10 : decode cX0_init 10 = .ok (.putfield 11, 3) := by decide +kernel
theorem dX0_init_13 : decode cX0_init 13 = .ok (.return_, 1) := by decide +kernel
theorem dX0_get_0 : decode cX0_get 0 = .ok (.aload_n 0, 1) := by decide +kernel
theorem dX0_get_1 : decode cX0_get 1 = .ok (.getfield 11, 3) := by decide +kernel
theorem dX0_get_4 : decode cX0_get 4 = .ok (.iload_n 1, 1) := by decide +kernel
theorem dX0_get_5 : decode cX0_get 5 = .ok (.bipush 24, 2) := by decide +kernel
theorem dX0_get_7 : decode cX0_get 7 = .ok (.imul, 1) := by decide +kernel
theorem dX0_get_8 : decode cX0_get 8 = .ok (.iload_n 2, 1) := by decide +kernel
theorem dX0_get_9 : decode cX0_get 9 = .ok (.iadd, 1) := by decide +kernel
theorem dX0_get_10 : decode cX0_get 10 = .ok (.iaload, 1) := by decide +kernel
theorem dX0_get_11 : decode cX0_get 11 = .ok (.ireturn, 1) := by decide +kernel
theorem dX0_put_0 : decode cX0_put 0 = .ok (.aload_n 0, 1) := by decide +kernel
theorem dX0_put_1 : decode cX0_put 1 = .ok (.getfield 11, 3) := by decide +kernel
theorem dX0_put_4 : decode cX0_put 4 = .ok (.iload_n 1, 1) := by decide +kernel
theorem dX0_put_5 : decode cX0_put 5 = .ok (.bipush 24, 2) := by decide +kernel
theorem dX0_put_7 : decode cX0_put 7 = .ok (.imul, 1) := by decide +kernel
theorem dX0_put_8 : decode cX0_put 8 = .ok (.iload_n 2, 1) := by decide +kernel
theorem dX0_put_9 : decode cX0_put 9 = .ok (.iadd, 1) := by decide +kernel
theorem dX0_put_10 : decode cX0_put 10 = .ok (.iload_n 3, 1) := by decide +kernel
theorem dX0_put_11 : decode cX0_put 11 = .ok (.iastore, 1) := by decide +kernel
theorem dX0_put_12 : decode cX0_put 12 = .ok (.return_, 1) := by decide +kernel
theorem dX0_add_0 : decode cX0_add 0 = .ok (.aload_n 0, 1) := by decide +kernel
theorem dX0_add_1 : decode cX0_add 1 = .ok (.getfield 11, 3) := by decide +kernel
theorem dX0_add_4 : decode cX0_add 4 = .ok (.iload_n 1, 1) := by decide +kernel
theorem dX0_add_5 : decode cX0_add 5 = .ok (.bipush 24, 2) := by decide +kernel
theorem dX0_add_7 : decode cX0_add 7 = .ok (.imul, 1) := by decide +kernel
theorem dX0_add_8 : decode cX0_add 8 = .ok (.iload_n 2, 1) := by decide +kernel
theorem dX0_add_9 : decode cX0_add 9 = .ok (.iadd, 1) := by decide +kernel
theorem dX0_add_10 : decode cX0_add 10 = .ok (.dup2, 1) := by decide +kernel
theorem dX0_add_11 : decode cX0_add 11 = .ok (.iaload, 1) := by decide +kernel
theorem dX0_add_12 : decode cX0_add 12 = .ok (.iload_n 3, 1) := by decide +kernel
theorem dX0_add_13 : decode cX0_add 13 = .ok (.iadd, 1) := by decide +kernel
theorem dX0_add_14 : decode cX0_add 14 = .ok (.iastore, 1) := by decide +kernel
theorem dX0_add_15 : decode cX0_add 15 = .ok (.return_, 1) := by decide +kernel
theorem dX0_copyFrom_0 : decode cX0_copyFrom 0 = .ok (.aload_n 0, 1) := by decide +kernel
theorem dX0_copyFrom_1 : decode cX0_copyFrom 1 = .ok (.aload_n 1, 1) := by decide +kernel
theorem dX0_copyFrom_2 : decode cX0_copyFrom 2 = .ok (.getfield 15, 3) := by decide +kernel
theorem dX0_copyFrom_5 : decode cX0_copyFrom 5 = .ok (.putfield 15, 3) := by decide +kernel
theorem dX0_copyFrom_8 : decode cX0_copyFrom 8 = .ok (.aload_n 1, 1) := by decide +kernel
theorem dX0_copyFrom_9 : decode cX0_copyFrom 9 = .ok (.getfield 11, 3) := by decide +kernel
theorem dX0_copyFrom_12 : decode cX0_copyFrom 12 = .ok (.iconst 0, 1) := by decide +kernel
theorem dX0_copyFrom_13 : decode cX0_copyFrom 13 = .ok (.aload_n 0, 1) := by decide +kernel
theorem dX0_copyFrom_14 : decode cX0_copyFrom 14 = .ok (.getfield 11, 3) := by decide +kernel
theorem dX0_copyFrom_17 : decode cX0_copyFrom 17 = .ok (.iconst 0, 1) := by decide +kernel
theorem dX0_copyFrom_18 : decode cX0_copyFrom 18 = .ok (.aload_n 0, 1) := by decide +kernel
theorem dX0_copyFrom_19 : decode cX0_copyFrom 19 = .ok (.getfield 11, 3) := by decide +kernel
theorem dX0_copyFrom_22 : decode cX0_copyFrom 22 = .ok (.arraylength, 1) := by decide +kernel
theorem dX0_copyFrom_23 : decode cX0_copyFrom 23 = .ok (.invokestatic 19, 3) := by decide +kernel
theorem dX0_copyFrom_26 : decode cX0_copyFrom 26 = .ok (.return_, 1) := by decide +kernel
theorem dX0_sum_0 : decode cX0_sum 0 = .ok (.iconst 0, 1) := by decide +kernel
theorem dX0_sum_1 : decode cX0_sum 1 = .ok (.istore_n 2, 1) := by decide +kernel
theorem dX0_sum_2 : decode cX0_sum 2 = .ok (.iconst 0, 1) := by decide +kernel
theorem dX0_sum_3 : decode cX0_sum 3 = .ok (.istore_n 3, 1) := by decide +kernel
theorem dX0_sum_4 : decode cX0_sum 4 = .ok (.iload_n 3, 1) := by decide +kernel
theorem dX0_sum_5 : decode cX0_sum 5 = .ok (.aload_n 0, 1) := by decide +kernel
theorem dX0_sum_6 : decode cX0_sum 6 = .ok (.getfield 15, 3) := by decide +kernel
theorem dX0_sum_9 : decode cX0_sum 9 = .ok (.if_icmp .ge 18, 3) := by decide +kernel
theorem dX0_sum_12 : decode cX0_sum 12 = .ok (.iload_n 2, 1) := by decide +kernel
theorem dX0_sum_13 : decode cX0_sum 13 = .ok (.aload_n 0, 1) := by decide +kernel
theorem dX0_sum_14 : decode cX0_sum 14 = .ok (.iload_n 1, 1) := by decide +kernel
theorem dX0_sum_15 : decode cX0_sum 15 = .ok (.iload_n 3, 1) := by decide +kernel
theorem dX0_sum_16 : decode cX0_sum 16 = .ok (.invokevirtual 25, 3) := by decide +kernel
theorem dX0_sum_19 : decode cX0_sum 19 = .ok (.iadd, 1) := by decide +kernel
theorem dX0_sum_20 : decode cX0_sum 20 = .ok (.istore_n 2, 1) := by decide +kernel
theorem dX0_sum_21 : decode cX0_sum 21 = .ok (.iinc 3 1, 3) := by decide +kernel
theorem dX0_sum_24 : decode cX0_sum 24 = .ok (.goto (-20), 3) := by decide +kernel
theorem dX0_sum_27 : decode cX0_sum 27 = .ok (.iload_n 2, 1) := by decide +kernel
theorem dX0_sum_28 : decode cX0_sum 28 = .ok (.ireturn, 1) := by decide +kernel
theorem dX0_numberOf_0 : decode cX0_numberOf 0 = .ok (.iconst 0, 1) := by decide +kernel
theorem dX0_numberOf_1 : decode cX0_numberOf 1 = .ok (.istore 6, 2) := by decide +kernel
theorem dX0_numberOf_3 : decode cX0_numberOf 3 = .ok (.iload 6, 2) := by decide +kernel
theorem dX0_numberOf_5 : decode cX0_numberOf 5 = .ok (.aload_n 0, 1) := by decide +kernel
theorem dX0_numberOf_6 : decode cX0_numberOf 6 = .ok (.getfield 15, 3) := by decide +kernel
theorem dX0_numberOf_9 : decode cX0_numberOf 9 = .ok (.if_icmp .ge 69, 3) := by decide +kernel
theorem dX0_numberOf_12 : decode cX0_numberOf 12 = .ok (.aload_n 0, 1) := by decide +kernel
theorem dX0_numberOf_13 : decode cX0_numberOf 13 = .ok (.iconst 0, 1) := by decide +kernel
theorem dX0_numberOf_14 : decode cX0_numberOf 14 = .ok (.iload 6, 2) := by decide +kernel
theorem dX0_numberOf_16 : decode cX0_numberOf 16 = .ok (.invokevirtual 25, 3) := by decide +kernel
theorem dX0_numberOf_19 : decode cX0_numberOf 19 = .ok (.iload_n 1, 1) := by decide +kernel
theorem dX0_numberOf_20 : decode cX0_numberOf 20 = .ok (.if_icmp .ne 52, 3) := by decide +kernel
theorem dX0_numberOf_23 : decode cX0_numberOf 23 = .ok (.aload_n 0, 1) := by decide +kernel
theorem dX0_numberOf_24 : decode cX0_numberOf 24 = .ok (.iconst 1, 1) := by decide +kernel
theorem dX0_numberOf_25 : decode cX0_numberOf 25 = .ok (.iload 6, 2) := by decide +kernel
theorem dX0_numberOf_27 : decode cX0_numberOf 27 = .ok (.invokevirtual 25, 3) := by decide +kernel
theorem dX0_numberOf_30 : decode cX0_numberOf 30 = .ok (.iload_n 2, 1) := by decide +kernel
theorem dX0_numberOf_31 : decode cX0_numberOf 31 = .ok (.if_icmp .ne 41, 3) := by decide +kernel
theorem dX0_numberOf_34 : decode cX0_numberOf 34 = .ok (.aload_n 0, 1) := by decide +kernel
theorem dX0_numberOf_35 : decode cX0_numberOf 35 = .ok (.iconst 2, 1) := by decide +kernel
theorem dX0_numberOf_36 : decode cX0_numberOf 36 = .ok (.iload 6, 2) := by decide +kernel
theorem dX0_numberOf_38 : decode cX0_numberOf 38 = .ok (.invokevirtual 25, 3) := by decide +kernel
theorem dX0_numberOf_41 : decode cX0_numberOf 41 = .ok (.iload_n 3, 1) := by decide +kernel
theorem dX0_numberOf_42 : decode cX0_numberOf 42 = .ok (.if_icmp .ne 30, 3) := by decide +kernel
theorem dX0_numberOf_45 : decode cX0_numberOf 45 = .ok (.aload_n 0, 1) := by decide +kernel
theorem dX0_numberOf_46 : decode cX0_numberOf 46 = .ok (.iconst 3, 1) := by decide +kernel
theorem dX0_numberOf_47 : decode cX0_numberOf 47 = .ok (.iload 6, 2) := by decide +kernel
theorem dX0_numberOf_49 : decode cX0_numberOf 49 = .ok (.invokevirtual 25, 3) := by decide +kernel
theorem dX0_numberOf_52 : decode cX0_numberOf 52 = .ok (.iload 4, 2) := by decide +kernel
theorem dX0_numberOf_54 : decode cX0_numberOf 54 = .ok (.if_icmp .ne 18, 3) := by decide +kernel
theorem dX0_numberOf_57 : decode cX0_numberOf 57 = .ok (.aload_n 0, 1) := by decide +kernel
theorem dX0_numberOf_58 : decode cX0_numberOf 58 = .ok (.iconst 4, 1) := by decide +kernel
theorem dX0_numberOf_59 : decode cX0_numberOf 59 = .ok (.iload 6, 2) := by decide +kernel
theorem dX0_numberOf_61 : decode cX0_numberOf 61 = .ok (.invokevirtual 25, 3) := by decide +kernel
theorem dX0_numberOf_64 : decode cX0_numberOf 64 = .ok (.iload 5, 2) := by decide +kernel
theorem dX0_numberOf_66 : decode cX0_numberOf 66 = .ok (.if_icmp .ne 6, 3) := by decide +kernel
theorem dX0_numberOf_69 : decode cX0_numberOf 69 = .ok (.iload 6, 2) := by decide +kernel
theorem dX0_numberOf_71 : decode cX0_numberOf 71 = .ok (.ireturn, 1) := by decide +kernel
theorem dX0_numberOf_72 : decode cX0_numberOf 72 = .ok (.iinc 6 1, 3) := by decide +kernel
theorem dX0_numberOf_75 : decode cX0_numberOf 75 = .ok (.goto (-72), 3) := by decide +kernel
theorem dX0_numberOf_78 : decode cX0_numberOf 78 = .ok (.iconst (-1), 1) := by decide +kernel
theorem dX0_numberOf_79 : decode cX0_numberOf 79 = .ok (.ireturn, 1) := by decide +kernel
theorem dX0_enter_0 : decode cX0_enter 0 = .ok (.aload_n 0, 1) := by decide +kernel
theorem dX0_enter_1 : decode cX0_enter 1 = .ok (.getfield 15, 3) := by decide +kernel
theorem dX0_enter_4 : decode cX0_enter 4 = .ok (.istore 6, 2) := by decide +kernel
theorem dX0_enter_6 : decode cX0_enter 6 = .ok (.aload_n 0, 1) := by decide +kernel
theorem dX0_enter_7 : decode cX0_enter 7 = .ok (.iconst 0, 1) := by decide +kernel
theorem dX0_enter_8 : decode cX0_enter 8 = .ok (.iload 6, 2) := by decide +kernel
theorem dX0_enter_10 : decode cX0_enter 10 = .ok (.iload_n 1, 1) := by decide +kernel
theorem dX0_enter_11 : decode cX0_enter 11 = .ok (.invokevirtual 29, 3) := by decide +kernel
theorem dX0_enter_14 : decode cX0_enter 14 = .ok (.aload_n 0, 1) := by decide +kernel
theorem dX0_enter_15 : decode cX0_enter 15 = .ok (.iconst 1, 1) := by decide +kernel
theorem dX0_enter_16 : decode cX0_enter 16 = .ok (.iload 6, 2) := by decide +kernel
theorem dX0_enter_18 : decode cX0_enter 18 = .ok (.iload_n 2, 1) := by decide +kernel
theorem dX0_enter_19 : decode cX0_enter 19 = .ok (.invokevirtual 29, 3) := by decide +kernel
theorem dX0_enter_22 : decode cX0_enter 22 = .ok (.aload_n 0, 1) := by decide +kernel
theorem dX0_enter_23 : decode cX0_enter 23 = .ok (.iconst 2, 1) := by decide +kernel
theorem dX0_enter_24 : decode cX0_enter 24 = .ok (.iload 6, 2) := by decide +kernel
theorem dX0_enter_26 : decode cX0_enter 26 = .ok (.iload_n 3, 1) := by decide +kernel
theorem dX0_enter_27 : decode cX0_enter 27 = .ok (.invokevirtual 29, 3) := by decide +kernel
theorem dX0_enter_30 : decode cX0_enter 30 = .ok (.aload_n 0, 1) := by decide +kernel
theorem dX0_enter_31 : decode cX0_enter 31 = .ok (.iconst 3, 1) := by decide +kernel
theorem dX0_enter_32 : decode cX0_enter 32 = .ok (.iload 6, 2) := by decide +kernel
theorem dX0_enter_34 : decode cX0_enter 34 = .ok (.iload 4, 2) := by decide +kernel
theorem dX0_enter_36 : decode cX0_enter 36 = .ok (.invokevirtual 29, 3) := by decide +kernel
theorem dX0_enter_39 : decode cX0_enter 39 = .ok (.aload_n 0, 1) := by decide +kernel
theorem dX0_enter_40 : decode cX0_enter 40 = .ok (.iconst 4, 1) := by decide +kernel
theorem dX0_enter_41 : decode cX0_enter 41 = .ok (.iload 6, 2) := by decide +kernel
theorem dX0_enter_43 : decode cX0_enter 43 = .ok (.iload 5, 2) := by decide +kernel
theorem dX0_enter_45 : decode cX0_enter 45 = .ok (.invokevirtual 29, 3) := by decide +kernel
theorem dX0_enter_48 : decode cX0_enter 48 = .ok (.aload_n 0, 1) := by decide +kernel
theorem dX0_enter_49 : decode cX0_enter 49 = .ok (.bipush 7, 2) := by decide +kernel
theorem dX0_enter_51 : decode cX0_enter 51 = .ok (.iload 6, 2) := by decide +kernel
theorem dX0_enter_53 : decode cX0_enter 53 = .ok (.iconst (-1), 1) := by decide +kernel
theorem dX0_enter_54 : decode cX0_enter 54 = .ok (.invokevirtual 29, 3) := by decide +kernel
theorem dX0_enter_57 : decode cX0_enter 57 = .ok (.aload_n 0, 1) := by decide +kernel
theorem dX0_enter_58 : decode cX0_enter 58 = .ok (.bipush 13, 2) := by decide +kernel
theorem dX0_enter_60 : decode cX0_enter 60 = .ok (.iload 6, 2) := by decide +kernel
theorem dX0_enter_62 : decode cX0_enter 62 = .ok (.iconst (-1), 1) := by decide +kernel
theorem dX0_enter_63 : decode cX0_enter 63 = .ok (.invokevirtual 29, 3) := by decide +kernel
theorem dX0_enter_66 : decode cX0_enter 66 = .ok (.aload_n 0, 1) := by decide +kernel
theorem dX0_enter_67 : decode cX0_enter 67 = .ok (.bipush 14, 2) := by decide +kernel
theorem dX0_enter_69 : decode cX0_enter 69 = .ok (.iload 6, 2) := by decide +kernel
theorem dX0_enter_71 : decode cX0_enter 71 = .ok (.iconst (-1), 1) := by decide +kernel
theorem dX0_enter_72 : decode cX0_enter 72 = .ok (.invokevirtual 29, 3) := by decide +kernel
theorem dX0_enter_75 : decode cX0_enter 75 = .ok (.aload_n 0, 1) := by decide +kernel
theorem dX0_enter_76 : decode cX0_enter 76 = .ok (.bipush 17, 2) := by decide +kernel
theorem dX0_enter_78 : decode cX0_enter 78 = .ok (.iload 6, 2) := by decide +kernel
theorem dX0_enter_80 : decode cX0_enter 80 = .ok (.iconst (-1), 1) := by decide +kernel
theorem dX0_enter_81 : decode cX0_enter 81 = .ok (.invokevirtual 29, 3) := by decide +kernel
theorem dX0_enter_84 : decode cX0_enter 84 = .ok (.aload_n 0, 1) := by decide +kernel
theorem dX0_enter_85 : decode cX0_enter 85 = .ok (.dup, 1) := by decide +kernel
theorem dX0_enter_86 : decode cX0_enter 86 = .ok (.getfield 15, 3) := by decide +kernel
theorem dX0_enter_89 : decode cX0_enter 89 = .ok (.iconst 1, 1) := by decide +kernel
theorem dX0_enter_90 : decode cX0_enter 90 = .ok (.iadd, 1) := by decide +kernel
theorem dX0_enter_91 : decode cX0_enter 91 = .ok (.putfield 15, 3) := by decide +kernel
theorem dX0_enter_94 : decode cX0_enter 94 = .ok (.iload 6, 2) := by decide +kernel
theorem dX0_enter_96 : decode cX0_enter 96 = .ok (.ireturn, 1) := by decide +kernel
theorem dX0_nowWaits_0 : decode cX0_nowWaits 0 = .ok (.aload_n 0, 1) := by decide +kernel
theorem dX0_nowWaits_1 : decode cX0_nowWaits 1 = .ok (.bipush 7, 2) := by decide +kernel
theorem dX0_nowWaits_3 : decode cX0_nowWaits 3 = .ok (.iload_n 1, 1) := by decide +kernel
theorem dX0_nowWaits_4 : decode cX0_nowWaits 4 = .ok (.iload_n 2, 1) := by decide +kernel
theorem dX0_nowWaits_5 : decode cX0_nowWaits 5 = .ok (.invokevirtual 29, 3) := by decide +kernel
theorem dX0_nowWaits_8 : decode cX0_nowWaits 8 = .ok (.aload_n 0, 1) := by decide +kernel
theorem dX0_nowWaits_9 : decode cX0_nowWaits 9 = .ok (.bipush 8, 2) := by decide +kernel
theorem dX0_nowWaits_11 : decode cX0_nowWaits 11 = .ok (.iload_n 1, 1) := by decide +kernel
theorem dX0_nowWaits_12 : decode cX0_nowWaits 12 = .ok (.iconst 1, 1) := by decide +kernel
theorem dX0_nowWaits_13 : decode cX0_nowWaits 13 = .ok (.invokevirtual 33, 3) := by decide +kernel
theorem dX0_nowWaits_16 : decode cX0_nowWaits 16 = .ok (.return_, 1) := by decide +kernel
theorem dX0_nowTaken_0 : decode cX0_nowTaken 0 = .ok (.aload_n 0, 1) := by decide +kernel
theorem dX0_nowTaken_1 : decode cX0_nowTaken 1 = .ok (.bipush 8, 2) := by decide +kernel
theorem dX0_nowTaken_3 : decode cX0_nowTaken 3 = .ok (.iload_n 1, 1) := by decide +kernel
theorem dX0_nowTaken_4 : decode cX0_nowTaken 4 = .ok (.iconst (-1), 1) := by decide +kernel
theorem dX0_nowTaken_5 : decode cX0_nowTaken 5 = .ok (.invokevirtual 33, 3) := by decide +kernel
theorem dX0_nowTaken_8 : decode cX0_nowTaken 8 = .ok (.aload_n 0, 1) := by decide +kernel
theorem dX0_nowTaken_9 : decode cX0_nowTaken 9 = .ok (.bipush 8, 2) := by decide +kernel
theorem dX0_nowTaken_11 : decode cX0_nowTaken 11 = .ok (.iload_n 1, 1) := by decide +kernel
theorem dX0_nowTaken_12 : decode cX0_nowTaken 12 = .ok (.invokevirtual 25, 3) := by decide +kernel
theorem dX0_nowTaken_15 : decode cX0_nowTaken 15 = .ok (.ifCond .ne 11, 3) := by decide +kernel
theorem dX0_nowTaken_18 : decode cX0_nowTaken 18 = .ok (.aload_n 0, 1) := by decide +kernel
theorem dX0_nowTaken_19 : decode cX0_nowTaken 19 = .ok (.bipush 7, 2) := by decide +kernel
theorem dX0_nowTaken_21 : decode cX0_nowTaken 21 = .ok (.iload_n 1, 1) := by decide +kernel
theorem dX0_nowTaken_22 : decode cX0_nowTaken 22 = .ok (.iconst (-1), 1) := by decide +kernel
theorem dX0_nowTaken_23 : decode cX0_nowTaken 23 = .ok (.invokevirtual 29, 3) := by decide +kernel
theorem dX0_nowTaken_26 : decode cX0_nowTaken 26 = .ok (.return_, 1) := by decide +kernel
theorem dX0_ruleNumber_0 : decode cX0_ruleNumber 0 = .ok (.iconst 0, 1) := by decide +kernel
theorem dX0_ruleNumber_1 : decode cX0_ruleNumber 1 = .ok (.istore_n 1, 1) := by decide +kernel
theorem dX0_ruleNumber_2 : decode cX0_ruleNumber 2 = .ok (.iconst 0, 1) := by decide +kernel
theorem dX0_ruleNumber_3 : decode cX0_ruleNumber 3 = .ok (.istore_n 2, 1) := by decide +kernel
theorem dX0_ruleNumber_4 : decode cX0_ruleNumber 4 = .ok (.iload_n 2, 1) := by decide +kernel
theorem dX0_ruleNumber_5 : decode cX0_ruleNumber 5 = .ok (.aload_n 0, 1) := by decide +kernel
theorem dX0_ruleNumber_6 : decode cX0_ruleNumber 6 = .ok (.getfield 15, 3) := by decide +kernel
theorem dX0_ruleNumber_9 : decode cX0_ruleNumber 9 = .ok (.if_icmp .ge 23, 3) := by decide +kernel
theorem dX0_ruleNumber_12 : decode cX0_ruleNumber 12 = .ok (.aload_n 0, 1) := by decide +kernel
theorem dX0_ruleNumber_13 : decode cX0_ruleNumber 13 = .ok (.bipush 13, 2) := by decide +kernel
theorem dX0_ruleNumber_15 : decode cX0_ruleNumber 15 = .ok (.iload_n 2, 1) := by decide +kernel
theorem dX0_ruleNumber_16 : decode cX0_ruleNumber 16 = .ok (.invokevirtual 25, 3) := by decide +kernel
theorem dX0_ruleNumber_19 : decode cX0_ruleNumber 19 = .ok (.iconst (-1), 1) := by decide +kernel
theorem dX0_ruleNumber_20 : decode cX0_ruleNumber 20 = .ok (.if_icmp .eq 6, 3) := by decide +kernel
theorem dX0_ruleNumber_23 : decode cX0_ruleNumber 23 = .ok (.iinc 1 1, 3) := by decide +kernel
theorem dX0_ruleNumber_26 : decode cX0_ruleNumber 26 = .ok (.iinc 2 1, 3) := by decide +kernel
theorem dX0_ruleNumber_29 : decode cX0_ruleNumber 29 = .ok (.goto (-25), 3) := by decide +kernel
theorem dX0_ruleNumber_32 : decode cX0_ruleNumber 32 = .ok (.iload_n 1, 1) := by decide +kernel
theorem dX0_ruleNumber_33 : decode cX0_ruleNumber 33 = .ok (.ireturn, 1) := by decide +kernel
theorem dX0_putRule_0 : decode cX0_putRule 0 = .ok (.iconst (-1), 1) := by decide +kernel
theorem dX0_putRule_1 : decode cX0_putRule 1 = .ok (.istore 4, 2) := by decide +kernel
theorem dX0_putRule_3 : decode cX0_putRule 3 = .ok (.aload_n 0, 1) := by decide +kernel
theorem dX0_putRule_4 : decode cX0_putRule 4 = .ok (.bipush 13, 2) := by decide +kernel
theorem dX0_putRule_6 : decode cX0_putRule 6 = .ok (.iload_n 1, 1) := by decide +kernel
theorem dX0_putRule_7 : decode cX0_putRule 7 = .ok (.invokevirtual 25, 3) := by decide +kernel
theorem dX0_putRule_10 : decode cX0_putRule 10 = .ok (.iconst (-1), 1) := by decide +kernel
theorem dX0_putRule_11 : decode cX0_putRule 11 = .ok (.if_icmp .ne 24, 3) := by decide +kernel
theorem dX0_putRule_14 : decode cX0_putRule 14 = .ok (.aload_n 0, 1) := by decide +kernel
theorem dX0_putRule_15 : decode cX0_putRule 15 = .ok (.invokevirtual 36, 3) := by decide +kernel
theorem dX0_putRule_18 : decode cX0_putRule 18 = .ok (.bipush 6, 2) := by decide +kernel
theorem dX0_putRule_20 : decode cX0_putRule 20 = .ok (.if_icmp .lt 15, 3) := by decide +kernel
theorem dX0_putRule_23 : decode cX0_putRule 23 = .ok (.aload_n 0, 1) := by decide +kernel
theorem dX0_putRule_24 : decode cX0_putRule 24 = .ok (.invokevirtual 40, 3) := by decide +kernel
theorem dX0_putRule_27 : decode cX0_putRule 27 = .ok (.istore 4, 2) := by decide +kernel
theorem dX0_putRule_29 : decode cX0_putRule 29 = .ok (.aload_n 0, 1) := by decide +kernel
theorem dX0_putRule_30 : decode cX0_putRule 30 = .ok (.iload 4, 2) := by decide +kernel
theorem dX0_putRule_32 : decode cX0_putRule 32 = .ok (.invokevirtual 43, 3) := by decide +kernel
theorem dX0_putRule_35 : decode cX0_putRule 35 = .ok (.aload_n 0, 1) := by decide +kernel
theorem dX0_putRule_36 : decode cX0_putRule 36 = .ok (.bipush 13, 2) := by decide +kernel
theorem dX0_putRule_38 : decode cX0_putRule 38 = .ok (.iload_n 1, 1) := by decide +kernel
theorem dX0_putRule_39 : decode cX0_putRule 39 = .ok (.iload_n 2, 1) := by decide +kernel
theorem dX0_putRule_40 : decode cX0_putRule 40 = .ok (.invokevirtual 29, 3) := by decide +kernel
theorem dX0_putRule_43 : decode cX0_putRule 43 = .ok (.aload_n 0, 1) := by decide +kernel
theorem dX0_putRule_44 : decode cX0_putRule 44 = .ok (.bipush 14, 2) := by decide +kernel
theorem dX0_putRule_46 : decode cX0_putRule 46 = .ok (.iload_n 1, 1) := by decide +kernel
theorem dX0_putRule_47 : decode cX0_putRule 47 = .ok (.iload_n 3, 1) := by decide +kernel
theorem dX0_putRule_48 : decode cX0_putRule 48 = .ok (.invokevirtual 29, 3) := by decide +kernel
theorem dX0_putRule_51 : decode cX0_putRule 51 = .ok (.iload 4, 2) := by decide +kernel
theorem dX0_putRule_53 : decode cX0_putRule 53 = .ok (.ireturn, 1) := by decide +kernel
theorem dX0_leastUsed_0 : decode cX0_leastUsed 0 = .ok (.iconst (-1), 1) := by decide +kernel
theorem dX0_leastUsed_1 : decode cX0_leastUsed 1 = .ok (.istore_n 1, 1) := by decide +kernel
theorem dX0_leastUsed_2 : decode cX0_leastUsed 2 = .ok (.iconst 0, 1) := by decide +kernel
theorem dX0_leastUsed_3 : decode cX0_leastUsed 3 = .ok (.istore_n 2, 1) := by decide +kernel
theorem dX0_leastUsed_4 : decode cX0_leastUsed 4 = .ok (.iload_n 2, 1) := by decide +kernel
theorem dX0_leastUsed_5 : decode cX0_leastUsed 5 = .ok (.aload_n 0, 1) := by decide +kernel
theorem dX0_leastUsed_6 : decode cX0_leastUsed 6 = .ok (.getfield 15, 3) := by decide +kernel
theorem dX0_leastUsed_9 : decode cX0_leastUsed 9 = .ok (.if_icmp .ge 44, 3) := by decide +kernel
theorem dX0_leastUsed_12 : decode cX0_leastUsed 12 = .ok (.aload_n 0, 1) := by decide +kernel
theorem dX0_leastUsed_13 : decode cX0_leastUsed 13 = .ok (.bipush 13, 2) := by decide +kernel
theorem dX0_leastUsed_15 : decode cX0_leastUsed 15 = .ok (.iload_n 2, 1) := by decide +kernel
theorem dX0_leastUsed_16 : decode cX0_leastUsed 16 = .ok (.invokevirtual 25, 3) := by decide +kernel
theorem dX0_leastUsed_19 : decode cX0_leastUsed 19 = .ok (.iconst (-1), 1) := by decide +kernel
theorem dX0_leastUsed_20 : decode cX0_leastUsed 20 = .ok (.if_icmp .eq 27, 3) := by decide +kernel
theorem dX0_leastUsed_23 : decode cX0_leastUsed 23 = .ok (.iload_n 1, 1) := by decide +kernel
theorem dX0_leastUsed_24 : decode cX0_leastUsed 24 = .ok (.iconst (-1), 1) := by decide +kernel
theorem dX0_leastUsed_25 : decode cX0_leastUsed 25 = .ok (.if_icmp .eq 20, 3) := by decide +kernel
theorem dX0_leastUsed_28 : decode cX0_leastUsed 28 = .ok (.aload_n 0, 1) := by decide +kernel
theorem dX0_leastUsed_29 : decode cX0_leastUsed 29 = .ok (.bipush 14, 2) := by decide +kernel
theorem dX0_leastUsed_31 : decode cX0_leastUsed 31 = .ok (.iload_n 2, 1) := by decide +kernel
theorem dX0_leastUsed_32 : decode cX0_leastUsed 32 = .ok (.invokevirtual 25, 3) := by decide +kernel
theorem dX0_leastUsed_35 : decode cX0_leastUsed 35 = .ok (.aload_n 0, 1) := by decide +kernel
theorem dX0_leastUsed_36 : decode cX0_leastUsed 36 = .ok (.bipush 14, 2) := by decide +kernel
theorem dX0_leastUsed_38 : decode cX0_leastUsed 38 = .ok (.iload_n 1, 1) := by decide +kernel
theorem dX0_leastUsed_39 : decode cX0_leastUsed 39 = .ok (.invokevirtual 25, 3) := by decide +kernel
theorem dX0_leastUsed_42 : decode cX0_leastUsed 42 = .ok (.if_icmp .ge 5, 3) := by decide +kernel
theorem dX0_leastUsed_45 : decode cX0_leastUsed 45 = .ok (.iload_n 2, 1) := by decide +kernel
theorem dX0_leastUsed_46 : decode cX0_leastUsed 46 = .ok (.istore_n 1, 1) := by decide +kernel
theorem dX0_leastUsed_47 : decode cX0_leastUsed 47 = .ok (.iinc 2 1, 3) := by decide +kernel
theorem dX0_leastUsed_50 : decode cX0_leastUsed 50 = .ok (.goto (-46), 3) := by decide +kernel
theorem dX0_leastUsed_53 : decode cX0_leastUsed 53 = .ok (.iload_n 1, 1) := by decide +kernel
theorem dX0_leastUsed_54 : decode cX0_leastUsed 54 = .ok (.ireturn, 1) := by decide +kernel
theorem dX0_dropRule_0 : decode cX0_dropRule 0 = .ok (.iload_n 1, 1) := by decide +kernel
theorem dX0_dropRule_1 : decode cX0_dropRule 1 = .ok (.iconst (-1), 1) := by decide +kernel
theorem dX0_dropRule_2 : decode cX0_dropRule 2 = .ok (.if_icmp .eq 19, 3) := by decide +kernel
theorem dX0_dropRule_5 : decode cX0_dropRule 5 = .ok (.aload_n 0, 1) := by decide +kernel
theorem dX0_dropRule_6 : decode cX0_dropRule 6 = .ok (.bipush 13, 2) := by decide +kernel
theorem dX0_dropRule_8 : decode cX0_dropRule 8 = .ok (.iload_n 1, 1) := by decide +kernel
theorem dX0_dropRule_9 : decode cX0_dropRule 9 = .ok (.iconst (-1), 1) := by decide +kernel
theorem dX0_dropRule_10 : decode cX0_dropRule 10 = .ok (.invokevirtual 29, 3) := by decide +kernel
theorem dX0_dropRule_13 : decode cX0_dropRule 13 = .ok (.aload_n 0, 1) := by decide +kernel
theorem dX0_dropRule_14 : decode cX0_dropRule 14 = .ok (.bipush 14, 2) := by decide +kernel
theorem dX0_dropRule_16 : decode cX0_dropRule 16 = .ok (.iload_n 1, 1) := by decide +kernel
theorem dX0_dropRule_17 : decode cX0_dropRule 17 = .ok (.iconst (-1), 1) := by decide +kernel
theorem dX0_dropRule_18 : decode cX0_dropRule 18 = .ok (.invokevirtual 29, 3) := by decide +kernel
theorem dX0_dropRule_21 : decode cX0_dropRule 21 = .ok (.return_, 1) := by decide +kernel
theorem dX0_dropRulesTo_0 : decode cX0_dropRulesTo 0 = .ok (.iconst 0, 1) := by decide +kernel
theorem dX0_dropRulesTo_1 : decode cX0_dropRulesTo 1 = .ok (.istore_n 2, 1) := by decide +kernel
theorem dX0_dropRulesTo_2 : decode cX0_dropRulesTo 2 = .ok (.iload_n 2, 1) := by decide +kernel
theorem dX0_dropRulesTo_3 : decode cX0_dropRulesTo 3 = .ok (.aload_n 0, 1) := by decide +kernel
theorem dX0_dropRulesTo_4 : decode cX0_dropRulesTo 4 = .ok (.getfield 15, 3) := by decide +kernel
theorem dX0_dropRulesTo_7 : decode cX0_dropRulesTo 7 = .ok (.if_icmp .ge 25, 3) := by decide +kernel
theorem dX0_dropRulesTo_10 : decode cX0_dropRulesTo 10 = .ok (.aload_n 0, 1) := by decide +kernel
theorem dX0_dropRulesTo_11 : decode cX0_dropRulesTo 11 = .ok (.bipush 13, 2) := by decide +kernel
theorem dX0_dropRulesTo_13 : decode cX0_dropRulesTo 13 = .ok (.iload_n 2, 1) := by decide +kernel
theorem dX0_dropRulesTo_14 : decode cX0_dropRulesTo 14 = .ok (.invokevirtual 25, 3) := by decide +kernel
theorem dX0_dropRulesTo_17 : decode cX0_dropRulesTo 17 = .ok (.iload_n 1, 1) := by decide +kernel
theorem dX0_dropRulesTo_18 : decode cX0_dropRulesTo 18 = .ok (.if_icmp .ne 8, 3) := by decide +kernel
theorem dX0_dropRulesTo_21 : decode cX0_dropRulesTo 21 = .ok (.aload_n 0, 1) := by decide +kernel
theorem dX0_dropRulesTo_22 : decode cX0_dropRulesTo 22 = .ok (.iload_n 2, 1) := by decide +kernel
theorem dX0_dropRulesTo_23 : decode cX0_dropRulesTo 23 = .ok (.invokevirtual 43, 3) := by decide +kernel
theorem dX0_dropRulesTo_26 : decode cX0_dropRulesTo 26 = .ok (.iinc 2 1, 3) := by decide +kernel
theorem dX0_dropRulesTo_29 : decode cX0_dropRulesTo 29 = .ok (.goto (-27), 3) := by decide +kernel
theorem dX0_dropRulesTo_32 : decode cX0_dropRulesTo 32 = .ok (.return_, 1) := by decide +kernel
theorem dX0_dropOldRules_0 : decode cX0_dropOldRules 0 = .ok (.iconst 0, 1) := by decide +kernel
theorem dX0_dropOldRules_1 : decode cX0_dropOldRules 1 = .ok (.istore_n 3, 1) := by decide +kernel
theorem dX0_dropOldRules_2 : decode cX0_dropOldRules 2 = .ok (.iload_n 3, 1) := by decide +kernel
theorem dX0_dropOldRules_3 : decode cX0_dropOldRules 3 = .ok (.aload_n 0, 1) := by decide +kernel
theorem dX0_dropOldRules_4 : decode cX0_dropOldRules 4 = .ok (.getfield 15, 3) := by decide +kernel
theorem dX0_dropOldRules_7 : decode cX0_dropOldRules 7 = .ok (.if_icmp .ge 38, 3) := by decide +kernel
theorem dX0_dropOldRules_10 : decode cX0_dropOldRules 10 = .ok (.aload_n 0, 1) := by decide +kernel
theorem dX0_dropOldRules_11 : decode cX0_dropOldRules 11 = .ok (.bipush 13, 2) := by decide +kernel
theorem dX0_dropOldRules_13 : decode cX0_dropOldRules 13 = .ok (.iload_n 3, 1) := by decide +kernel
theorem dX0_dropOldRules_14 : decode cX0_dropOldRules 14 = .ok (.invokevirtual 25, 3) := by decide +kernel
theorem dX0_dropOldRules_17 : decode cX0_dropOldRules 17 = .ok (.iconst (-1), 1) := by decide +kernel
theorem dX0_dropOldRules_18 : decode cX0_dropOldRules 18 = .ok (.if_icmp .eq 21, 3) := by decide +kernel
theorem dX0_dropOldRules_21 : decode cX0_dropOldRules 21 = .ok (.aload_n 0, 1) := by decide +kernel
theorem dX0_dropOldRules_22 : decode cX0_dropOldRules 22 = .ok (.bipush 14, 2) := by decide +kernel
theorem dX0_dropOldRules_24 : decode cX0_dropOldRules 24 = .ok (.iload_n 3, 1) := by decide +kernel
theorem dX0_dropOldRules_25 : decode cX0_dropOldRules 25 = .ok (.invokevirtual 25, 3) := by decide +kernel
theorem dX0_dropOldRules_28 : decode cX0_dropOldRules 28 = .ok (.iload_n 2, 1) := by decide +kernel
theorem dX0_dropOldRules_29 : decode cX0_dropOldRules 29 = .ok (.iadd, 1) := by decide +kernel
theorem dX0_dropOldRules_30 : decode cX0_dropOldRules 30 = .ok (.iload_n 1, 1) := by decide +kernel
theorem dX0_dropOldRules_31 : decode cX0_dropOldRules 31 = .ok (.if_icmp .ge 8, 3) := by decide +kernel
theorem dX0_dropOldRules_34 : decode cX0_dropOldRules 34 = .ok (.aload_n 0, 1) := by decide +kernel
theorem dX0_dropOldRules_35 : decode cX0_dropOldRules 35 = .ok (.iload_n 3, 1) := by decide +kernel
theorem dX0_dropOldRules_36 : decode cX0_dropOldRules 36 = .ok (.invokevirtual 43, 3) := by decide +kernel
theorem dX0_dropOldRules_39 : decode cX0_dropOldRules 39 = .ok (.iinc 3 1, 3) := by decide +kernel
theorem dX0_dropOldRules_42 : decode cX0_dropOldRules 42 = .ok (.goto (-40), 3) := by decide +kernel
theorem dX0_dropOldRules_45 : decode cX0_dropOldRules 45 = .ok (.return_, 1) := by decide +kernel
theorem dX1_init_0 : decode cX1_init 0 = .ok (.aload_n 0, 1) := by decide +kernel
theorem dX1_init_1 : decode cX1_init 1 = .ok (.invokespecial 3, 3) := by decide +kernel
theorem dX1_init_4 : decode cX1_init 4 = .ok (.aload_n 0, 1) := by decide +kernel
theorem dX1_init_5 : decode cX1_init 5 = .ok (.bipush 8, 2) := by decide +kernel
theorem dX1_init_7 : decode cX1_init 7 = .ok (.anewarray 9, 3) := by decide +kernel
theorem dX1_init_10 : decode cX1_init 10 = .ok (.putfield 11, 3) := by decide +kernel
theorem dX1_init_13 : decode cX1_init 13 = .ok (.aload_n 0, 1) := by decide +kernel
theorem dX1_init_14 : decode cX1_init 14 = .ok (.bipush 8, 2) := by decide +kernel
theorem dX1_init_16 : decode cX1_init 16 = .ok (.newarray .int, 2) := by decide +kernel
theorem dX1_init_18 : decode cX1_init 18 = .ok (.putfield 17, 3) := by decide +kernel
theorem dX1_init_21 : decode cX1_init 21 = .ok (.return_, 1) := by decide +kernel
theorem dX1_keep_0 : decode cX1_keep 0 = .ok (.aload_n 0, 1) := by decide +kernel
theorem dX1_keep_1 : decode cX1_keep 1 = .ok (.aload_n 0, 1) := by decide +kernel
theorem dX1_keep_2 : decode cX1_keep 2 = .ok (.getfield 21, 3) := by decide +kernel
theorem dX1_keep_5 : decode cX1_keep 5 = .ok (.iconst 1, 1) := by decide +kernel
theorem dX1_keep_6 : decode cX1_keep 6 = .ok (.iadd, 1) := by decide +kernel
theorem dX1_keep_7 : decode cX1_keep 7 = .ok (.bipush 8, 2) := by decide +kernel
theorem dX1_keep_9 : decode cX1_keep 9 = .ok (.irem, 1) := by decide +kernel
theorem dX1_keep_10 : decode cX1_keep 10 = .ok (.putfield 21, 3) := by decide +kernel
theorem dX1_keep_13 : decode cX1_keep 13 = .ok (.aload_n 0, 1) := by decide +kernel
theorem dX1_keep_14 : decode cX1_keep 14 = .ok (.getfield 11, 3) := by decide +kernel
theorem dX1_keep_17 : decode cX1_keep 17 = .ok (.aload_n 0, 1) := by decide +kernel
theorem dX1_keep_18 : decode cX1_keep 18 = .ok (.getfield 21, 3) := by decide +kernel
theorem dX1_keep_21 : decode cX1_keep 21 = .ok (.aload_n 0, 1) := by decide +kernel
theorem dX1_keep_22 : decode cX1_keep 22 = .ok (.getfield 11, 3) := by decide +kernel
theorem dX1_keep_25 : decode cX1_keep 25 = .ok (.aload_n 0, 1) := by decide +kernel
theorem dX1_keep_26 : decode cX1_keep 26 = .ok (.getfield 21, 3) := by decide +kernel
theorem dX1_keep_29 : decode cX1_keep 29 = .ok (.aaload, 1) := by decide +kernel
theorem dX1_keep_30 : decode cX1_keep 30 = .ok (.aload_n 2, 1) := by decide +kernel
theorem dX1_keep_31 : decode cX1_keep 31 = .ok (.invokestatic 25, 3) := by decide +kernel
theorem dX1_keep_34 : decode cX1_keep 34 = .ok (.aastore, 1) := by decide +kernel
theorem dX1_keep_35 : decode cX1_keep 35 = .ok (.aload_n 0, 1) := by decide +kernel
theorem dX1_keep_36 : decode cX1_keep 36 = .ok (.getfield 17, 3) := by decide +kernel
theorem dX1_keep_39 : decode cX1_keep 39 = .ok (.aload_n 0, 1) := by decide +kernel
theorem dX1_keep_40 : decode cX1_keep 40 = .ok (.getfield 21, 3) := by decide +kernel
theorem dX1_keep_43 : decode cX1_keep 43 = .ok (.iload_n 1, 1) := by decide +kernel
theorem dX1_keep_44 : decode cX1_keep 44 = .ok (.iastore, 1) := by decide +kernel
theorem dX1_keep_45 : decode cX1_keep 45 = .ok (.aload_n 0, 1) := by decide +kernel
theorem dX1_keep_46 : decode cX1_keep 46 = .ok (.bipush 8, 2) := by decide +kernel
theorem dX1_keep_48 : decode cX1_keep 48 = .ok (.aload_n 0, 1) := by decide +kernel
theorem dX1_keep_49 : decode cX1_keep 49 = .ok (.getfield 29, 3) := by decide +kernel
theorem dX1_keep_52 : decode cX1_keep 52 = .ok (.iconst 1, 1) := by decide +kernel
theorem dX1_keep_53 : decode cX1_keep 53 = .ok (.iadd, 1) := by decide +kernel
theorem dX1_keep_54 : decode cX1_keep 54 = .ok (.invokestatic 32, 3) := by decide +kernel
theorem dX1_keep_57 : decode cX1_keep 57 = .ok (.putfield 29, 3) := by decide +kernel
theorem dX1_keep_60 : decode cX1_keep 60 = .ok (.return_, 1) := by decide +kernel
theorem dX1_takeBack_0 : decode cX1_takeBack 0 = .ok (.aload_n 0, 1) := by decide +kernel
theorem dX1_takeBack_1 : decode cX1_takeBack 1 = .ok (.getfield 17, 3) := by decide +kernel
theorem dX1_takeBack_4 : decode cX1_takeBack 4 = .ok (.aload_n 0, 1) := by decide +kernel
theorem dX1_takeBack_5 : decode cX1_takeBack 5 = .ok (.getfield 21, 3) := by decide +kernel
theorem dX1_takeBack_8 : decode cX1_takeBack 8 = .ok (.iaload, 1) := by decide +kernel
theorem dX1_takeBack_9 : decode cX1_takeBack 9 = .ok (.istore_n 2, 1) := by decide +kernel
theorem dX1_takeBack_10 : decode cX1_takeBack 10 = .ok (.aload_n 0, 1) := by decide +kernel
theorem dX1_takeBack_11 : decode cX1_takeBack 11 = .ok (.getfield 11, 3) := by decide +kernel
theorem dX1_takeBack_14 : decode cX1_takeBack 14 = .ok (.aload_n 0, 1) := by decide +kernel
theorem dX1_takeBack_15 : decode cX1_takeBack 15 = .ok (.getfield 21, 3) := by decide +kernel
theorem dX1_takeBack_18 : decode cX1_takeBack 18 = .ok (.aaload, 1) := by decide +kernel
theorem dX1_takeBack_19 : decode cX1_takeBack 19 = .ok (.ifnull 16, 3) := by decide +kernel
theorem dX1_takeBack_22 : decode cX1_takeBack 22 = .ok (.aload_n 1, 1) := by decide +kernel
theorem dX1_takeBack_23 : decode cX1_takeBack 23 = .ok (.aload_n 0, 1) := by decide +kernel
theorem dX1_takeBack_24 : decode cX1_takeBack 24 = .ok (.getfield 11, 3) := by decide +kernel
theorem dX1_takeBack_27 : decode cX1_takeBack 27 = .ok (.aload_n 0, 1) := by decide +kernel
theorem dX1_takeBack_28 : decode cX1_takeBack 28 = .ok (.getfield 21, 3) := by decide +kernel
theorem dX1_takeBack_31 : decode cX1_takeBack 31 = .ok (.aaload, 1) := by decide +kernel
theorem dX1_takeBack_32 : decode cX1_takeBack 32 = .ok (.invokevirtual 38, 3) := by decide +kernel
theorem dX1_takeBack_35 : decode cX1_takeBack 35 = .ok (.aload_n 0, 1) := by decide +kernel
theorem dX1_takeBack_36 : decode cX1_takeBack 36 = .ok (.aload_n 0, 1) := by decide +kernel
theorem dX1_takeBack_37 : decode cX1_takeBack 37 = .ok (.getfield 21, 3) := by decide +kernel
theorem dX1_takeBack_40 : decode cX1_takeBack 40 = .ok (.bipush 8, 2) := by decide +kernel
theorem dX1_takeBack_42 : decode cX1_takeBack 42 = .ok (.iadd, 1) := by decide +kernel
theorem dX1_takeBack_43 : decode cX1_takeBack 43 = .ok (.iconst 1, 1) := by decide +kernel
theorem dX1_takeBack_44 : decode cX1_takeBack 44 = .ok (.isub, 1) := by decide +kernel
theorem dX1_takeBack_45 : decode cX1_takeBack 45 = .ok (.bipush 8, 2) := by decide +kernel
theorem dX1_takeBack_47 : decode cX1_takeBack 47 = .ok (.irem, 1) := by decide +kernel
theorem dX1_takeBack_48 : decode cX1_takeBack 48 = .ok (.putfield 21, 3) := by decide +kernel
theorem dX1_takeBack_51 : decode cX1_takeBack 51 = .ok (.aload_n 0, 1) := by decide +kernel
theorem dX1_takeBack_52 : decode cX1_takeBack 52 = .ok (.dup, 1) := by decide +kernel
theorem dX1_takeBack_53 : decode cX1_takeBack 53 = .ok (.getfield 29, 3) := by decide +kernel
theorem dX1_takeBack_56 : decode cX1_takeBack 56 = .ok (.iconst 1, 1) := by decide +kernel
theorem dX1_takeBack_57 : decode cX1_takeBack 57 = .ok (.isub, 1) := by decide +kernel
theorem dX1_takeBack_58 : decode cX1_takeBack 58 = .ok (.putfield 29, 3) := by decide +kernel
theorem dX1_takeBack_61 : decode cX1_takeBack 61 = .ok (.iload_n 2, 1) := by decide +kernel
theorem dX1_takeBack_62 : decode cX1_takeBack 62 = .ok (.ireturn, 1) := by decide +kernel
theorem dX2_init_0 : decode cX2_init 0 = .ok (.aload_n 0, 1) := by decide +kernel
theorem dX2_init_1 : decode cX2_init 1 = .ok (.invokespecial 3, 3) := by decide +kernel
theorem dX2_init_4 : decode cX2_init 4 = .ok (.aload_n 0, 1) := by decide +kernel
theorem dX2_init_5 : decode cX2_init 5 = .ok (.bipush 31, 2) := by decide +kernel
theorem dX2_init_7 : decode cX2_init 7 = .ok (.putfield 9, 3) := by decide +kernel
theorem dX2_init_10 : decode cX2_init 10 = .ok (.aload_n 0, 1) := by decide +kernel
theorem dX2_init_11 : decode cX2_init 11 = .ok (.bipush 41, 2) := by decide +kernel
theorem dX2_init_13 : decode cX2_init 13 = .ok (.newarray .int, 2) := by decide +kernel
theorem dX2_init_15 : decode cX2_init 15 = .ok (.putfield 15, 3) := by decide +kernel
theorem dX2_init_18 : decode cX2_init 18 = .ok (.return_, 1) := by decide +kernel
theorem dX2_put_0 : decode cX2_put 0 = .ok (.iload_n 1, 1) := by decide +kernel
theorem dX2_put_1 : decode cX2_put 1 = .ok (.i2l, 1) := by decide +kernel
theorem dX2_put_2 : decode cX2_put 2 = .ok (.bipush 32, 2) := by decide +kernel
theorem dX2_put_4 : decode cX2_put 4 = .ok (.lshl, 1) := by decide +kernel
theorem dX2_put_5 : decode cX2_put 5 = .ok (.iload_n 2, 1) := by decide +kernel
theorem dX2_put_6 : decode cX2_put 6 = .ok (.i2l, 1) := by decide +kernel
theorem dX2_put_7 : decode cX2_put 7 = .ok (.ldc2_w 19, 3) := by decide +kernel
theorem dX2_put_10 : decode cX2_put 10 = .ok (.land, 1) := by decide +kernel
theorem dX2_put_11 : decode cX2_put 11 = .ok (.lor, 1) := by decide +kernel
theorem dX2_put_12 : decode cX2_put 12 = .ok (.lstore 4, 2) := by decide +kernel
theorem dX2_put_14 : decode cX2_put 14 = .ok (.iconst 0, 1) := by decide +kernel
theorem dX2_put_15 : decode cX2_put 15 = .ok (.istore 6, 2) := by decide +kernel
theorem dX2_put_17 : decode cX2_put 17 = .ok (.iload 6, 2) := by decide +kernel
theorem dX2_put_19 : decode cX2_put 19 = .ok (.bipush 32, 2) := by decide +kernel
theorem dX2_put_21 : decode cX2_put 21 = .ok (.if_icmp .gt 25, 3) := by decide +kernel
theorem dX2_put_24 : decode cX2_put 24 = .ok (.aload_n 0, 1) := by decide +kernel
theorem dX2_put_25 : decode cX2_put 25 = .ok (.getfield 15, 3) := by decide +kernel
theorem dX2_put_28 : decode cX2_put 28 = .ok (.iload 6, 2) := by decide +kernel
theorem dX2_put_30 : decode cX2_put 30 = .ok (.lload 4, 2) := by decide +kernel
theorem dX2_put_32 : decode cX2_put 32 = .ok (.bipush 32, 2) := by decide +kernel
theorem dX2_put_34 : decode cX2_put 34 = .ok (.iload 6, 2) := by decide +kernel
theorem dX2_put_36 : decode cX2_put 36 = .ok (.isub, 1) := by decide +kernel
theorem dX2_put_37 : decode cX2_put 37 = .ok (.lushr, 1) := by decide +kernel
theorem dX2_put_38 : decode cX2_put 38 = .ok (.l2i, 1) := by decide +kernel
theorem dX2_put_39 : decode cX2_put 39 = .ok (.iastore, 1) := by decide +kernel
theorem dX2_put_40 : decode cX2_put 40 = .ok (.iinc 6 1, 3) := by decide +kernel
theorem dX2_put_43 : decode cX2_put 43 = .ok (.goto (-26), 3) := by decide +kernel
theorem dX2_put_46 : decode cX2_put 46 = .ok (.bipush 33, 2) := by decide +kernel
theorem dX2_put_48 : decode cX2_put 48 = .ok (.istore 6, 2) := by decide +kernel
theorem dX2_put_50 : decode cX2_put 50 = .ok (.iload 6, 2) := by decide +kernel
theorem dX2_put_52 : decode cX2_put 52 = .ok (.bipush 41, 2) := by decide +kernel
theorem dX2_put_54 : decode cX2_put 54 = .ok (.if_icmp .ge 31, 3) := by decide +kernel
theorem dX2_put_57 : decode cX2_put 57 = .ok (.aload_n 0, 1) := by decide +kernel
theorem dX2_put_58 : decode cX2_put 58 = .ok (.getfield 15, 3) := by decide +kernel
theorem dX2_put_61 : decode cX2_put 61 = .ok (.iload 6, 2) := by decide +kernel
theorem dX2_put_63 : decode cX2_put 63 = .ok (.iload_n 2, 1) := by decide +kernel
theorem dX2_put_64 : decode cX2_put 64 = .ok (.iload 6, 2) := by decide +kernel
theorem dX2_put_66 : decode cX2_put 66 = .ok (.bipush 32, 2) := by decide +kernel
theorem dX2_put_68 : decode cX2_put 68 = .ok (.isub, 1) := by decide +kernel
theorem dX2_put_69 : decode cX2_put 69 = .ok (.ishl, 1) := by decide +kernel
theorem dX2_put_70 : decode cX2_put 70 = .ok (.iload_n 3, 1) := by decide +kernel
theorem dX2_put_71 : decode cX2_put 71 = .ok (.bipush 40, 2) := by decide +kernel
theorem dX2_put_73 : decode cX2_put 73 = .ok (.iload 6, 2) := by decide +kernel
theorem dX2_put_75 : decode cX2_put 75 = .ok (.isub, 1) := by decide +kernel
theorem dX2_put_76 : decode cX2_put 76 = .ok (.iushr, 1) := by decide +kernel
theorem dX2_put_77 : decode cX2_put 77 = .ok (.ior, 1) := by decide +kernel
theorem dX2_put_78 : decode cX2_put 78 = .ok (.iastore, 1) := by decide +kernel
theorem dX2_put_79 : decode cX2_put 79 = .ok (.iinc 6 1, 3) := by decide +kernel
theorem dX2_put_82 : decode cX2_put 82 = .ok (.goto (-32), 3) := by decide +kernel
theorem dX2_put_85 : decode cX2_put 85 = .ok (.return_, 1) := by decide +kernel
theorem dX2_copyFrom_0 : decode cX2_copyFrom 0 = .ok (.aload_n 1, 1) := by decide +kernel
theorem dX2_copyFrom_1 : decode cX2_copyFrom 1 = .ok (.getfield 15, 3) := by decide +kernel
theorem dX2_copyFrom_4 : decode cX2_copyFrom 4 = .ok (.iconst 0, 1) := by decide +kernel
theorem dX2_copyFrom_5 : decode cX2_copyFrom 5 = .ok (.aload_n 0, 1) := by decide +kernel
theorem dX2_copyFrom_6 : decode cX2_copyFrom 6 = .ok (.getfield 15, 3) := by decide +kernel
theorem dX2_copyFrom_9 : decode cX2_copyFrom 9 = .ok (.iconst 0, 1) := by decide +kernel
theorem dX2_copyFrom_10 : decode cX2_copyFrom 10 = .ok (.bipush 41, 2) := by decide +kernel
theorem dX2_copyFrom_12 : decode cX2_copyFrom 12 = .ok (.invokestatic 21, 3) := by decide +kernel
theorem dX2_copyFrom_15 : decode cX2_copyFrom 15 = .ok (.aload_n 0, 1) := by decide +kernel
theorem dX2_copyFrom_16 : decode cX2_copyFrom 16 = .ok (.aload_n 1, 1) := by decide +kernel
theorem dX2_copyFrom_17 : decode cX2_copyFrom 17 = .ok (.getfield 9, 3) := by decide +kernel
theorem dX2_copyFrom_20 : decode cX2_copyFrom 20 = .ok (.putfield 9, 3) := by decide +kernel
theorem dX2_copyFrom_23 : decode cX2_copyFrom 23 = .ok (.return_, 1) := by decide +kernel
theorem dX2_bitsFrom_0 : decode cX2_bitsFrom 0 = .ok (.aload_n 0, 1) := by decide +kernel
theorem dX2_bitsFrom_1 : decode cX2_bitsFrom 1 = .ok (.getfield 15, 3) := by decide +kernel
theorem dX2_bitsFrom_4 : decode cX2_bitsFrom 4 = .ok (.iload_n 1, 1) := by decide +kernel
theorem dX2_bitsFrom_5 : decode cX2_bitsFrom 5 = .ok (.iaload, 1) := by decide +kernel
theorem dX2_bitsFrom_6 : decode cX2_bitsFrom 6 = .ok (.ireturn, 1) := by decide +kernel
theorem dX2_counts_0 : decode cX2_counts 0 = .ok (.aload_n 0, 1) := by decide +kernel
theorem dX2_counts_1 : decode cX2_counts 1 = .ok (.getfield 9, 3) := by decide +kernel
theorem dX2_counts_4 : decode cX2_counts 4 = .ok (.iload_n 1, 1) := by decide +kernel
theorem dX2_counts_5 : decode cX2_counts 5 = .ok (.ishr, 1) := by decide +kernel
theorem dX2_counts_6 : decode cX2_counts 6 = .ok (.iconst 1, 1) := by decide +kernel
theorem dX2_counts_7 : decode cX2_counts 7 = .ok (.iand, 1) := by decide +kernel
theorem dX2_counts_8 : decode cX2_counts 8 = .ok (.iconst 1, 1) := by decide +kernel
theorem dX2_counts_9 : decode cX2_counts 9 = .ok (.if_icmp .ne 7, 3) := by decide +kernel
theorem dX2_counts_12 : decode cX2_counts 12 = .ok (.iconst 1, 1) := by decide +kernel
theorem dX2_counts_13 : decode cX2_counts 13 = .ok (.goto 4, 3) := by decide +kernel
theorem dX2_counts_16 : decode cX2_counts 16 = .ok (.iconst 0, 1) := by decide +kernel
theorem dX2_counts_17 : decode cX2_counts 17 = .ok (.ireturn, 1) := by decide +kernel
theorem dX2_part_0 : decode cX2_part 0 = .ok (.aload_n 0, 1) := by decide +kernel
theorem dX2_part_1 : decode cX2_part 1 = .ok (.iload_n 1, 1) := by decide +kernel
theorem dX2_part_2 : decode cX2_part 2 = .ok (.invokevirtual 27, 3) := by decide +kernel
theorem dX2_part_5 : decode cX2_part 5 = .ok (.ifCond .ne 5, 3) := by decide +kernel
theorem dX2_part_8 : decode cX2_part 8 = .ok (.iconst 0, 1) := by decide +kernel
theorem dX2_part_9 : decode cX2_part 9 = .ok (.ireturn, 1) := by decide +kernel
theorem dX2_part_10 : decode cX2_part 10 = .ok (.iconst 0, 1) := by decide +kernel
theorem dX2_part_11 : decode cX2_part 11 = .ok (.istore_n 3, 1) := by decide +kernel
theorem dX2_part_12 : decode cX2_part 12 = .ok (.iconst 0, 1) := by decide +kernel
theorem dX2_part_13 : decode cX2_part 13 = .ok (.istore 4, 2) := by decide +kernel
theorem dX2_part_15 : decode cX2_part 15 = .ok (.iload 4, 2) := by decide +kernel
theorem dX2_part_17 : decode cX2_part 17 = .ok (.bipush 8, 2) := by decide +kernel
theorem dX2_part_19 : decode cX2_part 19 = .ok (.if_icmp .ge 35, 3) := by decide +kernel
theorem dX2_part_22 : decode cX2_part 22 = .ok (.iload_n 2, 1) := by decide +kernel
theorem dX2_part_23 : decode cX2_part 23 = .ok (.iload 4, 2) := by decide +kernel
theorem dX2_part_25 : decode cX2_part 25 = .ok (.ishl, 1) := by decide +kernel
theorem dX2_part_26 : decode cX2_part 26 = .ok (.sipush 128, 3) := by decide +kernel
theorem dX2_part_29 : decode cX2_part 29 = .ok (.iand, 1) := by decide +kernel
theorem dX2_part_30 : decode cX2_part 30 = .ok (.ifCond .eq 18, 3) := by decide +kernel
theorem dX2_part_33 : decode cX2_part 33 = .ok (.iload_n 3, 1) := by decide +kernel
theorem dX2_part_34 : decode cX2_part 34 = .ok (.aload_n 0, 1) := by decide +kernel
theorem dX2_part_35 : decode cX2_part 35 = .ok (.getfield 15, 3) := by decide +kernel
theorem dX2_part_38 : decode cX2_part 38 = .ok (.bipush 8, 2) := by decide +kernel
theorem dX2_part_40 : decode cX2_part 40 = .ok (.iload_n 1, 1) := by decide +kernel
theorem dX2_part_41 : decode cX2_part 41 = .ok (.imul, 1) := by decide +kernel
theorem dX2_part_42 : decode cX2_part 42 = .ok (.iload 4, 2) := by decide +kernel
theorem dX2_part_44 : decode cX2_part 44 = .ok (.iadd, 1) := by decide +kernel
theorem dX2_part_45 : decode cX2_part 45 = .ok (.iaload, 1) := by decide +kernel
theorem dX2_part_46 : decode cX2_part 46 = .ok (.ixor, 1) := by decide +kernel
theorem dX2_part_47 : decode cX2_part 47 = .ok (.istore_n 3, 1) := by decide +kernel
theorem dX2_part_48 : decode cX2_part 48 = .ok (.iinc 4 1, 3) := by decide +kernel
theorem dX2_part_51 : decode cX2_part 51 = .ok (.goto (-36), 3) := by decide +kernel
theorem dX2_part_54 : decode cX2_part 54 = .ok (.iload_n 3, 1) := by decide +kernel
theorem dX2_part_55 : decode cX2_part 55 = .ok (.ireturn, 1) := by decide +kernel
theorem dX2_hashFields_0 : decode cX2_hashFields 0 = .ok (.aload_n 0, 1) := by decide +kernel
theorem dX2_hashFields_1 : decode cX2_hashFields 1 = .ok (.iconst 0, 1) := by decide +kernel
theorem dX2_hashFields_2 : decode cX2_hashFields 2 = .ok (.iload_n 1, 1) := by decide +kernel
theorem dX2_hashFields_3 : decode cX2_hashFields 3 = .ok (.invokevirtual 33, 3) := by decide +kernel
theorem dX2_hashFields_6 : decode cX2_hashFields 6 = .ok (.aload_n 0, 1) := by decide +kernel
theorem dX2_hashFields_7 : decode cX2_hashFields 7 = .ok (.iconst 1, 1) := by decide +kernel
theorem dX2_hashFields_8 : decode cX2_hashFields 8 = .ok (.iload_n 2, 1) := by decide +kernel
theorem dX2_hashFields_9 : decode cX2_hashFields 9 = .ok (.invokevirtual 33, 3) := by decide +kernel
theorem dX2_hashFields_12 : decode cX2_hashFields 12 = .ok (.ixor, 1) := by decide +kernel
theorem dX2_hashFields_13 : decode cX2_hashFields 13 = .ok (.aload_n 0, 1) := by decide +kernel
theorem dX2_hashFields_14 : decode cX2_hashFields 14 = .ok (.iconst 2, 1) := by decide +kernel
theorem dX2_hashFields_15 : decode cX2_hashFields 15 = .ok (.iload_n 3, 1) := by decide +kernel
theorem dX2_hashFields_16 : decode cX2_hashFields 16 = .ok (.invokevirtual 33, 3) := by decide +kernel
theorem dX2_hashFields_19 : decode cX2_hashFields 19 = .ok (.ixor, 1) := by decide +kernel
theorem dX2_hashFields_20 : decode cX2_hashFields 20 = .ok (.aload_n 0, 1) := by decide +kernel
theorem dX2_hashFields_21 : decode cX2_hashFields 21 = .ok (.iconst 3, 1) := by decide +kernel
theorem dX2_hashFields_22 : decode cX2_hashFields 22 = .ok (.iload 4, 2) := by decide +kernel
theorem dX2_hashFields_24 : decode cX2_hashFields 24 = .ok (.invokevirtual 33, 3) := by decide +kernel
theorem dX2_hashFields_27 : decode cX2_hashFields 27 = .ok (.ixor, 1) := by decide +kernel
theorem dX2_hashFields_28 : decode cX2_hashFields 28 = .ok (.aload_n 0, 1) := by decide +kernel
theorem dX2_hashFields_29 : decode cX2_hashFields 29 = .ok (.iconst 4, 1) := by decide +kernel
theorem dX2_hashFields_30 : decode cX2_hashFields 30 = .ok (.iload 5, 2) := by decide +kernel
theorem dX2_hashFields_32 : decode cX2_hashFields 32 = .ok (.invokevirtual 33, 3) := by decide +kernel
theorem dX2_hashFields_35 : decode cX2_hashFields 35 = .ok (.ixor, 1) := by decide +kernel
theorem dX2_hashFields_36 : decode cX2_hashFields 36 = .ok (.ireturn, 1) := by decide +kernel
theorem dX2_hashesBothWaysAlike_0 : decode cX2_hashesBothWaysAlike 0 = .ok (.iconst 1, 1) := by decide +kernel
theorem dX2_hashesBothWaysAlike_1 : decode cX2_hashesBothWaysAlike 1 = .ok (.istore_n 1, 1) := by decide +kernel
theorem dX2_hashesBothWaysAlike_2 : decode cX2_hashesBothWaysAlike 2 = .ok (.iload_n 1, 1) := by decide +kernel
theorem dX2_hashesBothWaysAlike_3 : decode cX2_hashesBothWaysAlike 3 = .ok (.sipush 256, 3) := by decide +kernel
theorem dX2_hashesBothWaysAlike_6 : decode cX2_hashesBothWaysAlike 6 = .ok (.if_icmp .ge 42, 3) := by decide +kernel
theorem dX2_hashesBothWaysAlike_9 : decode cX2_hashesBothWaysAlike 9 = .ok (.aload_n 0, 1) := by decide +kernel
theorem dX2_hashesBothWaysAlike_10 : decode cX2_hashesBothWaysAlike 10 = .ok (.iconst 0, 1) := by decide +kernel
theorem dX2_hashesBothWaysAlike_11 : decode cX2_hashesBothWaysAlike 11 = .ok (.iload_n 1, 1) := by decide +kernel
theorem dX2_hashesBothWaysAlike_12 : decode cX2_hashesBothWaysAlike 12 = .ok (.invokevirtual 33, 3) := by decide +kernel
theorem dX2_hashesBothWaysAlike_15 : decode cX2_hashesBothWaysAlike 15 = .ok (.aload_n 0, 1) := by decide +kernel
theorem dX2_hashesBothWaysAlike_16 : decode cX2_hashesBothWaysAlike 16 = .ok (.iconst 1, 1) := by decide +kernel
theorem dX2_hashesBothWaysAlike_17 : decode cX2_hashesBothWaysAlike 17 = .ok (.iload_n 1, 1) := by decide +kernel
theorem dX2_hashesBothWaysAlike_18 : decode cX2_hashesBothWaysAlike 18 = .ok (.invokevirtual 33, 3) := by decide +kernel
theorem dX2_hashesBothWaysAlike_21 : decode cX2_hashesBothWaysAlike 21 = .ok (.if_icmp .ne 18, 3) := by decide +kernel
theorem dX2_hashesBothWaysAlike_24 : decode cX2_hashesBothWaysAlike 24 = .ok (.aload_n 0, 1) := by decide +kernel
theorem dX2_hashesBothWaysAlike_25 : decode cX2_hashesBothWaysAlike 25 = .ok (.iconst 2, 1) := by decide +kernel
theorem dX2_hashesBothWaysAlike_26 : decode cX2_hashesBothWaysAlike 26 = .ok (.iload_n 1, 1) := by decide +kernel
theorem dX2_hashesBothWaysAlike_27 : decode cX2_hashesBothWaysAlike 27 = .ok (.invokevirtual 33, 3) := by decide +kernel
theorem dX2_hashesBothWaysAlike_30 : decode cX2_hashesBothWaysAlike 30 = .ok (.aload_n 0, 1) := by decide +kernel
theorem dX2_hashesBothWaysAlike_31 : decode cX2_hashesBothWaysAlike 31 = .ok (.iconst 3, 1) := by decide +kernel
theorem dX2_hashesBothWaysAlike_32 : decode cX2_hashesBothWaysAlike 32 = .ok (.iload_n 1, 1) := by decide +kernel
theorem dX2_hashesBothWaysAlike_33 : decode cX2_hashesBothWaysAlike 33 = .ok (.invokevirtual 33, 3) := by decide +kernel
theorem dX2_hashesBothWaysAlike_36 : decode cX2_hashesBothWaysAlike 36 = .ok (.if_icmp .eq 5, 3) := by decide +kernel
theorem dX2_hashesBothWaysAlike_39 : decode cX2_hashesBothWaysAlike 39 = .ok (.iconst 0, 1) := by decide +kernel
theorem dX2_hashesBothWaysAlike_40 : decode cX2_hashesBothWaysAlike 40 = .ok (.ireturn, 1) := by decide +kernel
theorem dX2_hashesBothWaysAlike_41 : decode cX2_hashesBothWaysAlike 41 = .ok (.iload_n 1, 1) := by decide +kernel
theorem dX2_hashesBothWaysAlike_42 : decode cX2_hashesBothWaysAlike 42 = .ok (.iconst 1, 1) := by decide +kernel
theorem dX2_hashesBothWaysAlike_43 : decode cX2_hashesBothWaysAlike 43 = .ok (.ishl, 1) := by decide +kernel
theorem dX2_hashesBothWaysAlike_44 : decode cX2_hashesBothWaysAlike 44 = .ok (.istore_n 1, 1) := by decide +kernel
theorem dX2_hashesBothWaysAlike_45 : decode cX2_hashesBothWaysAlike 45 = .ok (.goto (-43), 3) := by decide +kernel
theorem dX2_hashesBothWaysAlike_48 : decode cX2_hashesBothWaysAlike 48 = .ok (.iconst 1, 1) := by decide +kernel
theorem dX2_hashesBothWaysAlike_49 : decode cX2_hashesBothWaysAlike 49 = .ok (.ireturn, 1) := by decide +kernel
theorem dX2_entriesInReach_0 : decode cX2_entriesInReach 0 = .ok (.iconst 1, 1) := by decide +kernel
theorem dX2_entriesInReach_1 : decode cX2_entriesInReach 1 = .ok (.istore_n 1, 1) := by decide +kernel
theorem dX2_entriesInReach_2 : decode cX2_entriesInReach 2 = .ok (.iconst 0, 1) := by decide +kernel
theorem dX2_entriesInReach_3 : decode cX2_entriesInReach 3 = .ok (.istore_n 2, 1) := by decide +kernel
theorem dX2_entriesInReach_4 : decode cX2_entriesInReach 4 = .ok (.iload_n 2, 1) := by decide +kernel
theorem dX2_entriesInReach_5 : decode cX2_entriesInReach 5 = .ok (.bipush 40, 2) := by decide +kernel
theorem dX2_entriesInReach_7 : decode cX2_entriesInReach 7 = .ok (.if_icmp .ge 46, 3) := by decide +kernel
theorem dX2_entriesInReach_10 : decode cX2_entriesInReach 10 = .ok (.aload_n 0, 1) := by decide +kernel
theorem dX2_entriesInReach_11 : decode cX2_entriesInReach 11 = .ok (.iload_n 2, 1) := by decide +kernel
theorem dX2_entriesInReach_12 : decode cX2_entriesInReach 12 = .ok (.bipush 8, 2) := by decide +kernel
theorem dX2_entriesInReach_14 : decode cX2_entriesInReach 14 = .ok (.idiv, 1) := by decide +kernel
theorem dX2_entriesInReach_15 : decode cX2_entriesInReach 15 = .ok (.invokevirtual 27, 3) := by decide +kernel
theorem dX2_entriesInReach_18 : decode cX2_entriesInReach 18 = .ok (.ifCond .eq 29, 3) := by decide +kernel
theorem dX2_entriesInReach_21 : decode cX2_entriesInReach 21 = .ok (.iload_n 2, 1) := by decide +kernel
theorem dX2_entriesInReach_22 : decode cX2_entriesInReach 22 = .ok (.bipush 32, 2) := by decide +kernel
theorem dX2_entriesInReach_24 : decode cX2_entriesInReach 24 = .ok (.if_icmp .lt 9, 3) := by decide +kernel
theorem dX2_entriesInReach_27 : decode cX2_entriesInReach 27 = .ok (.iload_n 2, 1) := by decide +kernel
theorem dX2_entriesInReach_28 : decode cX2_entriesInReach 28 = .ok (.bipush 39, 2) := by decide +kernel
theorem dX2_entriesInReach_30 : decode cX2_entriesInReach 30 = .ok (.if_icmp .ne 17, 3) := by decide +kernel
theorem dX2_entriesInReach_33 : decode cX2_entriesInReach 33 = .ok (.iload_n 1, 1) := by decide +kernel
theorem dX2_entriesInReach_34 : decode cX2_entriesInReach 34 = .ok (.aload_n 0, 1) := by decide +kernel
theorem dX2_entriesInReach_35 : decode cX2_entriesInReach 35 = .ok (.getfield 15, 3) := by decide +kernel
theorem dX2_entriesInReach_38 : decode cX2_entriesInReach 38 = .ok (.iload_n 2, 1) := by decide +kernel
theorem dX2_entriesInReach_39 : decode cX2_entriesInReach 39 = .ok (.iaload, 1) := by decide +kernel
theorem dX2_entriesInReach_40 : decode cX2_entriesInReach 40 = .ok (.invokestatic 37, 3) := by decide +kernel
theorem dX2_entriesInReach_43 : decode cX2_entriesInReach 43 = .ok (.invokestatic 41, 3) := by decide +kernel
theorem dX2_entriesInReach_46 : decode cX2_entriesInReach 46 = .ok (.istore_n 1, 1) := by decide +kernel
theorem dX2_entriesInReach_47 : decode cX2_entriesInReach 47 = .ok (.iinc 2 1, 3) := by decide +kernel
theorem dX2_entriesInReach_50 : decode cX2_entriesInReach 50 = .ok (.goto (-46), 3) := by decide +kernel
theorem dX2_entriesInReach_53 : decode cX2_entriesInReach 53 = .ok (.iload_n 1, 1) := by decide +kernel
theorem dX2_entriesInReach_54 : decode cX2_entriesInReach 54 = .ok (.ireturn, 1) := by decide +kernel
theorem dX2_withStep_0 : decode cX2_withStep 0 = .ok (.iload_n 0, 1) := by decide +kernel
theorem dX2_withStep_1 : decode cX2_withStep 1 = .ok (.istore_n 2, 1) := by decide +kernel
theorem dX2_withStep_2 : decode cX2_withStep 2 = .ok (.iconst 0, 1) := by decide +kernel
theorem dX2_withStep_3 : decode cX2_withStep 3 = .ok (.istore_n 3, 1) := by decide +kernel
theorem dX2_withStep_4 : decode cX2_withStep 4 = .ok (.iload_n 3, 1) := by decide +kernel
theorem dX2_withStep_5 : decode cX2_withStep 5 = .ok (.bipush 16, 2) := by decide +kernel
theorem dX2_withStep_7 : decode cX2_withStep 7 = .ok (.if_icmp .ge 26, 3) := by decide +kernel
theorem dX2_withStep_10 : decode cX2_withStep 10 = .ok (.iload_n 0, 1) := by decide +kernel
theorem dX2_withStep_11 : decode cX2_withStep 11 = .ok (.iload_n 3, 1) := by decide +kernel
theorem dX2_withStep_12 : decode cX2_withStep 12 = .ok (.ishr, 1) := by decide +kernel
theorem dX2_withStep_13 : decode cX2_withStep 13 = .ok (.iconst 1, 1) := by decide +kernel
theorem dX2_withStep_14 : decode cX2_withStep 14 = .ok (.iand, 1) := by decide +kernel
theorem dX2_withStep_15 : decode cX2_withStep 15 = .ok (.iconst 1, 1) := by decide +kernel
theorem dX2_withStep_16 : decode cX2_withStep 16 = .ok (.if_icmp .ne 11, 3) := by decide +kernel
theorem dX2_withStep_19 : decode cX2_withStep 19 = .ok (.iload_n 2, 1) := by decide +kernel
theorem dX2_withStep_20 : decode cX2_withStep 20 = .ok (.iconst 1, 1) := by decide +kernel
theorem dX2_withStep_21 : decode cX2_withStep 21 = .ok (.iload_n 3, 1) := by decide +kernel
theorem dX2_withStep_22 : decode cX2_withStep 22 = .ok (.iload_n 1, 1) := by decide +kernel
theorem dX2_withStep_23 : decode cX2_withStep 23 = .ok (.ixor, 1) := by decide +kernel
theorem dX2_withStep_24 : decode cX2_withStep 24 = .ok (.ishl, 1) := by decide +kernel
theorem dX2_withStep_25 : decode cX2_withStep 25 = .ok (.ior, 1) := by decide +kernel
theorem dX2_withStep_26 : decode cX2_withStep 26 = .ok (.istore_n 2, 1) := by decide +kernel
theorem dX2_withStep_27 : decode cX2_withStep 27 = .ok (.iinc 3 1, 3) := by decide +kernel
theorem dX2_withStep_30 : decode cX2_withStep 30 = .ok (.goto (-26), 3) := by decide +kernel
theorem dX2_withStep_33 : decode cX2_withStep 33 = .ok (.iload_n 2, 1) := by decide +kernel
theorem dX2_withStep_34 : decode cX2_withStep 34 = .ok (.ireturn, 1) := by decide +kernel
theorem dX3_init_0 : decode cX3_init 0 = .ok (.aload_n 0, 1) := by decide +kernel
theorem dX3_init_1 : decode cX3_init 1 = .ok (.invokespecial 3, 3) := by decide +kernel
theorem dX3_init_4 : decode cX3_init 4 = .ok (.aload_n 0, 1) := by decide +kernel
theorem dX3_init_5 : decode cX3_init 5 = .ok (.iconst 4, 1) := by decide +kernel
theorem dX3_init_6 : decode cX3_init 6 = .ok (.putfield 9, 3) := by decide +kernel
theorem dX3_init_9 : decode cX3_init 9 = .ok (.aload_n 0, 1) := by decide +kernel
theorem dX3_init_10 : decode cX3_init 10 = .ok (.iconst (-1), 1) := by decide +kernel
theorem dX3_init_11 : decode cX3_init 11 = .ok (.putfield 15, 3) := by decide +kernel
theorem dX3_init_14 : decode cX3_init 14 = .ok (.aload_n 0, 1) := by decide +kernel
theorem dX3_init_15 : decode cX3_init 15 = .ok (.sipush 128, 3) := by decide +kernel
theorem dX3_init_18 : decode cX3_init 18 = .ok (.newarray .int, 2) := by decide +kernel
theorem dX3_init_20 : decode cX3_init 20 = .ok (.putfield 18, 3) := by decide +kernel
theorem dX3_init_23 : decode cX3_init 23 = .ok (.return_, 1) := by decide +kernel
theorem dX3_copyFrom_0 : decode cX3_copyFrom 0 = .ok (.aload_n 0, 1) := by decide +kernel
theorem dX3_copyFrom_1 : decode cX3_copyFrom 1 = .ok (.aload_n 1, 1) := by decide +kernel
theorem dX3_copyFrom_2 : decode cX3_copyFrom 2 = .ok (.getfield 22, 3) := by decide +kernel
theorem dX3_copyFrom_5 : decode cX3_copyFrom 5 = .ok (.putfield 22, 3) := by decide +kernel
theorem dX3_copyFrom_8 : decode cX3_copyFrom 8 = .ok (.aload_n 0, 1) := by decide +kernel
theorem dX3_copyFrom_9 : decode cX3_copyFrom 9 = .ok (.aload_n 1, 1) := by decide +kernel
theorem dX3_copyFrom_10 : decode cX3_copyFrom 10 = .ok (.getfield 25, 3) := by decide +kernel
theorem dX3_copyFrom_13 : decode cX3_copyFrom 13 = .ok (.putfield 25, 3) := by decide +kernel
theorem dX3_copyFrom_16 : decode cX3_copyFrom 16 = .ok (.aload_n 0, 1) := by decide +kernel
theorem dX3_copyFrom_17 : decode cX3_copyFrom 17 = .ok (.aload_n 1, 1) := by decide +kernel
theorem dX3_copyFrom_18 : decode cX3_copyFrom 18 = .ok (.getfield 28, 3) := by decide +kernel
theorem dX3_copyFrom_21 : decode cX3_copyFrom 21 = .ok (.putfield 28, 3) := by decide +kernel
theorem dX3_copyFrom_24 : decode cX3_copyFrom 24 = .ok (.aload_n 0, 1) := by decide +kernel
theorem dX3_copyFrom_25 : decode cX3_copyFrom 25 = .ok (.aload_n 1, 1) := by decide +kernel
theorem dX3_copyFrom_26 : decode cX3_copyFrom 26 = .ok (.getfield 9, 3) := by decide +kernel
theorem dX3_copyFrom_29 : decode cX3_copyFrom 29 = .ok (.putfield 9, 3) := by decide +kernel
theorem dX3_copyFrom_32 : decode cX3_copyFrom 32 = .ok (.aload_n 0, 1) := by decide +kernel
theorem dX3_copyFrom_33 : decode cX3_copyFrom 33 = .ok (.aload_n 1, 1) := by decide +kernel
theorem dX3_copyFrom_34 : decode cX3_copyFrom 34 = .ok (.getfield 15, 3) := by decide +kernel
theorem dX3_copyFrom_37 : decode cX3_copyFrom 37 = .ok (.putfield 15, 3) := by decide +kernel
theorem dX3_copyFrom_40 : decode cX3_copyFrom 40 = .ok (.aload_n 0, 1) := by decide +kernel
theorem dX3_copyFrom_41 : decode cX3_copyFrom 41 = .ok (.aload_n 1, 1) := by decide +kernel
theorem dX3_copyFrom_42 : decode cX3_copyFrom 42 = .ok (.getfield 31, 3) := by decide +kernel
theorem dX3_copyFrom_45 : decode cX3_copyFrom 45 = .ok (.putfield 31, 3) := by decide +kernel
theorem dX3_copyFrom_48 : decode cX3_copyFrom 48 = .ok (.aload_n 0, 1) := by decide +kernel
theorem dX3_copyFrom_49 : decode cX3_copyFrom 49 = .ok (.aload_n 1, 1) := by decide +kernel
theorem dX3_copyFrom_50 : decode cX3_copyFrom 50 = .ok (.getfield 34, 3) := by decide +kernel
theorem dX3_copyFrom_53 : decode cX3_copyFrom 53 = .ok (.putfield 34, 3) := by decide +kernel
theorem dX3_copyFrom_56 : decode cX3_copyFrom 56 = .ok (.aload_n 0, 1) := by decide +kernel
theorem dX3_copyFrom_57 : decode cX3_copyFrom 57 = .ok (.aload_n 1, 1) := by decide +kernel
theorem dX3_copyFrom_58 : decode cX3_copyFrom 58 = .ok (.getfield 37, 3) := by decide +kernel
theorem dX3_copyFrom_61 : decode cX3_copyFrom 61 = .ok (.putfield 37, 3) := by decide +kernel
theorem dX3_copyFrom_64 : decode cX3_copyFrom 64 = .ok (.aload_n 1, 1) := by decide +kernel
theorem dX3_copyFrom_65 : decode cX3_copyFrom 65 = .ok (.getfield 18, 3) := by decide +kernel
theorem dX3_copyFrom_68 : decode cX3_copyFrom 68 = .ok (.iconst 0, 1) := by decide +kernel
theorem dX3_copyFrom_69 : decode cX3_copyFrom 69 = .ok (.aload_n 0, 1) := by decide +kernel
theorem dX3_copyFrom_70 : decode cX3_copyFrom 70 = .ok (.getfield 18, 3) := by decide +kernel
theorem dX3_copyFrom_73 : decode cX3_copyFrom 73 = .ok (.iconst 0, 1) := by decide +kernel
theorem dX3_copyFrom_74 : decode cX3_copyFrom 74 = .ok (.iconst 4, 1) := by decide +kernel
theorem dX3_copyFrom_75 : decode cX3_copyFrom 75 = .ok (.aload_n 0, 1) := by decide +kernel
theorem dX3_copyFrom_76 : decode cX3_copyFrom 76 = .ok (.getfield 22, 3) := by decide +kernel
theorem dX3_copyFrom_79 : decode cX3_copyFrom 79 = .ok (.imul, 1) := by decide +kernel
theorem dX3_copyFrom_80 : decode cX3_copyFrom 80 = .ok (.invokestatic 40, 3) := by decide +kernel
theorem dX3_copyFrom_83 : decode cX3_copyFrom 83 = .ok (.return_, 1) := by decide +kernel
theorem dX3_at_0 : decode cX3_at 0 = .ok (.aload_n 0, 1) := by decide +kernel
theorem dX3_at_1 : decode cX3_at 1 = .ok (.getfield 18, 3) := by decide +kernel
theorem dX3_at_4 : decode cX3_at 4 = .ok (.iconst 4, 1) := by decide +kernel
theorem dX3_at_5 : decode cX3_at 5 = .ok (.iload_n 1, 1) := by decide +kernel
theorem dX3_at_6 : decode cX3_at 6 = .ok (.imul, 1) := by decide +kernel
theorem dX3_at_7 : decode cX3_at 7 = .ok (.iload_n 2, 1) := by decide +kernel
theorem dX3_at_8 : decode cX3_at 8 = .ok (.iadd, 1) := by decide +kernel
theorem dX3_at_9 : decode cX3_at 9 = .ok (.iaload, 1) := by decide +kernel
theorem dX3_at_10 : decode cX3_at 10 = .ok (.ireturn, 1) := by decide +kernel
theorem dX3_tell_0 : decode cX3_tell 0 = .ok (.iload_n 1, 1) := by decide +kernel
theorem dX3_tell_1 : decode cX3_tell 1 = .ok (.tableswitch 91 0 8 #[51, 56, 61, 66, 71, 76, 91, 81, 86], 51) := by decide +kernel
theorem dX3_tell_52 : decode cX3_tell 52 = .ok (.aload_n 0, 1) := by decide +kernel
theorem dX3_tell_53 : decode cX3_tell 53 = .ok (.getfield 22, 3) := by decide +kernel
theorem dX3_tell_56 : decode cX3_tell 56 = .ok (.ireturn, 1) := by decide +kernel
theorem dX3_tell_57 : decode cX3_tell 57 = .ok (.aload_n 0, 1) := by decide +kernel
theorem dX3_tell_58 : decode cX3_tell 58 = .ok (.getfield 9, 3) := by decide +kernel
theorem dX3_tell_61 : decode cX3_tell 61 = .ok (.ireturn, 1) := by decide +kernel
theorem dX3_tell_62 : decode cX3_tell 62 = .ok (.aload_n 0, 1) := by decide +kernel
theorem dX3_tell_63 : decode cX3_tell 63 = .ok (.getfield 15, 3) := by decide +kernel
theorem dX3_tell_66 : decode cX3_tell 66 = .ok (.ireturn, 1) := by decide +kernel
theorem dX3_tell_67 : decode cX3_tell 67 = .ok (.aload_n 0, 1) := by decide +kernel
theorem dX3_tell_68 : decode cX3_tell 68 = .ok (.getfield 25, 3) := by decide +kernel
theorem dX3_tell_71 : decode cX3_tell 71 = .ok (.ireturn, 1) := by decide +kernel
theorem dX3_tell_72 : decode cX3_tell 72 = .ok (.aload_n 0, 1) := by decide +kernel
theorem dX3_tell_73 : decode cX3_tell 73 = .ok (.getfield 31, 3) := by decide +kernel
theorem dX3_tell_76 : decode cX3_tell 76 = .ok (.ireturn, 1) := by decide +kernel
theorem dX3_tell_77 : decode cX3_tell 77 = .ok (.aload_n 0, 1) := by decide +kernel
theorem dX3_tell_78 : decode cX3_tell 78 = .ok (.getfield 28, 3) := by decide +kernel
theorem dX3_tell_81 : decode cX3_tell 81 = .ok (.ireturn, 1) := by decide +kernel
theorem dX3_tell_82 : decode cX3_tell 82 = .ok (.aload_n 0, 1) := by decide +kernel
theorem dX3_tell_83 : decode cX3_tell 83 = .ok (.getfield 34, 3) := by decide +kernel
theorem dX3_tell_86 : decode cX3_tell 86 = .ok (.ireturn, 1) := by decide +kernel
theorem dX3_tell_87 : decode cX3_tell 87 = .ok (.aload_n 0, 1) := by decide +kernel
theorem dX3_tell_88 : decode cX3_tell 88 = .ok (.getfield 37, 3) := by decide +kernel
theorem dX3_tell_91 : decode cX3_tell 91 = .ok (.ireturn, 1) := by decide +kernel
theorem dX3_tell_92 : decode cX3_tell 92 = .ok (.iconst (-1), 1) := by decide +kernel
theorem dX3_tell_93 : decode cX3_tell 93 = .ok (.ireturn, 1) := by decide +kernel
theorem dX3_append_0 : decode cX3_append 0 = .ok (.aload_n 0, 1) := by decide +kernel
theorem dX3_append_1 : decode cX3_append 1 = .ok (.getfield 22, 3) := by decide +kernel
theorem dX3_append_4 : decode cX3_append 4 = .ok (.ifCond .ne 9, 3) := by decide +kernel
theorem dX3_append_7 : decode cX3_append 7 = .ok (.aload_n 0, 1) := by decide +kernel
theorem dX3_append_8 : decode cX3_append 8 = .ok (.iload 5, 2) := by decide +kernel
theorem dX3_append_10 : decode cX3_append 10 = .ok (.putfield 15, 3) := by decide +kernel
theorem dX3_append_13 : decode cX3_append 13 = .ok (.iconst 4, 1) := by decide +kernel
theorem dX3_append_14 : decode cX3_append 14 = .ok (.aload_n 0, 1) := by decide +kernel
theorem dX3_append_15 : decode cX3_append 15 = .ok (.getfield 22, 3) := by decide +kernel
theorem dX3_append_18 : decode cX3_append 18 = .ok (.imul, 1) := by decide +kernel
theorem dX3_append_19 : decode cX3_append 19 = .ok (.istore 6, 2) := by decide +kernel
theorem dX3_append_21 : decode cX3_append 21 = .ok (.aload_n 0, 1) := by decide +kernel
theorem dX3_append_22 : decode cX3_append 22 = .ok (.getfield 18, 3) := by decide +kernel
theorem dX3_append_25 : decode cX3_append 25 = .ok (.iload 6, 2) := by decide +kernel
theorem dX3_append_27 : decode cX3_append 27 = .ok (.iconst 0, 1) := by decide +kernel
theorem dX3_append_28 : decode cX3_append 28 = .ok (.iadd, 1) := by decide +kernel
theorem dX3_append_29 : decode cX3_append 29 = .ok (.iload_n 1, 1) := by decide +kernel
theorem dX3_append_30 : decode cX3_append 30 = .ok (.iastore, 1) := by decide +kernel
theorem dX3_append_31 : decode cX3_append 31 = .ok (.aload_n 0, 1) := by decide +kernel
theorem dX3_append_32 : decode cX3_append 32 = .ok (.getfield 18, 3) := by decide +kernel
theorem dX3_append_35 : decode cX3_append 35 = .ok (.iload 6, 2) := by decide +kernel
theorem dX3_append_37 : decode cX3_append 37 = .ok (.iconst 1, 1) := by decide +kernel
theorem dX3_append_38 : decode cX3_append 38 = .ok (.iadd, 1) := by decide +kernel
theorem dX3_append_39 : decode cX3_append 39 = .ok (.iload_n 2, 1) := by decide +kernel
theorem dX3_append_40 : decode cX3_append 40 = .ok (.iastore, 1) := by decide +kernel
theorem dX3_append_41 : decode cX3_append 41 = .ok (.aload_n 0, 1) := by decide +kernel
theorem dX3_append_42 : decode cX3_append 42 = .ok (.getfield 18, 3) := by decide +kernel
theorem dX3_append_45 : decode cX3_append 45 = .ok (.iload 6, 2) := by decide +kernel
theorem dX3_append_47 : decode cX3_append 47 = .ok (.iconst 2, 1) := by decide +kernel
theorem dX3_append_48 : decode cX3_append 48 = .ok (.iadd, 1) := by decide +kernel
theorem dX3_append_49 : decode cX3_append 49 = .ok (.iload_n 3, 1) := by decide +kernel
theorem dX3_append_50 : decode cX3_append 50 = .ok (.iastore, 1) := by decide +kernel
theorem dX3_append_51 : decode cX3_append 51 = .ok (.aload_n 0, 1) := by decide +kernel
theorem dX3_append_52 : decode cX3_append 52 = .ok (.getfield 18, 3) := by decide +kernel
theorem dX3_append_55 : decode cX3_append 55 = .ok (.iload 6, 2) := by decide +kernel
theorem dX3_append_57 : decode cX3_append 57 = .ok (.iconst 3, 1) := by decide +kernel
theorem dX3_append_58 : decode cX3_append 58 = .ok (.iadd, 1) := by decide +kernel
theorem dX3_append_59 : decode cX3_append 59 = .ok (.iload 4, 2) := by decide +kernel
theorem dX3_append_61 : decode cX3_append 61 = .ok (.ifCond .eq 7, 3) := by decide +kernel
theorem dX3_append_64 : decode cX3_append 64 = .ok (.iconst 1, 1) := by decide +kernel
theorem dX3_append_65 : decode cX3_append 65 = .ok (.goto 4, 3) := by decide +kernel
theorem dX3_append_68 : decode cX3_append 68 = .ok (.iconst 0, 1) := by decide +kernel
theorem dX3_append_69 : decode cX3_append 69 = .ok (.iastore, 1) := by decide +kernel
theorem dX3_append_70 : decode cX3_append 70 = .ok (.aload_n 0, 1) := by decide +kernel
theorem dX3_append_71 : decode cX3_append 71 = .ok (.dup, 1) := by decide +kernel
theorem dX3_append_72 : decode cX3_append 72 = .ok (.getfield 22, 3) := by decide +kernel
theorem dX3_append_75 : decode cX3_append 75 = .ok (.iconst 1, 1) := by decide +kernel
theorem dX3_append_76 : decode cX3_append 76 = .ok (.iadd, 1) := by decide +kernel
theorem dX3_append_77 : decode cX3_append 77 = .ok (.putfield 22, 3) := by decide +kernel
theorem dX3_append_80 : decode cX3_append 80 = .ok (.aload_n 0, 1) := by decide +kernel
theorem dX3_append_81 : decode cX3_append 81 = .ok (.dup, 1) := by decide +kernel
theorem dX3_append_82 : decode cX3_append 82 = .ok (.getfield 37, 3) := by decide +kernel
theorem dX3_append_85 : decode cX3_append 85 = .ok (.iconst 1, 1) := by decide +kernel
theorem dX3_append_86 : decode cX3_append 86 = .ok (.iadd, 1) := by decide +kernel
theorem dX3_append_87 : decode cX3_append 87 = .ok (.putfield 37, 3) := by decide +kernel
theorem dX3_append_90 : decode cX3_append 90 = .ok (.return_, 1) := by decide +kernel
theorem dX3_keepPace_0 : decode cX3_keepPace 0 = .ok (.aload_n 0, 1) := by decide +kernel
theorem dX3_keepPace_1 : decode cX3_keepPace 1 = .ok (.dup, 1) := by decide +kernel
theorem dX3_keepPace_2 : decode cX3_keepPace 2 = .ok (.getfield 34, 3) := by decide +kernel
theorem dX3_keepPace_5 : decode cX3_keepPace 5 = .ok (.bipush 16, 2) := by decide +kernel
theorem dX3_keepPace_7 : decode cX3_keepPace 7 = .ok (.aload_n 0, 1) := by decide +kernel
theorem dX3_keepPace_8 : decode cX3_keepPace 8 = .ok (.getfield 37, 3) := by decide +kernel
theorem dX3_keepPace_11 : decode cX3_keepPace 11 = .ok (.imul, 1) := by decide +kernel
theorem dX3_keepPace_12 : decode cX3_keepPace 12 = .ok (.aload_n 0, 1) := by decide +kernel
theorem dX3_keepPace_13 : decode cX3_keepPace 13 = .ok (.getfield 34, 3) := by decide +kernel
theorem dX3_keepPace_16 : decode cX3_keepPace 16 = .ok (.isub, 1) := by decide +kernel
theorem dX3_keepPace_17 : decode cX3_keepPace 17 = .ok (.bipush 8, 2) := by decide +kernel
theorem dX3_keepPace_19 : decode cX3_keepPace 19 = .ok (.idiv, 1) := by decide +kernel
theorem dX3_keepPace_20 : decode cX3_keepPace 20 = .ok (.iadd, 1) := by decide +kernel
theorem dX3_keepPace_21 : decode cX3_keepPace 21 = .ok (.putfield 34, 3) := by decide +kernel
theorem dX3_keepPace_24 : decode cX3_keepPace 24 = .ok (.aload_n 0, 1) := by decide +kernel
theorem dX3_keepPace_25 : decode cX3_keepPace 25 = .ok (.iconst 0, 1) := by decide +kernel
theorem dX3_keepPace_26 : decode cX3_keepPace 26 = .ok (.putfield 37, 3) := by decide +kernel
theorem dX3_keepPace_29 : decode cX3_keepPace 29 = .ok (.return_, 1) := by decide +kernel
theorem dX3_isDue_0 : decode cX3_isDue 0 = .ok (.aload_n 0, 1) := by decide +kernel
theorem dX3_isDue_1 : decode cX3_isDue 1 = .ok (.getfield 22, 3) := by decide +kernel
theorem dX3_isDue_4 : decode cX3_isDue 4 = .ok (.ifCond .le 36, 3) := by decide +kernel
theorem dX3_isDue_7 : decode cX3_isDue 7 = .ok (.aload_n 0, 1) := by decide +kernel
theorem dX3_isDue_8 : decode cX3_isDue 8 = .ok (.getfield 22, 3) := by decide +kernel
theorem dX3_isDue_11 : decode cX3_isDue 11 = .ok (.iload_n 2, 1) := by decide +kernel
theorem dX3_isDue_12 : decode cX3_isDue 12 = .ok (.if_icmp .ge 24, 3) := by decide +kernel
theorem dX3_isDue_15 : decode cX3_isDue 15 = .ok (.aload_n 0, 1) := by decide +kernel
theorem dX3_isDue_16 : decode cX3_isDue 16 = .ok (.getfield 34, 3) := by decide +kernel
theorem dX3_isDue_19 : decode cX3_isDue 19 = .ok (.iload_n 3, 1) := by decide +kernel
theorem dX3_isDue_20 : decode cX3_isDue 20 = .ok (.if_icmp .lt 16, 3) := by decide +kernel
theorem dX3_isDue_23 : decode cX3_isDue 23 = .ok (.iload_n 1, 1) := by decide +kernel
theorem dX3_isDue_24 : decode cX3_isDue 24 = .ok (.aload_n 0, 1) := by decide +kernel
theorem dX3_isDue_25 : decode cX3_isDue 25 = .ok (.getfield 15, 3) := by decide +kernel
theorem dX3_isDue_28 : decode cX3_isDue 28 = .ok (.isub, 1) := by decide +kernel
theorem dX3_isDue_29 : decode cX3_isDue 29 = .ok (.aload_n 0, 1) := by decide +kernel
theorem dX3_isDue_30 : decode cX3_isDue 30 = .ok (.getfield 9, 3) := by decide +kernel
theorem dX3_isDue_33 : decode cX3_isDue 33 = .ok (.if_icmp .lt 7, 3) := by decide +kernel
theorem dX3_isDue_36 : decode cX3_isDue 36 = .ok (.iconst 1, 1) := by decide +kernel
theorem dX3_isDue_37 : decode cX3_isDue 37 = .ok (.goto 4, 3) := by decide +kernel
theorem dX3_isDue_40 : decode cX3_isDue 40 = .ok (.iconst 0, 1) := by decide +kernel
theorem dX3_isDue_41 : decode cX3_isDue 41 = .ok (.ireturn, 1) := by decide +kernel
theorem dX3_takeAway_0 : decode cX3_takeAway 0 = .ok (.aload_n 0, 1) := by decide +kernel
theorem dX3_takeAway_1 : decode cX3_takeAway 1 = .ok (.dup, 1) := by decide +kernel
theorem dX3_takeAway_2 : decode cX3_takeAway 2 = .ok (.getfield 25, 3) := by decide +kernel
theorem dX3_takeAway_5 : decode cX3_takeAway 5 = .ok (.iconst 1, 1) := by decide +kernel
theorem dX3_takeAway_6 : decode cX3_takeAway 6 = .ok (.iadd, 1) := by decide +kernel
theorem dX3_takeAway_7 : decode cX3_takeAway 7 = .ok (.putfield 25, 3) := by decide +kernel
theorem dX3_takeAway_10 : decode cX3_takeAway 10 = .ok (.aload_n 0, 1) := by decide +kernel
theorem dX3_takeAway_11 : decode cX3_takeAway 11 = .ok (.dup, 1) := by decide +kernel
theorem dX3_takeAway_12 : decode cX3_takeAway 12 = .ok (.getfield 31, 3) := by decide +kernel
theorem dX3_takeAway_15 : decode cX3_takeAway 15 = .ok (.iload_n 1, 1) := by decide +kernel
theorem dX3_takeAway_16 : decode cX3_takeAway 16 = .ok (.iadd, 1) := by decide +kernel
theorem dX3_takeAway_17 : decode cX3_takeAway 17 = .ok (.putfield 31, 3) := by decide +kernel
theorem dX3_takeAway_20 : decode cX3_takeAway 20 = .ok (.aload_n 0, 1) := by decide +kernel
theorem dX3_takeAway_21 : decode cX3_takeAway 21 = .ok (.dup, 1) := by decide +kernel
theorem dX3_takeAway_22 : decode cX3_takeAway 22 = .ok (.getfield 22, 3) := by decide +kernel
theorem dX3_takeAway_25 : decode cX3_takeAway 25 = .ok (.iload_n 1, 1) := by decide +kernel
theorem dX3_takeAway_26 : decode cX3_takeAway 26 = .ok (.isub, 1) := by decide +kernel
theorem dX3_takeAway_27 : decode cX3_takeAway 27 = .ok (.putfield 22, 3) := by decide +kernel
theorem dX3_takeAway_30 : decode cX3_takeAway 30 = .ok (.aload_n 0, 1) := by decide +kernel
theorem dX3_takeAway_31 : decode cX3_takeAway 31 = .ok (.getfield 18, 3) := by decide +kernel
theorem dX3_takeAway_34 : decode cX3_takeAway 34 = .ok (.iconst 4, 1) := by decide +kernel
theorem dX3_takeAway_35 : decode cX3_takeAway 35 = .ok (.iload_n 1, 1) := by decide +kernel
theorem dX3_takeAway_36 : decode cX3_takeAway 36 = .ok (.imul, 1) := by decide +kernel
theorem dX3_takeAway_37 : decode cX3_takeAway 37 = .ok (.aload_n 0, 1) := by decide +kernel
theorem dX3_takeAway_38 : decode cX3_takeAway 38 = .ok (.getfield 18, 3) := by decide +kernel
theorem dX3_takeAway_41 : decode cX3_takeAway 41 = .ok (.iconst 0, 1) := by decide +kernel
theorem dX3_takeAway_42 : decode cX3_takeAway 42 = .ok (.iconst 4, 1) := by decide +kernel
theorem dX3_takeAway_43 : decode cX3_takeAway 43 = .ok (.aload_n 0, 1) := by decide +kernel
theorem dX3_takeAway_44 : decode cX3_takeAway 44 = .ok (.getfield 22, 3) := by decide +kernel
theorem dX3_takeAway_47 : decode cX3_takeAway 47 = .ok (.imul, 1) := by decide +kernel
theorem dX3_takeAway_48 : decode cX3_takeAway 48 = .ok (.invokestatic 40, 3) := by decide +kernel
theorem dX3_takeAway_51 : decode cX3_takeAway 51 = .ok (.aload_n 0, 1) := by decide +kernel
theorem dX3_takeAway_52 : decode cX3_takeAway 52 = .ok (.aload_n 0, 1) := by decide +kernel
theorem dX3_takeAway_53 : decode cX3_takeAway 53 = .ok (.getfield 22, 3) := by decide +kernel
theorem dX3_takeAway_56 : decode cX3_takeAway 56 = .ok (.ifCond .le 7, 3) := by decide +kernel
theorem dX3_takeAway_59 : decode cX3_takeAway 59 = .ok (.iload_n 2, 1) := by decide +kernel
theorem dX3_takeAway_60 : decode cX3_takeAway 60 = .ok (.goto 4, 3) := by decide +kernel
theorem dX3_takeAway_63 : decode cX3_takeAway 63 = .ok (.iconst (-1), 1) := by decide +kernel
theorem dX3_takeAway_64 : decode cX3_takeAway 64 = .ok (.putfield 15, 3) := by decide +kernel
theorem dX3_takeAway_67 : decode cX3_takeAway 67 = .ok (.return_, 1) := by decide +kernel
theorem dX3_learn_0 : decode cX3_learn 0 = .ok (.iload_n 1, 1) := by decide +kernel
theorem dX3_learn_1 : decode cX3_learn 1 = .ok (.iload_n 2, 1) := by decide +kernel
theorem dX3_learn_2 : decode cX3_learn 2 = .ok (.if_icmp .lt 21, 3) := by decide +kernel
theorem dX3_learn_5 : decode cX3_learn 5 = .ok (.aload_n 0, 1) := by decide +kernel
theorem dX3_learn_6 : decode cX3_learn 6 = .ok (.bipush 16, 2) := by decide +kernel
theorem dX3_learn_8 : decode cX3_learn 8 = .ok (.iconst 2, 1) := by decide +kernel
theorem dX3_learn_9 : decode cX3_learn 9 = .ok (.aload_n 0, 1) := by decide +kernel
theorem dX3_learn_10 : decode cX3_learn 10 = .ok (.getfield 9, 3) := by decide +kernel
theorem dX3_learn_13 : decode cX3_learn 13 = .ok (.imul, 1) := by decide +kernel
theorem dX3_learn_14 : decode cX3_learn 14 = .ok (.invokestatic 46, 3) := by decide +kernel
theorem dX3_learn_17 : decode cX3_learn 17 = .ok (.putfield 9, 3) := by decide +kernel
theorem dX3_learn_20 : decode cX3_learn 20 = .ok (.goto 22, 3) := by decide +kernel
theorem dX3_learn_23 : decode cX3_learn 23 = .ok (.iload_n 1, 1) := by decide +kernel
theorem dX3_learn_24 : decode cX3_learn 24 = .ok (.iconst 2, 1) := by decide +kernel
theorem dX3_learn_25 : decode cX3_learn 25 = .ok (.if_icmp .gt 17, 3) := by decide +kernel
theorem dX3_learn_28 : decode cX3_learn 28 = .ok (.aload_n 0, 1) := by decide +kernel
theorem dX3_learn_29 : decode cX3_learn 29 = .ok (.iconst 1, 1) := by decide +kernel
theorem dX3_learn_30 : decode cX3_learn 30 = .ok (.aload_n 0, 1) := by decide +kernel
theorem dX3_learn_31 : decode cX3_learn 31 = .ok (.getfield 9, 3) := by decide +kernel
theorem dX3_learn_34 : decode cX3_learn 34 = .ok (.iconst 2, 1) := by decide +kernel
theorem dX3_learn_35 : decode cX3_learn 35 = .ok (.idiv, 1) := by decide +kernel
theorem dX3_learn_36 : decode cX3_learn 36 = .ok (.invokestatic 52, 3) := by decide +kernel
theorem dX3_learn_39 : decode cX3_learn 39 = .ok (.putfield 9, 3) := by decide +kernel
theorem dX3_learn_42 : decode cX3_learn 42 = .ok (.return_, 1) := by decide +kernel
theorem dX4_init_0 : decode cX4_init 0 = .ok (.aload_n 0, 1) := by decide +kernel
theorem dX4_init_1 : decode cX4_init 1 = .ok (.invokespecial 3, 3) := by decide +kernel
theorem dX4_init_4 : decode cX4_init 4 = .ok (.aload_n 0, 1) := by decide +kernel
theorem dX4_init_5 : decode cX4_init 5 = .ok (.bipush 7, 2) := by decide +kernel
theorem dX4_init_7 : decode cX4_init 7 = .ok (.newarray .long, 2) := by decide +kernel
theorem dX4_init_9 : decode cX4_init 9 = .ok (.putfield 11, 3) := by decide +kernel
theorem dX4_init_12 : decode cX4_init 12 = .ok (.aload_n 0, 1) := by decide +kernel
theorem dX4_init_13 : decode cX4_init 13 = .ok (.bipush 72, 2) := by decide +kernel
theorem dX4_init_15 : decode cX4_init 15 = .ok (.newarray .int, 2) := by decide +kernel
theorem dX4_init_17 : decode cX4_init 17 = .ok (.putfield 15, 3) := by decide +kernel
theorem dX4_init_20 : decode cX4_init 20 = .ok (.aload_n 0, 1) := by decide +kernel
theorem dX4_init_21 : decode cX4_init 21 = .ok (.bipush 24, 2) := by decide +kernel
theorem dX4_init_23 : decode cX4_init 23 = .ok (.newarray .int, 2) := by decide +kernel
theorem dX4_init_25 : decode cX4_init 25 = .ok (.putfield 19, 3) := by decide +kernel
theorem dX4_init_28 : decode cX4_init 28 = .ok (.aload_n 0, 1) := by decide +kernel
theorem dX4_init_29 : decode cX4_init 29 = .ok (.bipush 24, 2) := by decide +kernel
theorem dX4_init_31 : decode cX4_init 31 = .ok (.newarray .int, 2) := by decide +kernel
theorem dX4_init_33 : decode cX4_init 33 = .ok (.putfield 22, 3) := by decide +kernel
theorem dX4_init_36 : decode cX4_init 36 = .ok (.aload_n 0, 1) := by decide +kernel
theorem dX4_init_37 : decode cX4_init 37 = .ok (.bipush 24, 2) := by decide +kernel
theorem dX4_init_39 : decode cX4_init 39 = .ok (.newarray .int, 2) := by decide +kernel
theorem dX4_init_41 : decode cX4_init 41 = .ok (.putfield 25, 3) := by decide +kernel
theorem dX4_init_44 : decode cX4_init 44 = .ok (.return_, 1) := by decide +kernel
theorem dX4_copyFrom_0 : decode cX4_copyFrom 0 = .ok (.aload_n 0, 1) := by decide +kernel
theorem dX4_copyFrom_1 : decode cX4_copyFrom 1 = .ok (.aload_n 1, 1) := by decide +kernel
theorem dX4_copyFrom_2 : decode cX4_copyFrom 2 = .ok (.getfield 28, 3) := by decide +kernel
theorem dX4_copyFrom_5 : decode cX4_copyFrom 5 = .ok (.putfield 28, 3) := by decide +kernel
theorem dX4_copyFrom_8 : decode cX4_copyFrom 8 = .ok (.aload_n 0, 1) := by decide +kernel
theorem dX4_copyFrom_9 : decode cX4_copyFrom 9 = .ok (.aload_n 1, 1) := by decide +kernel
theorem dX4_copyFrom_10 : decode cX4_copyFrom 10 = .ok (.getfield 32, 3) := by decide +kernel
theorem dX4_copyFrom_13 : decode cX4_copyFrom 13 = .ok (.putfield 32, 3) := by decide +kernel
theorem dX4_copyFrom_16 : decode cX4_copyFrom 16 = .ok (.aload_n 1, 1) := by decide +kernel
theorem dX4_copyFrom_17 : decode cX4_copyFrom 17 = .ok (.getfield 11, 3) := by decide +kernel
theorem dX4_copyFrom_20 : decode cX4_copyFrom 20 = .ok (.iconst 0, 1) := by decide +kernel
theorem dX4_copyFrom_21 : decode cX4_copyFrom 21 = .ok (.aload_n 0, 1) := by decide +kernel
theorem dX4_copyFrom_22 : decode cX4_copyFrom 22 = .ok (.getfield 11, 3) := by decide +kernel
theorem dX4_copyFrom_25 : decode cX4_copyFrom 25 = .ok (.iconst 0, 1) := by decide +kernel
theorem dX4_copyFrom_26 : decode cX4_copyFrom 26 = .ok (.bipush 7, 2) := by decide +kernel
theorem dX4_copyFrom_28 : decode cX4_copyFrom 28 = .ok (.invokestatic 35, 3) := by decide +kernel
theorem dX4_copyFrom_31 : decode cX4_copyFrom 31 = .ok (.aload_n 1, 1) := by decide +kernel
theorem dX4_copyFrom_32 : decode cX4_copyFrom 32 = .ok (.getfield 15, 3) := by decide +kernel
theorem dX4_copyFrom_35 : decode cX4_copyFrom 35 = .ok (.iconst 0, 1) := by decide +kernel
theorem dX4_copyFrom_36 : decode cX4_copyFrom 36 = .ok (.aload_n 0, 1) := by decide +kernel
theorem dX4_copyFrom_37 : decode cX4_copyFrom 37 = .ok (.getfield 15, 3) := by decide +kernel
theorem dX4_copyFrom_40 : decode cX4_copyFrom 40 = .ok (.iconst 0, 1) := by decide +kernel
theorem dX4_copyFrom_41 : decode cX4_copyFrom 41 = .ok (.aload_n 0, 1) := by decide +kernel
theorem dX4_copyFrom_42 : decode cX4_copyFrom 42 = .ok (.getfield 15, 3) := by decide +kernel
theorem dX4_copyFrom_45 : decode cX4_copyFrom 45 = .ok (.arraylength, 1) := by decide +kernel
theorem dX4_copyFrom_46 : decode cX4_copyFrom 46 = .ok (.invokestatic 35, 3) := by decide +kernel
theorem dX4_copyFrom_49 : decode cX4_copyFrom 49 = .ok (.return_, 1) := by decide +kernel
theorem dX4_lately_0 : decode cX4_lately 0 = .ok (.aload_n 0, 1) := by decide +kernel
theorem dX4_lately_1 : decode cX4_lately 1 = .ok (.getfield 15, 3) := by decide +kernel
theorem dX4_lately_4 : decode cX4_lately 4 = .ok (.bipush 6, 2) := by decide +kernel
theorem dX4_lately_6 : decode cX4_lately 6 = .ok (.aload_n 0, 1) := by decide +kernel
theorem dX4_lately_7 : decode cX4_lately 7 = .ok (.getfield 32, 3) := by decide +kernel
theorem dX4_lately_10 : decode cX4_lately 10 = .ok (.bipush 12, 2) := by decide +kernel
theorem dX4_lately_12 : decode cX4_lately 12 = .ok (.iadd, 1) := by decide +kernel
theorem dX4_lately_13 : decode cX4_lately 13 = .ok (.iload_n 1, 1) := by decide +kernel
theorem dX4_lately_14 : decode cX4_lately 14 = .ok (.isub, 1) := by decide +kernel
theorem dX4_lately_15 : decode cX4_lately 15 = .ok (.bipush 12, 2) := by decide +kernel
theorem dX4_lately_17 : decode cX4_lately 17 = .ok (.irem, 1) := by decide +kernel
theorem dX4_lately_18 : decode cX4_lately 18 = .ok (.imul, 1) := by decide +kernel
theorem dX4_lately_19 : decode cX4_lately 19 = .ok (.iload_n 2, 1) := by decide +kernel
theorem dX4_lately_20 : decode cX4_lately 20 = .ok (.iadd, 1) := by decide +kernel
theorem dX4_lately_21 : decode cX4_lately 21 = .ok (.iaload, 1) := by decide +kernel
theorem dX4_lately_22 : decode cX4_lately 22 = .ok (.ireturn, 1) := by decide +kernel
theorem dX4_isOpen_0 : decode cX4_isOpen 0 = .ok (.aload_n 0, 1) := by decide +kernel
theorem dX4_isOpen_1 : decode cX4_isOpen 1 = .ok (.getfield 25, 3) := by decide +kernel
theorem dX4_isOpen_4 : decode cX4_isOpen 4 = .ok (.iload_n 1, 1) := by decide +kernel
theorem dX4_isOpen_5 : decode cX4_isOpen 5 = .ok (.iaload, 1) := by decide +kernel
theorem dX4_isOpen_6 : decode cX4_isOpen 6 = .ok (.ifCond .le 7, 3) := by decide +kernel
theorem dX4_isOpen_9 : decode cX4_isOpen 9 = .ok (.iconst 1, 1) := by decide +kernel
theorem dX4_isOpen_10 : decode cX4_isOpen 10 = .ok (.goto 4, 3) := by decide +kernel
theorem dX4_isOpen_13 : decode cX4_isOpen 13 = .ok (.iconst 0, 1) := by decide +kernel
theorem dX4_isOpen_14 : decode cX4_isOpen 14 = .ok (.ireturn, 1) := by decide +kernel
theorem dX4_fits_0 : decode cX4_fits 0 = .ok (.aload_n 0, 1) := by decide +kernel
theorem dX4_fits_1 : decode cX4_fits 1 = .ok (.iload_n 1, 1) := by decide +kernel
theorem dX4_fits_2 : decode cX4_fits 2 = .ok (.invokevirtual 41, 3) := by decide +kernel
theorem dX4_fits_5 : decode cX4_fits 5 = .ok (.ifCond .eq 29, 3) := by decide +kernel
theorem dX4_fits_8 : decode cX4_fits 8 = .ok (.aload_n 0, 1) := by decide +kernel
theorem dX4_fits_9 : decode cX4_fits 9 = .ok (.iload_n 1, 1) := by decide +kernel
theorem dX4_fits_10 : decode cX4_fits 10 = .ok (.invokevirtual 45, 3) := by decide +kernel
theorem dX4_fits_13 : decode cX4_fits 13 = .ok (.iload_n 2, 1) := by decide +kernel
theorem dX4_fits_14 : decode cX4_fits 14 = .ok (.if_icmp .ne 20, 3) := by decide +kernel
theorem dX4_fits_17 : decode cX4_fits 17 = .ok (.aload_n 0, 1) := by decide +kernel
theorem dX4_fits_18 : decode cX4_fits 18 = .ok (.getfield 22, 3) := by decide +kernel
theorem dX4_fits_21 : decode cX4_fits 21 = .ok (.iload_n 1, 1) := by decide +kernel
theorem dX4_fits_22 : decode cX4_fits 22 = .ok (.iaload, 1) := by decide +kernel
theorem dX4_fits_23 : decode cX4_fits 23 = .ok (.iload_n 3, 1) := by decide +kernel
theorem dX4_fits_24 : decode cX4_fits 24 = .ok (.iadd, 1) := by decide +kernel
theorem dX4_fits_25 : decode cX4_fits 25 = .ok (.iload 4, 2) := by decide +kernel
theorem dX4_fits_27 : decode cX4_fits 27 = .ok (.if_icmp .gt 7, 3) := by decide +kernel
theorem dX4_fits_30 : decode cX4_fits 30 = .ok (.iconst 1, 1) := by decide +kernel
theorem dX4_fits_31 : decode cX4_fits 31 = .ok (.goto 4, 3) := by decide +kernel
theorem dX4_fits_34 : decode cX4_fits 34 = .ok (.iconst 0, 1) := by decide +kernel
theorem dX4_fits_35 : decode cX4_fits 35 = .ok (.ireturn, 1) := by decide +kernel
theorem dX4_endOf_0 : decode cX4_endOf 0 = .ok (.aload_n 0, 1) := by decide +kernel
theorem dX4_endOf_1 : decode cX4_endOf 1 = .ok (.getfield 19, 3) := by decide +kernel
theorem dX4_endOf_4 : decode cX4_endOf 4 = .ok (.iload_n 1, 1) := by decide +kernel
theorem dX4_endOf_5 : decode cX4_endOf 5 = .ok (.iaload, 1) := by decide +kernel
theorem dX4_endOf_6 : decode cX4_endOf 6 = .ok (.aload_n 0, 1) := by decide +kernel
theorem dX4_endOf_7 : decode cX4_endOf 7 = .ok (.getfield 22, 3) := by decide +kernel
theorem dX4_endOf_10 : decode cX4_endOf 10 = .ok (.iload_n 1, 1) := by decide +kernel
theorem dX4_endOf_11 : decode cX4_endOf 11 = .ok (.iaload, 1) := by decide +kernel
theorem dX4_endOf_12 : decode cX4_endOf 12 = .ok (.iadd, 1) := by decide +kernel
theorem dX4_endOf_13 : decode cX4_endOf 13 = .ok (.ireturn, 1) := by decide +kernel
theorem dX4_sizeOf_0 : decode cX4_sizeOf 0 = .ok (.aload_n 0, 1) := by decide +kernel
theorem dX4_sizeOf_1 : decode cX4_sizeOf 1 = .ok (.getfield 22, 3) := by decide +kernel
theorem dX4_sizeOf_4 : decode cX4_sizeOf 4 = .ok (.iload_n 1, 1) := by decide +kernel
theorem dX4_sizeOf_5 : decode cX4_sizeOf 5 = .ok (.iaload, 1) := by decide +kernel
theorem dX4_sizeOf_6 : decode cX4_sizeOf 6 = .ok (.ireturn, 1) := by decide +kernel
theorem dX4_open_0 : decode cX4_open 0 = .ok (.aload_n 0, 1) := by decide +kernel
theorem dX4_open_1 : decode cX4_open 1 = .ok (.getfield 19, 3) := by decide +kernel
theorem dX4_open_4 : decode cX4_open 4 = .ok (.iload_n 1, 1) := by decide +kernel
theorem dX4_open_5 : decode cX4_open 5 = .ok (.iload_n 2, 1) := by decide +kernel
theorem dX4_open_6 : decode cX4_open 6 = .ok (.iastore, 1) := by decide +kernel
theorem dX4_open_7 : decode cX4_open 7 = .ok (.aload_n 0, 1) := by decide +kernel
theorem dX4_open_8 : decode cX4_open 8 = .ok (.getfield 22, 3) := by decide +kernel
theorem dX4_open_11 : decode cX4_open 11 = .ok (.iload_n 1, 1) := by decide +kernel
theorem dX4_open_12 : decode cX4_open 12 = .ok (.iload_n 3, 1) := by decide +kernel
theorem dX4_open_13 : decode cX4_open 13 = .ok (.iastore, 1) := by decide +kernel
theorem dX4_open_14 : decode cX4_open 14 = .ok (.aload_n 0, 1) := by decide +kernel
theorem dX4_open_15 : decode cX4_open 15 = .ok (.getfield 25, 3) := by decide +kernel
theorem dX4_open_18 : decode cX4_open 18 = .ok (.iload_n 1, 1) := by decide +kernel
theorem dX4_open_19 : decode cX4_open 19 = .ok (.iconst 1, 1) := by decide +kernel
theorem dX4_open_20 : decode cX4_open 20 = .ok (.iastore, 1) := by decide +kernel
theorem dX4_open_21 : decode cX4_open 21 = .ok (.return_, 1) := by decide +kernel
theorem dX4_join_0 : decode cX4_join 0 = .ok (.aload_n 0, 1) := by decide +kernel
theorem dX4_join_1 : decode cX4_join 1 = .ok (.getfield 22, 3) := by decide +kernel
theorem dX4_join_4 : decode cX4_join 4 = .ok (.iload_n 1, 1) := by decide +kernel
theorem dX4_join_5 : decode cX4_join 5 = .ok (.dup2, 1) := by decide +kernel
theorem dX4_join_6 : decode cX4_join 6 = .ok (.iaload, 1) := by decide +kernel
theorem dX4_join_7 : decode cX4_join 7 = .ok (.iload_n 2, 1) := by decide +kernel
theorem dX4_join_8 : decode cX4_join 8 = .ok (.iadd, 1) := by decide +kernel
theorem dX4_join_9 : decode cX4_join 9 = .ok (.iastore, 1) := by decide +kernel
theorem dX4_join_10 : decode cX4_join 10 = .ok (.aload_n 0, 1) := by decide +kernel
theorem dX4_join_11 : decode cX4_join 11 = .ok (.getfield 25, 3) := by decide +kernel
theorem dX4_join_14 : decode cX4_join 14 = .ok (.iload_n 1, 1) := by decide +kernel
theorem dX4_join_15 : decode cX4_join 15 = .ok (.dup2, 1) := by decide +kernel
theorem dX4_join_16 : decode cX4_join 16 = .ok (.iaload, 1) := by decide +kernel
theorem dX4_join_17 : decode cX4_join 17 = .ok (.iconst 1, 1) := by decide +kernel
theorem dX4_join_18 : decode cX4_join 18 = .ok (.iadd, 1) := by decide +kernel
theorem dX4_join_19 : decode cX4_join 19 = .ok (.iastore, 1) := by decide +kernel
theorem dX4_join_20 : decode cX4_join 20 = .ok (.return_, 1) := by decide +kernel
theorem dX4_close_0 : decode cX4_close 0 = .ok (.iload_n 2, 1) := by decide +kernel
theorem dX4_close_1 : decode cX4_close 1 = .ok (.aload_n 0, 1) := by decide +kernel
theorem dX4_close_2 : decode cX4_close 2 = .ok (.getfield 22, 3) := by decide +kernel
theorem dX4_close_5 : decode cX4_close 5 = .ok (.iload_n 1, 1) := by decide +kernel
theorem dX4_close_6 : decode cX4_close 6 = .ok (.iaload, 1) := by decide +kernel
theorem dX4_close_7 : decode cX4_close 7 = .ok (.invokestatic 49, 3) := by decide +kernel
theorem dX4_close_10 : decode cX4_close 10 = .ok (.istore 4, 2) := by decide +kernel
theorem dX4_close_12 : decode cX4_close 12 = .ok (.aload_n 0, 1) := by decide +kernel
theorem dX4_close_13 : decode cX4_close 13 = .ok (.getfield 22, 3) := by decide +kernel
theorem dX4_close_16 : decode cX4_close 16 = .ok (.iload_n 1, 1) := by decide +kernel
theorem dX4_close_17 : decode cX4_close 17 = .ok (.iaload, 1) := by decide +kernel
theorem dX4_close_18 : decode cX4_close 18 = .ok (.iload 4, 2) := by decide +kernel
theorem dX4_close_20 : decode cX4_close 20 = .ok (.isub, 1) := by decide +kernel
theorem dX4_close_21 : decode cX4_close 21 = .ok (.istore 5, 2) := by decide +kernel
theorem dX4_close_23 : decode cX4_close 23 = .ok (.iload_n 3, 1) := by decide +kernel
theorem dX4_close_24 : decode cX4_close 24 = .ok (.ifCond .le 14, 3) := by decide +kernel
theorem dX4_close_27 : decode cX4_close 27 = .ok (.iload 5, 2) := by decide +kernel
theorem dX4_close_29 : decode cX4_close 29 = .ok (.iload_n 3, 1) := by decide +kernel
theorem dX4_close_30 : decode cX4_close 30 = .ok (.iadd, 1) := by decide +kernel
theorem dX4_close_31 : decode cX4_close 31 = .ok (.iconst 1, 1) := by decide +kernel
theorem dX4_close_32 : decode cX4_close 32 = .ok (.isub, 1) := by decide +kernel
theorem dX4_close_33 : decode cX4_close 33 = .ok (.iload_n 3, 1) := by decide +kernel
theorem dX4_close_34 : decode cX4_close 34 = .ok (.idiv, 1) := by decide +kernel
theorem dX4_close_35 : decode cX4_close 35 = .ok (.goto 4, 3) := by decide +kernel
theorem dX4_close_38 : decode cX4_close 38 = .ok (.iconst 0, 1) := by decide +kernel
theorem dX4_close_39 : decode cX4_close 39 = .ok (.istore 6, 2) := by decide +kernel
theorem dX4_close_41 : decode cX4_close 41 = .ok (.aload_n 0, 1) := by decide +kernel
theorem dX4_close_42 : decode cX4_close 42 = .ok (.aload_n 0, 1) := by decide +kernel
theorem dX4_close_43 : decode cX4_close 43 = .ok (.getfield 32, 3) := by decide +kernel
theorem dX4_close_46 : decode cX4_close 46 = .ok (.iconst 1, 1) := by decide +kernel
theorem dX4_close_47 : decode cX4_close 47 = .ok (.iadd, 1) := by decide +kernel
theorem dX4_close_48 : decode cX4_close 48 = .ok (.bipush 12, 2) := by decide +kernel
theorem dX4_close_50 : decode cX4_close 50 = .ok (.irem, 1) := by decide +kernel
theorem dX4_close_51 : decode cX4_close 51 = .ok (.putfield 32, 3) := by decide +kernel
theorem dX4_close_54 : decode cX4_close 54 = .ok (.aload_n 0, 1) := by decide +kernel
theorem dX4_close_55 : decode cX4_close 55 = .ok (.bipush 12, 2) := by decide +kernel
theorem dX4_close_57 : decode cX4_close 57 = .ok (.aload_n 0, 1) := by decide +kernel
theorem dX4_close_58 : decode cX4_close 58 = .ok (.getfield 28, 3) := by decide +kernel
theorem dX4_close_61 : decode cX4_close 61 = .ok (.iconst 1, 1) := by decide +kernel
theorem dX4_close_62 : decode cX4_close 62 = .ok (.iadd, 1) := by decide +kernel
theorem dX4_close_63 : decode cX4_close 63 = .ok (.invokestatic 49, 3) := by decide +kernel
theorem dX4_close_66 : decode cX4_close 66 = .ok (.putfield 28, 3) := by decide +kernel
theorem dX4_close_69 : decode cX4_close 69 = .ok (.bipush 6, 2) := by decide +kernel
theorem dX4_close_71 : decode cX4_close 71 = .ok (.aload_n 0, 1) := by decide +kernel
theorem dX4_close_72 : decode cX4_close 72 = .ok (.getfield 32, 3) := by decide +kernel
theorem dX4_close_75 : decode cX4_close 75 = .ok (.imul, 1) := by decide +kernel
theorem dX4_close_76 : decode cX4_close 76 = .ok (.istore 7, 2) := by decide +kernel
theorem dX4_close_78 : decode cX4_close 78 = .ok (.aload_n 0, 1) := by decide +kernel
theorem dX4_close_79 : decode cX4_close 79 = .ok (.getfield 15, 3) := by decide +kernel
theorem dX4_close_82 : decode cX4_close 82 = .ok (.iload 7, 2) := by decide +kernel
theorem dX4_close_84 : decode cX4_close 84 = .ok (.iload_n 1, 1) := by decide +kernel
theorem dX4_close_85 : decode cX4_close 85 = .ok (.iastore, 1) := by decide +kernel
theorem dX4_close_86 : decode cX4_close 86 = .ok (.aload_n 0, 1) := by decide +kernel
theorem dX4_close_87 : decode cX4_close 87 = .ok (.getfield 15, 3) := by decide +kernel
theorem dX4_close_90 : decode cX4_close 90 = .ok (.iload 7, 2) := by decide +kernel
theorem dX4_close_92 : decode cX4_close 92 = .ok (.iconst 1, 1) := by decide +kernel
theorem dX4_close_93 : decode cX4_close 93 = .ok (.iadd, 1) := by decide +kernel
theorem dX4_close_94 : decode cX4_close 94 = .ok (.aload_n 0, 1) := by decide +kernel
theorem dX4_close_95 : decode cX4_close 95 = .ok (.getfield 19, 3) := by decide +kernel
theorem dX4_close_98 : decode cX4_close 98 = .ok (.iload_n 1, 1) := by decide +kernel
theorem dX4_close_99 : decode cX4_close 99 = .ok (.iaload, 1) := by decide +kernel
theorem dX4_close_100 : decode cX4_close 100 = .ok (.iastore, 1) := by decide +kernel
theorem dX4_close_101 : decode cX4_close 101 = .ok (.aload_n 0, 1) := by decide +kernel
theorem dX4_close_102 : decode cX4_close 102 = .ok (.getfield 15, 3) := by decide +kernel
theorem dX4_close_105 : decode cX4_close 105 = .ok (.iload 7, 2) := by decide +kernel
theorem dX4_close_107 : decode cX4_close 107 = .ok (.iconst 2, 1) := by decide +kernel
theorem dX4_close_108 : decode cX4_close 108 = .ok (.iadd, 1) := by decide +kernel
theorem dX4_close_109 : decode cX4_close 109 = .ok (.aload_n 0, 1) := by decide +kernel
theorem dX4_close_110 : decode cX4_close 110 = .ok (.getfield 22, 3) := by decide +kernel
theorem dX4_close_113 : decode cX4_close 113 = .ok (.iload_n 1, 1) := by decide +kernel
theorem dX4_close_114 : decode cX4_close 114 = .ok (.iaload, 1) := by decide +kernel
theorem dX4_close_115 : decode cX4_close 115 = .ok (.iastore, 1) := by decide +kernel
theorem dX4_close_116 : decode cX4_close 116 = .ok (.aload_n 0, 1) := by decide +kernel
theorem dX4_close_117 : decode cX4_close 117 = .ok (.getfield 15, 3) := by decide +kernel
theorem dX4_close_120 : decode cX4_close 120 = .ok (.iload 7, 2) := by decide +kernel
theorem dX4_close_122 : decode cX4_close 122 = .ok (.iconst 3, 1) := by decide +kernel
theorem dX4_close_123 : decode cX4_close 123 = .ok (.iadd, 1) := by decide +kernel
theorem dX4_close_124 : decode cX4_close 124 = .ok (.aload_n 0, 1) := by decide +kernel
theorem dX4_close_125 : decode cX4_close 125 = .ok (.getfield 25, 3) := by decide +kernel
theorem dX4_close_128 : decode cX4_close 128 = .ok (.iload_n 1, 1) := by decide +kernel
theorem dX4_close_129 : decode cX4_close 129 = .ok (.iaload, 1) := by decide +kernel
theorem dX4_close_130 : decode cX4_close 130 = .ok (.iastore, 1) := by decide +kernel
theorem dX4_close_131 : decode cX4_close 131 = .ok (.aload_n 0, 1) := by decide +kernel
theorem dX4_close_132 : decode cX4_close 132 = .ok (.getfield 15, 3) := by decide +kernel
theorem dX4_close_135 : decode cX4_close 135 = .ok (.iload 7, 2) := by decide +kernel
theorem dX4_close_137 : decode cX4_close 137 = .ok (.iconst 4, 1) := by decide +kernel
theorem dX4_close_138 : decode cX4_close 138 = .ok (.iadd, 1) := by decide +kernel
theorem dX4_close_139 : decode cX4_close 139 = .ok (.iload 6, 2) := by decide +kernel
theorem dX4_close_141 : decode cX4_close 141 = .ok (.iastore, 1) := by decide +kernel
theorem dX4_close_142 : decode cX4_close 142 = .ok (.aload_n 0, 1) := by decide +kernel
theorem dX4_close_143 : decode cX4_close 143 = .ok (.getfield 15, 3) := by decide +kernel
theorem dX4_close_146 : decode cX4_close 146 = .ok (.iload 7, 2) := by decide +kernel
theorem dX4_close_148 : decode cX4_close 148 = .ok (.iconst 5, 1) := by decide +kernel
theorem dX4_close_149 : decode cX4_close 149 = .ok (.iadd, 1) := by decide +kernel
theorem dX4_close_150 : decode cX4_close 150 = .ok (.iload 4, 2) := by decide +kernel
theorem dX4_close_152 : decode cX4_close 152 = .ok (.iastore, 1) := by decide +kernel
theorem dX4_close_153 : decode cX4_close 153 = .ok (.aload_n 0, 1) := by decide +kernel
theorem dX4_close_154 : decode cX4_close 154 = .ok (.getfield 11, 3) := by decide +kernel
theorem dX4_close_157 : decode cX4_close 157 = .ok (.iconst 0, 1) := by decide +kernel
theorem dX4_close_158 : decode cX4_close 158 = .ok (.dup2, 1) := by decide +kernel
theorem dX4_close_159 : decode cX4_close 159 = .ok (.laload, 1) := by decide +kernel
theorem dX4_close_160 : decode cX4_close 160 = .ok (.lconst 1, 1) := by decide +kernel
theorem dX4_close_161 : decode cX4_close 161 = .ok (.ladd, 1) := by decide +kernel
theorem dX4_close_162 : decode cX4_close 162 = .ok (.lastore, 1) := by decide +kernel
theorem dX4_close_163 : decode cX4_close 163 = .ok (.aload_n 0, 1) := by decide +kernel
theorem dX4_close_164 : decode cX4_close 164 = .ok (.getfield 11, 3) := by decide +kernel
theorem dX4_close_167 : decode cX4_close 167 = .ok (.iconst 1, 1) := by decide +kernel
theorem dX4_close_168 : decode cX4_close 168 = .ok (.dup2, 1) := by decide +kernel
theorem dX4_close_169 : decode cX4_close 169 = .ok (.laload, 1) := by decide +kernel
theorem dX4_close_170 : decode cX4_close 170 = .ok (.aload_n 0, 1) := by decide +kernel
theorem dX4_close_171 : decode cX4_close 171 = .ok (.getfield 25, 3) := by decide +kernel
theorem dX4_close_174 : decode cX4_close 174 = .ok (.iload_n 1, 1) := by decide +kernel
theorem dX4_close_175 : decode cX4_close 175 = .ok (.iaload, 1) := by decide +kernel
theorem dX4_close_176 : decode cX4_close 176 = .ok (.i2l, 1) := by decide +kernel
theorem dX4_close_177 : decode cX4_close 177 = .ok (.ladd, 1) := by decide +kernel
theorem dX4_close_178 : decode cX4_close 178 = .ok (.lastore, 1) := by decide +kernel
theorem dX4_close_179 : decode cX4_close 179 = .ok (.aload_n 0, 1) := by decide +kernel
theorem dX4_close_180 : decode cX4_close 180 = .ok (.getfield 11, 3) := by decide +kernel
theorem dX4_close_183 : decode cX4_close 183 = .ok (.iconst 2, 1) := by decide +kernel
theorem dX4_close_184 : decode cX4_close 184 = .ok (.dup2, 1) := by decide +kernel
theorem dX4_close_185 : decode cX4_close 185 = .ok (.laload, 1) := by decide +kernel
theorem dX4_close_186 : decode cX4_close 186 = .ok (.aload_n 0, 1) := by decide +kernel
theorem dX4_close_187 : decode cX4_close 187 = .ok (.getfield 22, 3) := by decide +kernel
theorem dX4_close_190 : decode cX4_close 190 = .ok (.iload_n 1, 1) := by decide +kernel
theorem dX4_close_191 : decode cX4_close 191 = .ok (.iaload, 1) := by decide +kernel
theorem dX4_close_192 : decode cX4_close 192 = .ok (.i2l, 1) := by decide +kernel
theorem dX4_close_193 : decode cX4_close 193 = .ok (.ladd, 1) := by decide +kernel
theorem dX4_close_194 : decode cX4_close 194 = .ok (.lastore, 1) := by decide +kernel
theorem dX4_close_195 : decode cX4_close 195 = .ok (.aload_n 0, 1) := by decide +kernel
theorem dX4_close_196 : decode cX4_close 196 = .ok (.getfield 11, 3) := by decide +kernel
theorem dX4_close_199 : decode cX4_close 199 = .ok (.iconst 3, 1) := by decide +kernel
theorem dX4_close_200 : decode cX4_close 200 = .ok (.dup2, 1) := by decide +kernel
theorem dX4_close_201 : decode cX4_close 201 = .ok (.laload, 1) := by decide +kernel
theorem dX4_close_202 : decode cX4_close 202 = .ok (.iload 4, 2) := by decide +kernel
theorem dX4_close_204 : decode cX4_close 204 = .ok (.ifCond .le 7, 3) := by decide +kernel
theorem dX4_close_207 : decode cX4_close 207 = .ok (.lconst 1, 1) := by decide +kernel
theorem dX4_close_208 : decode cX4_close 208 = .ok (.goto 4, 3) := by decide +kernel
theorem dX4_close_211 : decode cX4_close 211 = .ok (.lconst 0, 1) := by decide +kernel
theorem dX4_close_212 : decode cX4_close 212 = .ok (.ladd, 1) := by decide +kernel
theorem dX4_close_213 : decode cX4_close 213 = .ok (.lastore, 1) := by decide +kernel
theorem dX4_close_214 : decode cX4_close 214 = .ok (.aload_n 0, 1) := by decide +kernel
theorem dX4_close_215 : decode cX4_close 215 = .ok (.getfield 11, 3) := by decide +kernel
theorem dX4_close_218 : decode cX4_close 218 = .ok (.iconst 4, 1) := by decide +kernel
theorem dX4_close_219 : decode cX4_close 219 = .ok (.dup2, 1) := by decide +kernel
theorem dX4_close_220 : decode cX4_close 220 = .ok (.laload, 1) := by decide +kernel
theorem dX4_close_221 : decode cX4_close 221 = .ok (.iload 4, 2) := by decide +kernel
theorem dX4_close_223 : decode cX4_close 223 = .ok (.i2l, 1) := by decide +kernel
theorem dX4_close_224 : decode cX4_close 224 = .ok (.ladd, 1) := by decide +kernel
theorem dX4_close_225 : decode cX4_close 225 = .ok (.lastore, 1) := by decide +kernel
theorem dX4_close_226 : decode cX4_close 226 = .ok (.aload_n 0, 1) := by decide +kernel
theorem dX4_close_227 : decode cX4_close 227 = .ok (.getfield 11, 3) := by decide +kernel
theorem dX4_close_230 : decode cX4_close 230 = .ok (.iconst 5, 1) := by decide +kernel
theorem dX4_close_231 : decode cX4_close 231 = .ok (.dup2, 1) := by decide +kernel
theorem dX4_close_232 : decode cX4_close 232 = .ok (.laload, 1) := by decide +kernel
theorem dX4_close_233 : decode cX4_close 233 = .ok (.iload 5, 2) := by decide +kernel
theorem dX4_close_235 : decode cX4_close 235 = .ok (.i2l, 1) := by decide +kernel
theorem dX4_close_236 : decode cX4_close 236 = .ok (.ladd, 1) := by decide +kernel
theorem dX4_close_237 : decode cX4_close 237 = .ok (.lastore, 1) := by decide +kernel
theorem dX4_close_238 : decode cX4_close 238 = .ok (.aload_n 0, 1) := by decide +kernel
theorem dX4_close_239 : decode cX4_close 239 = .ok (.getfield 11, 3) := by decide +kernel
theorem dX4_close_242 : decode cX4_close 242 = .ok (.bipush 6, 2) := by decide +kernel
theorem dX4_close_244 : decode cX4_close 244 = .ok (.dup2, 1) := by decide +kernel
theorem dX4_close_245 : decode cX4_close 245 = .ok (.laload, 1) := by decide +kernel
theorem dX4_close_246 : decode cX4_close 246 = .ok (.iload 6, 2) := by decide +kernel
theorem dX4_close_248 : decode cX4_close 248 = .ok (.i2l, 1) := by decide +kernel
theorem dX4_close_249 : decode cX4_close 249 = .ok (.ladd, 1) := by decide +kernel
theorem dX4_close_250 : decode cX4_close 250 = .ok (.lastore, 1) := by decide +kernel
theorem dX4_close_251 : decode cX4_close 251 = .ok (.aload_n 0, 1) := by decide +kernel
theorem dX4_close_252 : decode cX4_close 252 = .ok (.getfield 25, 3) := by decide +kernel
theorem dX4_close_255 : decode cX4_close 255 = .ok (.iload_n 1, 1) := by decide +kernel
theorem dX4_close_256 : decode cX4_close 256 = .ok (.iconst 0, 1) := by decide +kernel
theorem dX4_close_257 : decode cX4_close 257 = .ok (.iastore, 1) := by decide +kernel
theorem dX4_close_258 : decode cX4_close 258 = .ok (.return_, 1) := by decide +kernel
theorem dX5_init_0 : decode cX5_init 0 = .ok (.aload_n 0, 1) := by decide +kernel
theorem dX5_init_1 : decode cX5_init 1 = .ok (.invokespecial 3, 3) := by decide +kernel
theorem dX5_init_4 : decode cX5_init 4 = .ok (.aload_n 0, 1) := by decide +kernel
theorem dX5_init_5 : decode cX5_init 5 = .ok (.new 9, 3) := by decide +kernel
theorem dX5_init_8 : decode cX5_init 8 = .ok (.dup, 1) := by decide +kernel
theorem dX5_init_9 : decode cX5_init 9 = .ok (.invokespecial 11, 3) := by decide +kernel
theorem dX5_init_12 : decode cX5_init 12 = .ok (.putfield 12, 3) := by decide +kernel
theorem dX5_init_15 : decode cX5_init 15 = .ok (.aload_n 0, 1) := by decide +kernel
theorem dX5_init_16 : decode cX5_init 16 = .ok (.new 18, 3) := by decide +kernel
theorem dX5_init_19 : decode cX5_init 19 = .ok (.dup, 1) := by decide +kernel
theorem dX5_init_20 : decode cX5_init 20 = .ok (.invokespecial 20, 3) := by decide +kernel
theorem dX5_init_23 : decode cX5_init 23 = .ok (.putfield 21, 3) := by decide +kernel
theorem dX5_init_26 : decode cX5_init 26 = .ok (.aload_n 0, 1) := by decide +kernel
theorem dX5_init_27 : decode cX5_init 27 = .ok (.new 25, 3) := by decide +kernel
theorem dX5_init_30 : decode cX5_init 30 = .ok (.dup, 1) := by decide +kernel
theorem dX5_init_31 : decode cX5_init 31 = .ok (.invokespecial 27, 3) := by decide +kernel
theorem dX5_init_34 : decode cX5_init 34 = .ok (.putfield 28, 3) := by decide +kernel
theorem dX5_init_37 : decode cX5_init 37 = .ok (.aload_n 0, 1) := by decide +kernel
theorem dX5_init_38 : decode cX5_init 38 = .ok (.iconst 4, 1) := by decide +kernel
theorem dX5_init_39 : decode cX5_init 39 = .ok (.anewarray 32, 3) := by decide +kernel
theorem dX5_init_42 : decode cX5_init 42 = .ok (.putfield 34, 3) := by decide +kernel
theorem dX5_init_45 : decode cX5_init 45 = .ok (.aload_n 0, 1) := by decide +kernel
theorem dX5_init_46 : decode cX5_init 46 = .ok (.new 38, 3) := by decide +kernel
theorem dX5_init_49 : decode cX5_init 49 = .ok (.dup, 1) := by decide +kernel
theorem dX5_init_50 : decode cX5_init 50 = .ok (.invokespecial 40, 3) := by decide +kernel
theorem dX5_init_53 : decode cX5_init 53 = .ok (.putfield 41, 3) := by decide +kernel
theorem dX5_init_56 : decode cX5_init 56 = .ok (.aload_n 0, 1) := by decide +kernel
theorem dX5_init_57 : decode cX5_init 57 = .ok (.getstatic 45, 3) := by decide +kernel
theorem dX5_init_60 : decode cX5_init 60 = .ok (.invokevirtual 49, 3) := by decide +kernel
theorem dX5_init_63 : decode cX5_init 63 = .ok (.checkcast 50, 3) := by decide +kernel
theorem dX5_init_66 : decode cX5_init 66 = .ok (.putfield 54, 3) := by decide +kernel
theorem dX5_init_69 : decode cX5_init 69 = .ok (.iconst 0, 1) := by decide +kernel
theorem dX5_init_70 : decode cX5_init 70 = .ok (.istore_n 1, 1) := by decide +kernel
theorem dX5_init_71 : decode cX5_init 71 = .ok (.iload_n 1, 1) := by decide +kernel
theorem dX5_init_72 : decode cX5_init 72 = .ok (.iconst 4, 1) := by decide +kernel
theorem dX5_init_73 : decode cX5_init 73 = .ok (.if_icmp .ge 22, 3) := by decide +kernel
theorem dX5_init_76 : decode cX5_init 76 = .ok (.aload_n 0, 1) := by decide +kernel
theorem dX5_init_77 : decode cX5_init 77 = .ok (.getfield 34, 3) := by decide +kernel
theorem dX5_init_80 : decode cX5_init 80 = .ok (.iload_n 1, 1) := by decide +kernel
theorem dX5_init_81 : decode cX5_init 81 = .ok (.new 32, 3) := by decide +kernel
theorem dX5_init_84 : decode cX5_init 84 = .ok (.dup, 1) := by decide +kernel
theorem dX5_init_85 : decode cX5_init 85 = .ok (.invokespecial 57, 3) := by decide +kernel
theorem dX5_init_88 : decode cX5_init 88 = .ok (.aastore, 1) := by decide +kernel
theorem dX5_init_89 : decode cX5_init 89 = .ok (.iinc 1 1, 3) := by decide +kernel
theorem dX5_init_92 : decode cX5_init 92 = .ok (.goto (-21), 3) := by decide +kernel
theorem dX5_init_95 : decode cX5_init 95 = .ok (.return_, 1) := by decide +kernel
theorem dX5_become_0 : decode cX5_become 0 = .ok (.aload_n 0, 1) := by decide +kernel
theorem dX5_become_1 : decode cX5_become 1 = .ok (.getfield 12, 3) := by decide +kernel
theorem dX5_become_4 : decode cX5_become 4 = .ok (.aload_n 1, 1) := by decide +kernel
theorem dX5_become_5 : decode cX5_become 5 = .ok (.getfield 12, 3) := by decide +kernel
theorem dX5_become_8 : decode cX5_become 8 = .ok (.invokevirtual 58, 3) := by decide +kernel
theorem dX5_become_11 : decode cX5_become 11 = .ok (.aload_n 0, 1) := by decide +kernel
theorem dX5_become_12 : decode cX5_become 12 = .ok (.getfield 21, 3) := by decide +kernel
theorem dX5_become_15 : decode cX5_become 15 = .ok (.aload_n 1, 1) := by decide +kernel
theorem dX5_become_16 : decode cX5_become 16 = .ok (.getfield 21, 3) := by decide +kernel
theorem dX5_become_19 : decode cX5_become 19 = .ok (.invokevirtual 62, 3) := by decide +kernel
theorem dX5_become_22 : decode cX5_become 22 = .ok (.aload_n 0, 1) := by decide +kernel
theorem dX5_become_23 : decode cX5_become 23 = .ok (.getfield 28, 3) := by decide +kernel
theorem dX5_become_26 : decode cX5_become 26 = .ok (.aload_n 1, 1) := by decide +kernel
theorem dX5_become_27 : decode cX5_become 27 = .ok (.getfield 28, 3) := by decide +kernel
theorem dX5_become_30 : decode cX5_become 30 = .ok (.invokevirtual 65, 3) := by decide +kernel
theorem dX5_become_33 : decode cX5_become 33 = .ok (.iconst 0, 1) := by decide +kernel
theorem dX5_become_34 : decode cX5_become 34 = .ok (.istore_n 2, 1) := by decide +kernel
theorem dX5_become_35 : decode cX5_become 35 = .ok (.iload_n 2, 1) := by decide +kernel
theorem dX5_become_36 : decode cX5_become 36 = .ok (.iconst 4, 1) := by decide +kernel
theorem dX5_become_37 : decode cX5_become 37 = .ok (.if_icmp .ge 24, 3) := by decide +kernel
theorem dX5_become_40 : decode cX5_become 40 = .ok (.aload_n 0, 1) := by decide +kernel
theorem dX5_become_41 : decode cX5_become 41 = .ok (.getfield 34, 3) := by decide +kernel
theorem dX5_become_44 : decode cX5_become 44 = .ok (.iload_n 2, 1) := by decide +kernel
theorem dX5_become_45 : decode cX5_become 45 = .ok (.aaload, 1) := by decide +kernel
theorem dX5_become_46 : decode cX5_become 46 = .ok (.aload_n 1, 1) := by decide +kernel
theorem dX5_become_47 : decode cX5_become 47 = .ok (.getfield 34, 3) := by decide +kernel
theorem dX5_become_50 : decode cX5_become 50 = .ok (.iload_n 2, 1) := by decide +kernel
theorem dX5_become_51 : decode cX5_become 51 = .ok (.aaload, 1) := by decide +kernel
theorem dX5_become_52 : decode cX5_become 52 = .ok (.invokevirtual 68, 3) := by decide +kernel
theorem dX5_become_55 : decode cX5_become 55 = .ok (.iinc 2 1, 3) := by decide +kernel
theorem dX5_become_58 : decode cX5_become 58 = .ok (.goto (-23), 3) := by decide +kernel
theorem dX5_become_61 : decode cX5_become 61 = .ok (.aload_n 0, 1) := by decide +kernel
theorem dX5_become_62 : decode cX5_become 62 = .ok (.getfield 41, 3) := by decide +kernel
theorem dX5_become_65 : decode cX5_become 65 = .ok (.aload_n 1, 1) := by decide +kernel
theorem dX5_become_66 : decode cX5_become 66 = .ok (.getfield 41, 3) := by decide +kernel
theorem dX5_become_69 : decode cX5_become 69 = .ok (.invokevirtual 71, 3) := by decide +kernel
theorem dX5_become_72 : decode cX5_become 72 = .ok (.aload_n 1, 1) := by decide +kernel
theorem dX5_become_73 : decode cX5_become 73 = .ok (.getfield 54, 3) := by decide +kernel
theorem dX5_become_76 : decode cX5_become 76 = .ok (.iconst 0, 1) := by decide +kernel
theorem dX5_become_77 : decode cX5_become 77 = .ok (.aload_n 0, 1) := by decide +kernel
theorem dX5_become_78 : decode cX5_become 78 = .ok (.getfield 54, 3) := by decide +kernel
theorem dX5_become_81 : decode cX5_become 81 = .ok (.iconst 0, 1) := by decide +kernel
theorem dX5_become_82 : decode cX5_become 82 = .ok (.bipush 9, 2) := by decide +kernel
theorem dX5_become_84 : decode cX5_become 84 = .ok (.invokestatic 74, 3) := by decide +kernel
theorem dX5_become_87 : decode cX5_become 87 = .ok (.aload_n 0, 1) := by decide +kernel
theorem dX5_become_88 : decode cX5_become 88 = .ok (.aload_n 1, 1) := by decide +kernel
theorem dX5_become_89 : decode cX5_become 89 = .ok (.getfield 80, 3) := by decide +kernel
theorem dX5_become_92 : decode cX5_become 92 = .ok (.putfield 80, 3) := by decide +kernel
theorem dX5_become_95 : decode cX5_become 95 = .ok (.aload_n 0, 1) := by decide +kernel
theorem dX5_become_96 : decode cX5_become 96 = .ok (.aload_n 1, 1) := by decide +kernel
theorem dX5_become_97 : decode cX5_become 97 = .ok (.getfield 84, 3) := by decide +kernel
theorem dX5_become_100 : decode cX5_become 100 = .ok (.putfield 84, 3) := by decide +kernel
theorem dX5_become_103 : decode cX5_become 103 = .ok (.return_, 1) := by decide +kernel
theorem dX5_hashFlow_0 : decode cX5_hashFlow 0 = .ok (.aload_n 0, 1) := by decide +kernel
theorem dX5_hashFlow_1 : decode cX5_hashFlow 1 = .ok (.getfield 12, 3) := by decide +kernel
theorem dX5_hashFlow_4 : decode cX5_hashFlow 4 = .ok (.aload_n 0, 1) := by decide +kernel
theorem dX5_hashFlow_5 : decode cX5_hashFlow 5 = .ok (.getfield 21, 3) := by decide +kernel
theorem dX5_hashFlow_8 : decode cX5_hashFlow 8 = .ok (.iconst 0, 1) := by decide +kernel
theorem dX5_hashFlow_9 : decode cX5_hashFlow 9 = .ok (.iload_n 1, 1) := by decide +kernel
theorem dX5_hashFlow_10 : decode cX5_hashFlow 10 = .ok (.invokevirtual 87, 3) := by decide +kernel
theorem dX5_hashFlow_13 : decode cX5_hashFlow 13 = .ok (.aload_n 0, 1) := by decide +kernel
theorem dX5_hashFlow_14 : decode cX5_hashFlow 14 = .ok (.getfield 21, 3) := by decide +kernel
theorem dX5_hashFlow_17 : decode cX5_hashFlow 17 = .ok (.iconst 1, 1) := by decide +kernel
theorem dX5_hashFlow_18 : decode cX5_hashFlow 18 = .ok (.iload_n 1, 1) := by decide +kernel
theorem dX5_hashFlow_19 : decode cX5_hashFlow 19 = .ok (.invokevirtual 87, 3) := by decide +kernel
theorem dX5_hashFlow_22 : decode cX5_hashFlow 22 = .ok (.aload_n 0, 1) := by decide +kernel
theorem dX5_hashFlow_23 : decode cX5_hashFlow 23 = .ok (.getfield 21, 3) := by decide +kernel
theorem dX5_hashFlow_26 : decode cX5_hashFlow 26 = .ok (.iconst 2, 1) := by decide +kernel
theorem dX5_hashFlow_27 : decode cX5_hashFlow 27 = .ok (.iload_n 1, 1) := by decide +kernel
theorem dX5_hashFlow_28 : decode cX5_hashFlow 28 = .ok (.invokevirtual 87, 3) := by decide +kernel
theorem dX5_hashFlow_31 : decode cX5_hashFlow 31 = .ok (.aload_n 0, 1) := by decide +kernel
theorem dX5_hashFlow_32 : decode cX5_hashFlow 32 = .ok (.getfield 21, 3) := by decide +kernel
theorem dX5_hashFlow_35 : decode cX5_hashFlow 35 = .ok (.iconst 3, 1) := by decide +kernel
theorem dX5_hashFlow_36 : decode cX5_hashFlow 36 = .ok (.iload_n 1, 1) := by decide +kernel
theorem dX5_hashFlow_37 : decode cX5_hashFlow 37 = .ok (.invokevirtual 87, 3) := by decide +kernel
theorem dX5_hashFlow_40 : decode cX5_hashFlow 40 = .ok (.aload_n 0, 1) := by decide +kernel
theorem dX5_hashFlow_41 : decode cX5_hashFlow 41 = .ok (.getfield 21, 3) := by decide +kernel
theorem dX5_hashFlow_44 : decode cX5_hashFlow 44 = .ok (.iconst 4, 1) := by decide +kernel
theorem dX5_hashFlow_45 : decode cX5_hashFlow 45 = .ok (.iload_n 1, 1) := by decide +kernel
theorem dX5_hashFlow_46 : decode cX5_hashFlow 46 = .ok (.invokevirtual 87, 3) := by decide +kernel
theorem dX5_hashFlow_49 : decode cX5_hashFlow 49 = .ok (.invokevirtual 91, 3) := by decide +kernel
theorem dX5_hashFlow_52 : decode cX5_hashFlow 52 = .ok (.ireturn, 1) := by decide +kernel
theorem dX5_foldedFields_0 : decode cX5_foldedFields 0 = .ok (.iconst 0, 1) := by decide +kernel
theorem dX5_foldedFields_1 : decode cX5_foldedFields 1 = .ok (.istore_n 2, 1) := by decide +kernel
theorem dX5_foldedFields_2 : decode cX5_foldedFields 2 = .ok (.iconst 0, 1) := by decide +kernel
theorem dX5_foldedFields_3 : decode cX5_foldedFields 3 = .ok (.istore_n 3, 1) := by decide +kernel
theorem dX5_foldedFields_4 : decode cX5_foldedFields 4 = .ok (.iload_n 3, 1) := by decide +kernel
theorem dX5_foldedFields_5 : decode cX5_foldedFields 5 = .ok (.iconst 4, 1) := by decide +kernel
theorem dX5_foldedFields_6 : decode cX5_foldedFields 6 = .ok (.if_icmp .gt 32, 3) := by decide +kernel
theorem dX5_foldedFields_9 : decode cX5_foldedFields 9 = .ok (.aload_n 0, 1) := by decide +kernel
theorem dX5_foldedFields_10 : decode cX5_foldedFields 10 = .ok (.getfield 12, 3) := by decide +kernel
theorem dX5_foldedFields_13 : decode cX5_foldedFields 13 = .ok (.iload_n 3, 1) := by decide +kernel
theorem dX5_foldedFields_14 : decode cX5_foldedFields 14 = .ok (.invokevirtual 95, 3) := by decide +kernel
theorem dX5_foldedFields_17 : decode cX5_foldedFields 17 = .ok (.ifCond .eq 15, 3) := by decide +kernel
theorem dX5_foldedFields_20 : decode cX5_foldedFields 20 = .ok (.iload_n 2, 1) := by decide +kernel
theorem dX5_foldedFields_21 : decode cX5_foldedFields 21 = .ok (.aload_n 0, 1) := by decide +kernel
theorem dX5_foldedFields_22 : decode cX5_foldedFields 22 = .ok (.getfield 21, 3) := by decide +kernel
theorem dX5_foldedFields_25 : decode cX5_foldedFields 25 = .ok (.iload_n 3, 1) := by decide +kernel
theorem dX5_foldedFields_26 : decode cX5_foldedFields 26 = .ok (.iload_n 1, 1) := by decide +kernel
theorem dX5_foldedFields_27 : decode cX5_foldedFields 27 = .ok (.invokevirtual 87, 3) := by decide +kernel
theorem dX5_foldedFields_30 : decode cX5_foldedFields 30 = .ok (.ixor, 1) := by decide +kernel
theorem dX5_foldedFields_31 : decode cX5_foldedFields 31 = .ok (.istore_n 2, 1) := by decide +kernel
theorem dX5_foldedFields_32 : decode cX5_foldedFields 32 = .ok (.iinc 3 1, 3) := by decide +kernel
theorem dX5_foldedFields_35 : decode cX5_foldedFields 35 = .ok (.goto (-31), 3) := by decide +kernel
theorem dX5_foldedFields_38 : decode cX5_foldedFields 38 = .ok (.iload_n 2, 1) := by decide +kernel
theorem dX5_foldedFields_39 : decode cX5_foldedFields 39 = .ok (.ireturn, 1) := by decide +kernel
theorem dX5_entryOf_0 : decode cX5_entryOf 0 = .ok (.aload_n 0, 1) := by decide +kernel
theorem dX5_entryOf_1 : decode cX5_entryOf 1 = .ok (.iload_n 1, 1) := by decide +kernel
theorem dX5_entryOf_2 : decode cX5_entryOf 2 = .ok (.invokevirtual 99, 3) := by decide +kernel
theorem dX5_entryOf_5 : decode cX5_entryOf 5 = .ok (.invokestatic 103, 3) := by decide +kernel
theorem dX5_entryOf_8 : decode cX5_entryOf 8 = .ok (.ireturn, 1) := by decide +kernel
theorem dX5_wishOf_0 : decode cX5_wishOf 0 = .ok (.aload_n 0, 1) := by decide +kernel
theorem dX5_wishOf_1 : decode cX5_wishOf 1 = .ok (.getfield 21, 3) := by decide +kernel
theorem dX5_wishOf_4 : decode cX5_wishOf 4 = .ok (.bipush 13, 2) := by decide +kernel
theorem dX5_wishOf_6 : decode cX5_wishOf 6 = .ok (.iload_n 1, 1) := by decide +kernel
theorem dX5_wishOf_7 : decode cX5_wishOf 7 = .ok (.invokevirtual 87, 3) := by decide +kernel
theorem dX5_wishOf_10 : decode cX5_wishOf 10 = .ok (.istore_n 2, 1) := by decide +kernel
theorem dX5_wishOf_11 : decode cX5_wishOf 11 = .ok (.iload_n 2, 1) := by decide +kernel
theorem dX5_wishOf_12 : decode cX5_wishOf 12 = .ok (.iconst (-1), 1) := by decide +kernel
theorem dX5_wishOf_13 : decode cX5_wishOf 13 = .ok (.if_icmp .eq 7, 3) := by decide +kernel
theorem dX5_wishOf_16 : decode cX5_wishOf 16 = .ok (.iload_n 2, 1) := by decide +kernel
theorem dX5_wishOf_17 : decode cX5_wishOf 17 = .ok (.goto 16, 3) := by decide +kernel
theorem dX5_wishOf_20 : decode cX5_wishOf 20 = .ok (.aload_n 0, 1) := by decide +kernel
theorem dX5_wishOf_21 : decode cX5_wishOf 21 = .ok (.getfield 28, 3) := by decide +kernel
theorem dX5_wishOf_24 : decode cX5_wishOf 24 = .ok (.getfield 106, 3) := by decide +kernel
theorem dX5_wishOf_27 : decode cX5_wishOf 27 = .ok (.aload_n 0, 1) := by decide +kernel
theorem dX5_wishOf_28 : decode cX5_wishOf 28 = .ok (.iload_n 1, 1) := by decide +kernel
theorem dX5_wishOf_29 : decode cX5_wishOf 29 = .ok (.invokevirtual 109, 3) := by decide +kernel
theorem dX5_wishOf_32 : decode cX5_wishOf 32 = .ok (.iaload, 1) := by decide +kernel
theorem dX5_wishOf_33 : decode cX5_wishOf 33 = .ok (.ireturn, 1) := by decide +kernel
theorem dX5_flowsOfEntry_0 : decode cX5_flowsOfEntry 0 = .ok (.iconst 0, 1) := by decide +kernel
theorem dX5_flowsOfEntry_1 : decode cX5_flowsOfEntry 1 = .ok (.istore_n 2, 1) := by decide +kernel
theorem dX5_flowsOfEntry_2 : decode cX5_flowsOfEntry 2 = .ok (.iconst 0, 1) := by decide +kernel
theorem dX5_flowsOfEntry_3 : decode cX5_flowsOfEntry 3 = .ok (.istore_n 3, 1) := by decide +kernel
theorem dX5_flowsOfEntry_4 : decode cX5_flowsOfEntry 4 = .ok (.iload_n 3, 1) := by decide +kernel
theorem dX5_flowsOfEntry_5 : decode cX5_flowsOfEntry 5 = .ok (.aload_n 0, 1) := by decide +kernel
theorem dX5_flowsOfEntry_6 : decode cX5_flowsOfEntry 6 = .ok (.getfield 21, 3) := by decide +kernel
theorem dX5_flowsOfEntry_9 : decode cX5_flowsOfEntry 9 = .ok (.getfield 112, 3) := by decide +kernel
theorem dX5_flowsOfEntry_12 : decode cX5_flowsOfEntry 12 = .ok (.if_icmp .ge 24, 3) := by decide +kernel
theorem dX5_flowsOfEntry_15 : decode cX5_flowsOfEntry 15 = .ok (.aload_n 0, 1) := by decide +kernel
theorem dX5_flowsOfEntry_16 : decode cX5_flowsOfEntry 16 = .ok (.iload_n 3, 1) := by decide +kernel
theorem dX5_flowsOfEntry_17 : decode cX5_flowsOfEntry 17 = .ok (.invokevirtual 109, 3) := by decide +kernel
theorem dX5_flowsOfEntry_20 : decode cX5_flowsOfEntry 20 = .ok (.iload_n 1, 1) := by decide +kernel
theorem dX5_flowsOfEntry_21 : decode cX5_flowsOfEntry 21 = .ok (.if_icmp .ne 9, 3) := by decide +kernel
theorem dX5_flowsOfEntry_24 : decode cX5_flowsOfEntry 24 = .ok (.iload_n 2, 1) := by decide +kernel
theorem dX5_flowsOfEntry_25 : decode cX5_flowsOfEntry 25 = .ok (.iconst 1, 1) := by decide +kernel
theorem dX5_flowsOfEntry_26 : decode cX5_flowsOfEntry 26 = .ok (.iload_n 3, 1) := by decide +kernel
theorem dX5_flowsOfEntry_27 : decode cX5_flowsOfEntry 27 = .ok (.ishl, 1) := by decide +kernel
theorem dX5_flowsOfEntry_28 : decode cX5_flowsOfEntry 28 = .ok (.ior, 1) := by decide +kernel
theorem dX5_flowsOfEntry_29 : decode cX5_flowsOfEntry 29 = .ok (.istore_n 2, 1) := by decide +kernel
theorem dX5_flowsOfEntry_30 : decode cX5_flowsOfEntry 30 = .ok (.iinc 3 1, 3) := by decide +kernel
theorem dX5_flowsOfEntry_33 : decode cX5_flowsOfEntry 33 = .ok (.goto (-29), 3) := by decide +kernel
theorem dX5_flowsOfEntry_36 : decode cX5_flowsOfEntry 36 = .ok (.iload_n 2, 1) := by decide +kernel
theorem dX5_flowsOfEntry_37 : decode cX5_flowsOfEntry 37 = .ok (.ireturn, 1) := by decide +kernel
theorem dX5_flowsWishing_0 : decode cX5_flowsWishing 0 = .ok (.iconst 0, 1) := by decide +kernel
theorem dX5_flowsWishing_1 : decode cX5_flowsWishing 1 = .ok (.istore_n 2, 1) := by decide +kernel
theorem dX5_flowsWishing_2 : decode cX5_flowsWishing 2 = .ok (.iconst 0, 1) := by decide +kernel
theorem dX5_flowsWishing_3 : decode cX5_flowsWishing 3 = .ok (.istore_n 3, 1) := by decide +kernel
theorem dX5_flowsWishing_4 : decode cX5_flowsWishing 4 = .ok (.iload_n 3, 1) := by decide +kernel
theorem dX5_flowsWishing_5 : decode cX5_flowsWishing 5 = .ok (.aload_n 0, 1) := by decide +kernel
theorem dX5_flowsWishing_6 : decode cX5_flowsWishing 6 = .ok (.getfield 21, 3) := by decide +kernel
theorem dX5_flowsWishing_9 : decode cX5_flowsWishing 9 = .ok (.getfield 112, 3) := by decide +kernel
theorem dX5_flowsWishing_12 : decode cX5_flowsWishing 12 = .ok (.if_icmp .ge 24, 3) := by decide +kernel
theorem dX5_flowsWishing_15 : decode cX5_flowsWishing 15 = .ok (.aload_n 0, 1) := by decide +kernel
theorem dX5_flowsWishing_16 : decode cX5_flowsWishing 16 = .ok (.iload_n 3, 1) := by decide +kernel
theorem dX5_flowsWishing_17 : decode cX5_flowsWishing 17 = .ok (.invokevirtual 115, 3) := by decide +kernel
theorem dX5_flowsWishing_20 : decode cX5_flowsWishing 20 = .ok (.iload_n 1, 1) := by decide +kernel
theorem dX5_flowsWishing_21 : decode cX5_flowsWishing 21 = .ok (.if_icmp .ne 9, 3) := by decide +kernel
theorem dX5_flowsWishing_24 : decode cX5_flowsWishing 24 = .ok (.iload_n 2, 1) := by decide +kernel
theorem dX5_flowsWishing_25 : decode cX5_flowsWishing 25 = .ok (.iconst 1, 1) := by decide +kernel
theorem dX5_flowsWishing_26 : decode cX5_flowsWishing 26 = .ok (.iload_n 3, 1) := by decide +kernel
theorem dX5_flowsWishing_27 : decode cX5_flowsWishing 27 = .ok (.ishl, 1) := by decide +kernel
theorem dX5_flowsWishing_28 : decode cX5_flowsWishing 28 = .ok (.ior, 1) := by decide +kernel
theorem dX5_flowsWishing_29 : decode cX5_flowsWishing 29 = .ok (.istore_n 2, 1) := by decide +kernel
theorem dX5_flowsWishing_30 : decode cX5_flowsWishing 30 = .ok (.iinc 3 1, 3) := by decide +kernel
theorem dX5_flowsWishing_33 : decode cX5_flowsWishing 33 = .ok (.goto (-29), 3) := by decide +kernel
theorem dX5_flowsWishing_36 : decode cX5_flowsWishing 36 = .ok (.iload_n 2, 1) := by decide +kernel
theorem dX5_flowsWishing_37 : decode cX5_flowsWishing 37 = .ok (.ireturn, 1) := by decide +kernel
theorem dX5_packetsWaiting_0 : decode cX5_packetsWaiting 0 = .ok (.iconst 0, 1) := by decide +kernel
theorem dX5_packetsWaiting_1 : decode cX5_packetsWaiting 1 = .ok (.istore_n 1, 1) := by decide +kernel
theorem dX5_packetsWaiting_2 : decode cX5_packetsWaiting 2 = .ok (.iconst 0, 1) := by decide +kernel
theorem dX5_packetsWaiting_3 : decode cX5_packetsWaiting 3 = .ok (.istore_n 2, 1) := by decide +kernel
theorem dX5_packetsWaiting_4 : decode cX5_packetsWaiting 4 = .ok (.iload_n 2, 1) := by decide +kernel
theorem dX5_packetsWaiting_5 : decode cX5_packetsWaiting 5 = .ok (.iconst 4, 1) := by decide +kernel
theorem dX5_packetsWaiting_6 : decode cX5_packetsWaiting 6 = .ok (.if_icmp .ge 21, 3) := by decide +kernel
theorem dX5_packetsWaiting_9 : decode cX5_packetsWaiting 9 = .ok (.iload_n 1, 1) := by decide +kernel
theorem dX5_packetsWaiting_10 : decode cX5_packetsWaiting 10 = .ok (.aload_n 0, 1) := by decide +kernel
theorem dX5_packetsWaiting_11 : decode cX5_packetsWaiting 11 = .ok (.getfield 34, 3) := by decide +kernel
theorem dX5_packetsWaiting_14 : decode cX5_packetsWaiting 14 = .ok (.iload_n 2, 1) := by decide +kernel
theorem dX5_packetsWaiting_15 : decode cX5_packetsWaiting 15 = .ok (.aaload, 1) := by decide +kernel
theorem dX5_packetsWaiting_16 : decode cX5_packetsWaiting 16 = .ok (.getfield 118, 3) := by decide +kernel
theorem dX5_packetsWaiting_19 : decode cX5_packetsWaiting 19 = .ok (.iadd, 1) := by decide +kernel
theorem dX5_packetsWaiting_20 : decode cX5_packetsWaiting 20 = .ok (.istore_n 1, 1) := by decide +kernel
theorem dX5_packetsWaiting_21 : decode cX5_packetsWaiting 21 = .ok (.iinc 2 1, 3) := by decide +kernel
theorem dX5_packetsWaiting_24 : decode cX5_packetsWaiting 24 = .ok (.goto (-20), 3) := by decide +kernel
theorem dX5_packetsWaiting_27 : decode cX5_packetsWaiting 27 = .ok (.iload_n 1, 1) := by decide +kernel
theorem dX5_packetsWaiting_28 : decode cX5_packetsWaiting 28 = .ok (.ireturn, 1) := by decide +kernel
theorem dX5_callsInAll_0 : decode cX5_callsInAll 0 = .ok (.iconst 0, 1) := by decide +kernel
theorem dX5_callsInAll_1 : decode cX5_callsInAll 1 = .ok (.istore_n 1, 1) := by decide +kernel
theorem dX5_callsInAll_2 : decode cX5_callsInAll 2 = .ok (.iconst 0, 1) := by decide +kernel
theorem dX5_callsInAll_3 : decode cX5_callsInAll 3 = .ok (.istore_n 2, 1) := by decide +kernel
theorem dX5_callsInAll_4 : decode cX5_callsInAll 4 = .ok (.iload_n 2, 1) := by decide +kernel
theorem dX5_callsInAll_5 : decode cX5_callsInAll 5 = .ok (.iconst 4, 1) := by decide +kernel
theorem dX5_callsInAll_6 : decode cX5_callsInAll 6 = .ok (.if_icmp .ge 21, 3) := by decide +kernel
theorem dX5_callsInAll_9 : decode cX5_callsInAll 9 = .ok (.iload_n 1, 1) := by decide +kernel
theorem dX5_callsInAll_10 : decode cX5_callsInAll 10 = .ok (.aload_n 0, 1) := by decide +kernel
theorem dX5_callsInAll_11 : decode cX5_callsInAll 11 = .ok (.getfield 34, 3) := by decide +kernel
theorem dX5_callsInAll_14 : decode cX5_callsInAll 14 = .ok (.iload_n 2, 1) := by decide +kernel
theorem dX5_callsInAll_15 : decode cX5_callsInAll 15 = .ok (.aaload, 1) := by decide +kernel
theorem dX5_callsInAll_16 : decode cX5_callsInAll 16 = .ok (.getfield 119, 3) := by decide +kernel
theorem dX5_callsInAll_19 : decode cX5_callsInAll 19 = .ok (.iadd, 1) := by decide +kernel
theorem dX5_callsInAll_20 : decode cX5_callsInAll 20 = .ok (.istore_n 1, 1) := by decide +kernel
theorem dX5_callsInAll_21 : decode cX5_callsInAll 21 = .ok (.iinc 2 1, 3) := by decide +kernel
theorem dX5_callsInAll_24 : decode cX5_callsInAll 24 = .ok (.goto (-20), 3) := by decide +kernel
theorem dX5_callsInAll_27 : decode cX5_callsInAll 27 = .ok (.iload_n 1, 1) := by decide +kernel
theorem dX5_callsInAll_28 : decode cX5_callsInAll 28 = .ok (.ireturn, 1) := by decide +kernel
theorem dX5_arrive_0 : decode cX5_arrive 0 = .ok (.aload_n 0, 1) := by decide +kernel
theorem dX5_arrive_1 : decode cX5_arrive 1 = .ok (.iload_n 1, 1) := by decide +kernel
theorem dX5_arrive_2 : decode cX5_arrive 2 = .ok (.invokevirtual 109, 3) := by decide +kernel
theorem dX5_arrive_5 : decode cX5_arrive 5 = .ok (.istore 4, 2) := by decide +kernel
theorem dX5_arrive_7 : decode cX5_arrive 7 = .ok (.aload_n 0, 1) := by decide +kernel
theorem dX5_arrive_8 : decode cX5_arrive 8 = .ok (.getfield 21, 3) := by decide +kernel
theorem dX5_arrive_11 : decode cX5_arrive 11 = .ok (.bipush 13, 2) := by decide +kernel
theorem dX5_arrive_13 : decode cX5_arrive 13 = .ok (.iload_n 1, 1) := by decide +kernel
theorem dX5_arrive_14 : decode cX5_arrive 14 = .ok (.invokevirtual 87, 3) := by decide +kernel
theorem dX5_arrive_17 : decode cX5_arrive 17 = .ok (.istore 5, 2) := by decide +kernel
theorem dX5_arrive_19 : decode cX5_arrive 19 = .ok (.iload 5, 2) := by decide +kernel
theorem dX5_arrive_21 : decode cX5_arrive 21 = .ok (.iconst (-1), 1) := by decide +kernel
theorem dX5_arrive_22 : decode cX5_arrive 22 = .ok (.if_icmp .eq 8, 3) := by decide +kernel
theorem dX5_arrive_25 : decode cX5_arrive 25 = .ok (.iload 5, 2) := by decide +kernel
theorem dX5_arrive_27 : decode cX5_arrive 27 = .ok (.goto 13, 3) := by decide +kernel
theorem dX5_arrive_30 : decode cX5_arrive 30 = .ok (.aload_n 0, 1) := by decide +kernel
theorem dX5_arrive_31 : decode cX5_arrive 31 = .ok (.getfield 28, 3) := by decide +kernel
theorem dX5_arrive_34 : decode cX5_arrive 34 = .ok (.getfield 106, 3) := by decide +kernel
theorem dX5_arrive_37 : decode cX5_arrive 37 = .ok (.iload 4, 2) := by decide +kernel
theorem dX5_arrive_39 : decode cX5_arrive 39 = .ok (.iaload, 1) := by decide +kernel
theorem dX5_arrive_40 : decode cX5_arrive 40 = .ok (.istore 6, 2) := by decide +kernel
theorem dX5_arrive_42 : decode cX5_arrive 42 = .ok (.aload_n 0, 1) := by decide +kernel
theorem dX5_arrive_43 : decode cX5_arrive 43 = .ok (.getfield 21, 3) := by decide +kernel
theorem dX5_arrive_46 : decode cX5_arrive 46 = .ok (.bipush 7, 2) := by decide +kernel
theorem dX5_arrive_48 : decode cX5_arrive 48 = .ok (.iload_n 1, 1) := by decide +kernel
theorem dX5_arrive_49 : decode cX5_arrive 49 = .ok (.invokevirtual 87, 3) := by decide +kernel
theorem dX5_arrive_52 : decode cX5_arrive 52 = .ok (.istore 7, 2) := by decide +kernel
theorem dX5_arrive_54 : decode cX5_arrive 54 = .ok (.iload 7, 2) := by decide +kernel
theorem dX5_arrive_56 : decode cX5_arrive 56 = .ok (.iconst (-1), 1) := by decide +kernel
theorem dX5_arrive_57 : decode cX5_arrive 57 = .ok (.if_icmp .ne 8, 3) := by decide +kernel
theorem dX5_arrive_60 : decode cX5_arrive 60 = .ok (.iload 6, 2) := by decide +kernel
theorem dX5_arrive_62 : decode cX5_arrive 62 = .ok (.goto 5, 3) := by decide +kernel
theorem dX5_arrive_65 : decode cX5_arrive 65 = .ok (.iload 7, 2) := by decide +kernel
theorem dX5_arrive_67 : decode cX5_arrive 67 = .ok (.istore 8, 2) := by decide +kernel
theorem dX5_arrive_69 : decode cX5_arrive 69 = .ok (.iload 8, 2) := by decide +kernel
theorem dX5_arrive_71 : decode cX5_arrive 71 = .ok (.iload 6, 2) := by decide +kernel
theorem dX5_arrive_73 : decode cX5_arrive 73 = .ok (.if_icmp .eq 14, 3) := by decide +kernel
theorem dX5_arrive_76 : decode cX5_arrive 76 = .ok (.aload_n 0, 1) := by decide +kernel
theorem dX5_arrive_77 : decode cX5_arrive 77 = .ok (.getfield 21, 3) := by decide +kernel
theorem dX5_arrive_80 : decode cX5_arrive 80 = .ok (.bipush 12, 2) := by decide +kernel
theorem dX5_arrive_82 : decode cX5_arrive 82 = .ok (.iload_n 1, 1) := by decide +kernel
theorem dX5_arrive_83 : decode cX5_arrive 83 = .ok (.iconst 1, 1) := by decide +kernel
theorem dX5_arrive_84 : decode cX5_arrive 84 = .ok (.invokevirtual 122, 3) := by decide +kernel
theorem dX5_arrive_87 : decode cX5_arrive 87 = .ok (.iload 5, 2) := by decide +kernel
theorem dX5_arrive_89 : decode cX5_arrive 89 = .ok (.iconst (-1), 1) := by decide +kernel
theorem dX5_arrive_90 : decode cX5_arrive 90 = .ok (.if_icmp .eq 17, 3) := by decide +kernel
theorem dX5_arrive_93 : decode cX5_arrive 93 = .ok (.aload_n 0, 1) := by decide +kernel
theorem dX5_arrive_94 : decode cX5_arrive 94 = .ok (.getfield 21, 3) := by decide +kernel
theorem dX5_arrive_97 : decode cX5_arrive 97 = .ok (.bipush 14, 2) := by decide +kernel
theorem dX5_arrive_99 : decode cX5_arrive 99 = .ok (.iload_n 1, 1) := by decide +kernel
theorem dX5_arrive_100 : decode cX5_arrive 100 = .ok (.aload_n 0, 1) := by decide +kernel
theorem dX5_arrive_101 : decode cX5_arrive 101 = .ok (.getfield 80, 3) := by decide +kernel
theorem dX5_arrive_104 : decode cX5_arrive 104 = .ok (.invokevirtual 126, 3) := by decide +kernel
theorem dX5_arrive_107 : decode cX5_arrive 107 = .ok (.aload_n 0, 1) := by decide +kernel
theorem dX5_arrive_108 : decode cX5_arrive 108 = .ok (.getfield 21, 3) := by decide +kernel
theorem dX5_arrive_111 : decode cX5_arrive 111 = .ok (.bipush 10, 2) := by decide +kernel
theorem dX5_arrive_113 : decode cX5_arrive 113 = .ok (.iload_n 1, 1) := by decide +kernel
theorem dX5_arrive_114 : decode cX5_arrive 114 = .ok (.iconst 1, 1) := by decide +kernel
theorem dX5_arrive_115 : decode cX5_arrive 115 = .ok (.invokevirtual 122, 3) := by decide +kernel
theorem dX5_arrive_118 : decode cX5_arrive 118 = .ok (.aload_n 0, 1) := by decide +kernel
theorem dX5_arrive_119 : decode cX5_arrive 119 = .ok (.getfield 28, 3) := by decide +kernel
theorem dX5_arrive_122 : decode cX5_arrive 122 = .ok (.getfield 129, 3) := by decide +kernel
theorem dX5_arrive_125 : decode cX5_arrive 125 = .ok (.iload 4, 2) := by decide +kernel
theorem dX5_arrive_127 : decode cX5_arrive 127 = .ok (.dup2, 1) := by decide +kernel
theorem dX5_arrive_128 : decode cX5_arrive 128 = .ok (.iaload, 1) := by decide +kernel
theorem dX5_arrive_129 : decode cX5_arrive 129 = .ok (.iconst 1, 1) := by decide +kernel
theorem dX5_arrive_130 : decode cX5_arrive 130 = .ok (.iadd, 1) := by decide +kernel
theorem dX5_arrive_131 : decode cX5_arrive 131 = .ok (.iastore, 1) := by decide +kernel
theorem dX5_arrive_132 : decode cX5_arrive 132 = .ok (.aload_n 0, 1) := by decide +kernel
theorem dX5_arrive_133 : decode cX5_arrive 133 = .ok (.getfield 21, 3) := by decide +kernel
theorem dX5_arrive_136 : decode cX5_arrive 136 = .ok (.bipush 9, 2) := by decide +kernel
theorem dX5_arrive_138 : decode cX5_arrive 138 = .ok (.iload_n 1, 1) := by decide +kernel
theorem dX5_arrive_139 : decode cX5_arrive 139 = .ok (.invokevirtual 87, 3) := by decide +kernel
theorem dX5_arrive_142 : decode cX5_arrive 142 = .ok (.istore 9, 2) := by decide +kernel
theorem dX5_arrive_144 : decode cX5_arrive 144 = .ok (.aload_n 0, 1) := by decide +kernel
theorem dX5_arrive_145 : decode cX5_arrive 145 = .ok (.getfield 21, 3) := by decide +kernel
theorem dX5_arrive_148 : decode cX5_arrive 148 = .ok (.bipush 9, 2) := by decide +kernel
theorem dX5_arrive_150 : decode cX5_arrive 150 = .ok (.iload_n 1, 1) := by decide +kernel
theorem dX5_arrive_151 : decode cX5_arrive 151 = .ok (.iload 9, 2) := by decide +kernel
theorem dX5_arrive_153 : decode cX5_arrive 153 = .ok (.iload_n 2, 1) := by decide +kernel
theorem dX5_arrive_154 : decode cX5_arrive 154 = .ok (.iadd, 1) := by decide +kernel
theorem dX5_arrive_155 : decode cX5_arrive 155 = .ok (.invokevirtual 126, 3) := by decide +kernel
theorem dX5_arrive_158 : decode cX5_arrive 158 = .ok (.aload_n 0, 1) := by decide +kernel
theorem dX5_arrive_159 : decode cX5_arrive 159 = .ok (.getfield 34, 3) := by decide +kernel
theorem dX5_arrive_162 : decode cX5_arrive 162 = .ok (.iload 8, 2) := by decide +kernel
theorem dX5_arrive_164 : decode cX5_arrive 164 = .ok (.aaload, 1) := by decide +kernel
theorem dX5_arrive_165 : decode cX5_arrive 165 = .ok (.astore 10, 2) := by decide +kernel
theorem dX5_arrive_167 : decode cX5_arrive 167 = .ok (.aload 10, 2) := by decide +kernel
theorem dX5_arrive_169 : decode cX5_arrive 169 = .ok (.getfield 118, 3) := by decide +kernel
theorem dX5_arrive_172 : decode cX5_arrive 172 = .ok (.aload_n 0, 1) := by decide +kernel
theorem dX5_arrive_173 : decode cX5_arrive 173 = .ok (.getfield 54, 3) := by decide +kernel
theorem dX5_arrive_176 : decode cX5_arrive 176 = .ok (.iconst 0, 1) := by decide +kernel
theorem dX5_arrive_177 : decode cX5_arrive 177 = .ok (.iaload, 1) := by decide +kernel
theorem dX5_arrive_178 : decode cX5_arrive 178 = .ok (.if_icmp .lt 27, 3) := by decide +kernel
theorem dX5_arrive_181 : decode cX5_arrive 181 = .ok (.aload_n 0, 1) := by decide +kernel
theorem dX5_arrive_182 : decode cX5_arrive 182 = .ok (.getfield 21, 3) := by decide +kernel
theorem dX5_arrive_185 : decode cX5_arrive 185 = .ok (.bipush 11, 2) := by decide +kernel
theorem dX5_arrive_187 : decode cX5_arrive 187 = .ok (.iload_n 1, 1) := by decide +kernel
theorem dX5_arrive_188 : decode cX5_arrive 188 = .ok (.iconst 1, 1) := by decide +kernel
theorem dX5_arrive_189 : decode cX5_arrive 189 = .ok (.invokevirtual 122, 3) := by decide +kernel
theorem dX5_arrive_192 : decode cX5_arrive 192 = .ok (.aload 10, 2) := by decide +kernel
theorem dX5_arrive_194 : decode cX5_arrive 194 = .ok (.dup, 1) := by decide +kernel
theorem dX5_arrive_195 : decode cX5_arrive 195 = .ok (.getfield 132, 3) := by decide +kernel
theorem dX5_arrive_198 : decode cX5_arrive 198 = .ok (.iconst 1, 1) := by decide +kernel
theorem dX5_arrive_199 : decode cX5_arrive 199 = .ok (.iadd, 1) := by decide +kernel
theorem dX5_arrive_200 : decode cX5_arrive 200 = .ok (.putfield 132, 3) := by decide +kernel
theorem dX5_arrive_203 : decode cX5_arrive 203 = .ok (.iconst 4, 1) := by decide +kernel
theorem dX5_arrive_204 : decode cX5_arrive 204 = .ok (.ireturn, 1) := by decide +kernel
theorem dX5_arrive_205 : decode cX5_arrive 205 = .ok (.aload 10, 2) := by decide +kernel
theorem dX5_arrive_207 : decode cX5_arrive 207 = .ok (.iload_n 1, 1) := by decide +kernel
theorem dX5_arrive_208 : decode cX5_arrive 208 = .ok (.iload 9, 2) := by decide +kernel
theorem dX5_arrive_210 : decode cX5_arrive 210 = .ok (.iload_n 2, 1) := by decide +kernel
theorem dX5_arrive_211 : decode cX5_arrive 211 = .ok (.iload_n 3, 1) := by decide +kernel
theorem dX5_arrive_212 : decode cX5_arrive 212 = .ok (.aload_n 0, 1) := by decide +kernel
theorem dX5_arrive_213 : decode cX5_arrive 213 = .ok (.getfield 80, 3) := by decide +kernel
theorem dX5_arrive_216 : decode cX5_arrive 216 = .ok (.invokevirtual 135, 3) := by decide +kernel
theorem dX5_arrive_219 : decode cX5_arrive 219 = .ok (.aload_n 0, 1) := by decide +kernel
theorem dX5_arrive_220 : decode cX5_arrive 220 = .ok (.getfield 21, 3) := by decide +kernel
theorem dX5_arrive_223 : decode cX5_arrive 223 = .ok (.iload_n 1, 1) := by decide +kernel
theorem dX5_arrive_224 : decode cX5_arrive 224 = .ok (.iload 8, 2) := by decide +kernel
theorem dX5_arrive_226 : decode cX5_arrive 226 = .ok (.invokevirtual 139, 3) := by decide +kernel
theorem dX5_arrive_229 : decode cX5_arrive 229 = .ok (.aload 10, 2) := by decide +kernel
theorem dX5_arrive_231 : decode cX5_arrive 231 = .ok (.getfield 118, 3) := by decide +kernel
theorem dX5_arrive_234 : decode cX5_arrive 234 = .ok (.aload_n 0, 1) := by decide +kernel
theorem dX5_arrive_235 : decode cX5_arrive 235 = .ok (.getfield 54, 3) := by decide +kernel
theorem dX5_arrive_238 : decode cX5_arrive 238 = .ok (.bipush 8, 2) := by decide +kernel
theorem dX5_arrive_240 : decode cX5_arrive 240 = .ok (.iaload, 1) := by decide +kernel
theorem dX5_arrive_241 : decode cX5_arrive 241 = .ok (.if_icmp .lt 14, 3) := by decide +kernel
theorem dX5_arrive_244 : decode cX5_arrive 244 = .ok (.aload_n 0, 1) := by decide +kernel
theorem dX5_arrive_245 : decode cX5_arrive 245 = .ok (.getfield 21, 3) := by decide +kernel
theorem dX5_arrive_248 : decode cX5_arrive 248 = .ok (.bipush 18, 2) := by decide +kernel
theorem dX5_arrive_250 : decode cX5_arrive 250 = .ok (.iload_n 1, 1) := by decide +kernel
theorem dX5_arrive_251 : decode cX5_arrive 251 = .ok (.iconst 1, 1) := by decide +kernel
theorem dX5_arrive_252 : decode cX5_arrive 252 = .ok (.invokevirtual 122, 3) := by decide +kernel
theorem dX5_arrive_255 : decode cX5_arrive 255 = .ok (.iload 8, 2) := by decide +kernel
theorem dX5_arrive_257 : decode cX5_arrive 257 = .ok (.ireturn, 1) := by decide +kernel
theorem dX5_passTick_0 : decode cX5_passTick 0 = .ok (.aload_n 0, 1) := by decide +kernel
theorem dX5_passTick_1 : decode cX5_passTick 1 = .ok (.dup, 1) := by decide +kernel
theorem dX5_passTick_2 : decode cX5_passTick 2 = .ok (.getfield 80, 3) := by decide +kernel
theorem dX5_passTick_5 : decode cX5_passTick 5 = .ok (.iconst 1, 1) := by decide +kernel
theorem dX5_passTick_6 : decode cX5_passTick 6 = .ok (.iadd, 1) := by decide +kernel
theorem dX5_passTick_7 : decode cX5_passTick 7 = .ok (.putfield 80, 3) := by decide +kernel
theorem dX5_passTick_10 : decode cX5_passTick 10 = .ok (.aload_n 0, 1) := by decide +kernel
theorem dX5_passTick_11 : decode cX5_passTick 11 = .ok (.getfield 21, 3) := by decide +kernel
theorem dX5_passTick_14 : decode cX5_passTick 14 = .ok (.aload_n 0, 1) := by decide +kernel
theorem dX5_passTick_15 : decode cX5_passTick 15 = .ok (.getfield 80, 3) := by decide +kernel
theorem dX5_passTick_18 : decode cX5_passTick 18 = .ok (.aload_n 0, 1) := by decide +kernel
theorem dX5_passTick_19 : decode cX5_passTick 19 = .ok (.getfield 54, 3) := by decide +kernel
theorem dX5_passTick_22 : decode cX5_passTick 22 = .ok (.iconst 2, 1) := by decide +kernel
theorem dX5_passTick_23 : decode cX5_passTick 23 = .ok (.iaload, 1) := by decide +kernel
theorem dX5_passTick_24 : decode cX5_passTick 24 = .ok (.invokevirtual 143, 3) := by decide +kernel
theorem dX5_passTick_27 : decode cX5_passTick 27 = .ok (.iconst 0, 1) := by decide +kernel
theorem dX5_passTick_28 : decode cX5_passTick 28 = .ok (.istore_n 1, 1) := by decide +kernel
theorem dX5_passTick_29 : decode cX5_passTick 29 = .ok (.iload_n 1, 1) := by decide +kernel
theorem dX5_passTick_30 : decode cX5_passTick 30 = .ok (.iconst 4, 1) := by decide +kernel
theorem dX5_passTick_31 : decode cX5_passTick 31 = .ok (.if_icmp .ge 69, 3) := by decide +kernel
theorem dX5_passTick_34 : decode cX5_passTick 34 = .ok (.aload_n 0, 1) := by decide +kernel
theorem dX5_passTick_35 : decode cX5_passTick 35 = .ok (.getfield 34, 3) := by decide +kernel
theorem dX5_passTick_38 : decode cX5_passTick 38 = .ok (.iload_n 1, 1) := by decide +kernel
theorem dX5_passTick_39 : decode cX5_passTick 39 = .ok (.aaload, 1) := by decide +kernel
theorem dX5_passTick_40 : decode cX5_passTick 40 = .ok (.invokevirtual 146, 3) := by decide +kernel
theorem dX5_passTick_43 : decode cX5_passTick 43 = .ok (.aload_n 0, 1) := by decide +kernel
theorem dX5_passTick_44 : decode cX5_passTick 44 = .ok (.getfield 34, 3) := by decide +kernel
theorem dX5_passTick_47 : decode cX5_passTick 47 = .ok (.iload_n 1, 1) := by decide +kernel
theorem dX5_passTick_48 : decode cX5_passTick 48 = .ok (.aaload, 1) := by decide +kernel
theorem dX5_passTick_49 : decode cX5_passTick 49 = .ok (.aload_n 0, 1) := by decide +kernel
theorem dX5_passTick_50 : decode cX5_passTick 50 = .ok (.getfield 80, 3) := by decide +kernel
theorem dX5_passTick_53 : decode cX5_passTick 53 = .ok (.aload_n 0, 1) := by decide +kernel
theorem dX5_passTick_54 : decode cX5_passTick 54 = .ok (.getfield 54, 3) := by decide +kernel
theorem dX5_passTick_57 : decode cX5_passTick 57 = .ok (.iconst 1, 1) := by decide +kernel
theorem dX5_passTick_58 : decode cX5_passTick 58 = .ok (.iaload, 1) := by decide +kernel
theorem dX5_passTick_59 : decode cX5_passTick 59 = .ok (.aload_n 0, 1) := by decide +kernel
theorem dX5_passTick_60 : decode cX5_passTick 60 = .ok (.getfield 54, 3) := by decide +kernel
theorem dX5_passTick_63 : decode cX5_passTick 63 = .ok (.bipush 7, 2) := by decide +kernel
theorem dX5_passTick_65 : decode cX5_passTick 65 = .ok (.iaload, 1) := by decide +kernel
theorem dX5_passTick_66 : decode cX5_passTick 66 = .ok (.invokevirtual 149, 3) := by decide +kernel
theorem dX5_passTick_69 : decode cX5_passTick 69 = .ok (.ifCond .eq 25, 3) := by decide +kernel
theorem dX5_passTick_72 : decode cX5_passTick 72 = .ok (.aload_n 0, 1) := by decide +kernel
theorem dX5_passTick_73 : decode cX5_passTick 73 = .ok (.iload_n 1, 1) := by decide +kernel
theorem dX5_passTick_74 : decode cX5_passTick 74 = .ok (.invokevirtual 153, 3) := by decide +kernel
theorem dX5_passTick_77 : decode cX5_passTick 77 = .ok (.istore_n 2, 1) := by decide +kernel
theorem dX5_passTick_78 : decode cX5_passTick 78 = .ok (.aload_n 0, 1) := by decide +kernel
theorem dX5_passTick_79 : decode cX5_passTick 79 = .ok (.getfield 34, 3) := by decide +kernel
theorem dX5_passTick_82 : decode cX5_passTick 82 = .ok (.iload_n 1, 1) := by decide +kernel
theorem dX5_passTick_83 : decode cX5_passTick 83 = .ok (.aaload, 1) := by decide +kernel
theorem dX5_passTick_84 : decode cX5_passTick 84 = .ok (.iload_n 2, 1) := by decide +kernel
theorem dX5_passTick_85 : decode cX5_passTick 85 = .ok (.aload_n 0, 1) := by decide +kernel
theorem dX5_passTick_86 : decode cX5_passTick 86 = .ok (.getfield 54, 3) := by decide +kernel
theorem dX5_passTick_89 : decode cX5_passTick 89 = .ok (.iconst 1, 1) := by decide +kernel
theorem dX5_passTick_90 : decode cX5_passTick 90 = .ok (.iaload, 1) := by decide +kernel
theorem dX5_passTick_91 : decode cX5_passTick 91 = .ok (.invokevirtual 156, 3) := by decide +kernel
theorem dX5_passTick_94 : decode cX5_passTick 94 = .ok (.iinc 1 1, 3) := by decide +kernel
theorem dX5_passTick_97 : decode cX5_passTick 97 = .ok (.goto (-68), 3) := by decide +kernel
theorem dX5_passTick_100 : decode cX5_passTick 100 = .ok (.return_, 1) := by decide +kernel
theorem dX5_takeBatch_0 : decode cX5_takeBatch 0 = .ok (.aload_n 0, 1) := by decide +kernel
theorem dX5_takeBatch_1 : decode cX5_takeBatch 1 = .ok (.getfield 34, 3) := by decide +kernel
theorem dX5_takeBatch_4 : decode cX5_takeBatch 4 = .ok (.iload_n 1, 1) := by decide +kernel
theorem dX5_takeBatch_5 : decode cX5_takeBatch 5 = .ok (.aaload, 1) := by decide +kernel
theorem dX5_takeBatch_6 : decode cX5_takeBatch 6 = .ok (.astore_n 2, 1) := by decide +kernel
theorem dX5_takeBatch_7 : decode cX5_takeBatch 7 = .ok (.bipush 16, 2) := by decide +kernel
theorem dX5_takeBatch_9 : decode cX5_takeBatch 9 = .ok (.aload_n 2, 1) := by decide +kernel
theorem dX5_takeBatch_10 : decode cX5_takeBatch 10 = .ok (.getfield 118, 3) := by decide +kernel
theorem dX5_takeBatch_13 : decode cX5_takeBatch 13 = .ok (.invokestatic 159, 3) := by decide +kernel
theorem dX5_takeBatch_16 : decode cX5_takeBatch 16 = .ok (.istore_n 3, 1) := by decide +kernel
theorem dX5_takeBatch_17 : decode cX5_takeBatch 17 = .ok (.iconst 0, 1) := by decide +kernel
theorem dX5_takeBatch_18 : decode cX5_takeBatch 18 = .ok (.istore 4, 2) := by decide +kernel
theorem dX5_takeBatch_20 : decode cX5_takeBatch 20 = .ok (.iload 4, 2) := by decide +kernel
theorem dX5_takeBatch_22 : decode cX5_takeBatch 22 = .ok (.iload_n 3, 1) := by decide +kernel
theorem dX5_takeBatch_23 : decode cX5_takeBatch 23 = .ok (.if_icmp .ge 131, 3) := by decide +kernel
theorem dX5_takeBatch_26 : decode cX5_takeBatch 26 = .ok (.aload_n 2, 1) := by decide +kernel
theorem dX5_takeBatch_27 : decode cX5_takeBatch 27 = .ok (.iload 4, 2) := by decide +kernel
theorem dX5_takeBatch_29 : decode cX5_takeBatch 29 = .ok (.iconst 0, 1) := by decide +kernel
theorem dX5_takeBatch_30 : decode cX5_takeBatch 30 = .ok (.invokevirtual 164, 3) := by decide +kernel
theorem dX5_takeBatch_33 : decode cX5_takeBatch 33 = .ok (.istore 5, 2) := by decide +kernel
theorem dX5_takeBatch_35 : decode cX5_takeBatch 35 = .ok (.aload_n 2, 1) := by decide +kernel
theorem dX5_takeBatch_36 : decode cX5_takeBatch 36 = .ok (.iload 4, 2) := by decide +kernel
theorem dX5_takeBatch_38 : decode cX5_takeBatch 38 = .ok (.iconst 1, 1) := by decide +kernel
theorem dX5_takeBatch_39 : decode cX5_takeBatch 39 = .ok (.invokevirtual 164, 3) := by decide +kernel
theorem dX5_takeBatch_42 : decode cX5_takeBatch 42 = .ok (.istore 6, 2) := by decide +kernel
theorem dX5_takeBatch_44 : decode cX5_takeBatch 44 = .ok (.aload_n 2, 1) := by decide +kernel
theorem dX5_takeBatch_45 : decode cX5_takeBatch 45 = .ok (.iload 4, 2) := by decide +kernel
theorem dX5_takeBatch_47 : decode cX5_takeBatch 47 = .ok (.iconst 2, 1) := by decide +kernel
theorem dX5_takeBatch_48 : decode cX5_takeBatch 48 = .ok (.invokevirtual 164, 3) := by decide +kernel
theorem dX5_takeBatch_51 : decode cX5_takeBatch 51 = .ok (.istore 7, 2) := by decide +kernel
theorem dX5_takeBatch_53 : decode cX5_takeBatch 53 = .ok (.aload_n 0, 1) := by decide +kernel
theorem dX5_takeBatch_54 : decode cX5_takeBatch 54 = .ok (.getfield 41, 3) := by decide +kernel
theorem dX5_takeBatch_57 : decode cX5_takeBatch 57 = .ok (.iload 5, 2) := by decide +kernel
theorem dX5_takeBatch_59 : decode cX5_takeBatch 59 = .ok (.iload 6, 2) := by decide +kernel
theorem dX5_takeBatch_61 : decode cX5_takeBatch 61 = .ok (.iload 7, 2) := by decide +kernel
theorem dX5_takeBatch_63 : decode cX5_takeBatch 63 = .ok (.aload_n 0, 1) := by decide +kernel
theorem dX5_takeBatch_64 : decode cX5_takeBatch 64 = .ok (.getfield 54, 3) := by decide +kernel
theorem dX5_takeBatch_67 : decode cX5_takeBatch 67 = .ok (.iconst 3, 1) := by decide +kernel
theorem dX5_takeBatch_68 : decode cX5_takeBatch 68 = .ok (.iaload, 1) := by decide +kernel
theorem dX5_takeBatch_69 : decode cX5_takeBatch 69 = .ok (.invokevirtual 167, 3) := by decide +kernel
theorem dX5_takeBatch_72 : decode cX5_takeBatch 72 = .ok (.ifCond .eq 17, 3) := by decide +kernel
theorem dX5_takeBatch_75 : decode cX5_takeBatch 75 = .ok (.aload_n 0, 1) := by decide +kernel
theorem dX5_takeBatch_76 : decode cX5_takeBatch 76 = .ok (.getfield 41, 3) := by decide +kernel
theorem dX5_takeBatch_79 : decode cX5_takeBatch 79 = .ok (.iload 5, 2) := by decide +kernel
theorem dX5_takeBatch_81 : decode cX5_takeBatch 81 = .ok (.iload 7, 2) := by decide +kernel
theorem dX5_takeBatch_83 : decode cX5_takeBatch 83 = .ok (.invokevirtual 171, 3) := by decide +kernel
theorem dX5_takeBatch_86 : decode cX5_takeBatch 86 = .ok (.goto 35, 3) := by decide +kernel
theorem dX5_takeBatch_89 : decode cX5_takeBatch 89 = .ok (.aload_n 0, 1) := by decide +kernel
theorem dX5_takeBatch_90 : decode cX5_takeBatch 90 = .ok (.getfield 41, 3) := by decide +kernel
theorem dX5_takeBatch_93 : decode cX5_takeBatch 93 = .ok (.iload 5, 2) := by decide +kernel
theorem dX5_takeBatch_95 : decode cX5_takeBatch 95 = .ok (.invokevirtual 174, 3) := by decide +kernel
theorem dX5_takeBatch_98 : decode cX5_takeBatch 98 = .ok (.ifCond .eq 10, 3) := by decide +kernel
theorem dX5_takeBatch_101 : decode cX5_takeBatch 101 = .ok (.aload_n 0, 1) := by decide +kernel
theorem dX5_takeBatch_102 : decode cX5_takeBatch 102 = .ok (.iload 5, 2) := by decide +kernel
theorem dX5_takeBatch_104 : decode cX5_takeBatch 104 = .ok (.iload_n 1, 1) := by decide +kernel
theorem dX5_takeBatch_105 : decode cX5_takeBatch 105 = .ok (.invokevirtual 177, 3) := by decide +kernel
theorem dX5_takeBatch_108 : decode cX5_takeBatch 108 = .ok (.aload_n 0, 1) := by decide +kernel
theorem dX5_takeBatch_109 : decode cX5_takeBatch 109 = .ok (.getfield 41, 3) := by decide +kernel
theorem dX5_takeBatch_112 : decode cX5_takeBatch 112 = .ok (.iload 5, 2) := by decide +kernel
theorem dX5_takeBatch_114 : decode cX5_takeBatch 114 = .ok (.iload 6, 2) := by decide +kernel
theorem dX5_takeBatch_116 : decode cX5_takeBatch 116 = .ok (.iload 7, 2) := by decide +kernel
theorem dX5_takeBatch_118 : decode cX5_takeBatch 118 = .ok (.invokevirtual 180, 3) := by decide +kernel
theorem dX5_takeBatch_121 : decode cX5_takeBatch 121 = .ok (.aload_n 2, 1) := by decide +kernel
theorem dX5_takeBatch_122 : decode cX5_takeBatch 122 = .ok (.iload 4, 2) := by decide +kernel
theorem dX5_takeBatch_124 : decode cX5_takeBatch 124 = .ok (.iconst 3, 1) := by decide +kernel
theorem dX5_takeBatch_125 : decode cX5_takeBatch 125 = .ok (.invokevirtual 164, 3) := by decide +kernel
theorem dX5_takeBatch_128 : decode cX5_takeBatch 128 = .ok (.iconst 1, 1) := by decide +kernel
theorem dX5_takeBatch_129 : decode cX5_takeBatch 129 = .ok (.if_icmp .ne 10, 3) := by decide +kernel
theorem dX5_takeBatch_132 : decode cX5_takeBatch 132 = .ok (.aload_n 0, 1) := by decide +kernel
theorem dX5_takeBatch_133 : decode cX5_takeBatch 133 = .ok (.iload 5, 2) := by decide +kernel
theorem dX5_takeBatch_135 : decode cX5_takeBatch 135 = .ok (.iload_n 1, 1) := by decide +kernel
theorem dX5_takeBatch_136 : decode cX5_takeBatch 136 = .ok (.invokevirtual 177, 3) := by decide +kernel
theorem dX5_takeBatch_139 : decode cX5_takeBatch 139 = .ok (.aload_n 0, 1) := by decide +kernel
theorem dX5_takeBatch_140 : decode cX5_takeBatch 140 = .ok (.getfield 21, 3) := by decide +kernel
theorem dX5_takeBatch_143 : decode cX5_takeBatch 143 = .ok (.iload 5, 2) := by decide +kernel
theorem dX5_takeBatch_145 : decode cX5_takeBatch 145 = .ok (.invokevirtual 183, 3) := by decide +kernel
theorem dX5_takeBatch_148 : decode cX5_takeBatch 148 = .ok (.iinc 4 1, 3) := by decide +kernel
theorem dX5_takeBatch_151 : decode cX5_takeBatch 151 = .ok (.goto (-131), 3) := by decide +kernel
theorem dX5_takeBatch_154 : decode cX5_takeBatch 154 = .ok (.iconst 0, 1) := by decide +kernel
theorem dX5_takeBatch_155 : decode cX5_takeBatch 155 = .ok (.istore 4, 2) := by decide +kernel
theorem dX5_takeBatch_157 : decode cX5_takeBatch 157 = .ok (.iload 4, 2) := by decide +kernel
theorem dX5_takeBatch_159 : decode cX5_takeBatch 159 = .ok (.aload_n 0, 1) := by decide +kernel
theorem dX5_takeBatch_160 : decode cX5_takeBatch 160 = .ok (.getfield 21, 3) := by decide +kernel
theorem dX5_takeBatch_163 : decode cX5_takeBatch 163 = .ok (.getfield 112, 3) := by decide +kernel
theorem dX5_takeBatch_166 : decode cX5_takeBatch 166 = .ok (.if_icmp .ge 28, 3) := by decide +kernel
theorem dX5_takeBatch_169 : decode cX5_takeBatch 169 = .ok (.aload_n 0, 1) := by decide +kernel
theorem dX5_takeBatch_170 : decode cX5_takeBatch 170 = .ok (.getfield 41, 3) := by decide +kernel
theorem dX5_takeBatch_173 : decode cX5_takeBatch 173 = .ok (.iload 4, 2) := by decide +kernel
theorem dX5_takeBatch_175 : decode cX5_takeBatch 175 = .ok (.invokevirtual 174, 3) := by decide +kernel
theorem dX5_takeBatch_178 : decode cX5_takeBatch 178 = .ok (.ifCond .eq 10, 3) := by decide +kernel
theorem dX5_takeBatch_181 : decode cX5_takeBatch 181 = .ok (.aload_n 0, 1) := by decide +kernel
theorem dX5_takeBatch_182 : decode cX5_takeBatch 182 = .ok (.iload 4, 2) := by decide +kernel
theorem dX5_takeBatch_184 : decode cX5_takeBatch 184 = .ok (.iload_n 1, 1) := by decide +kernel
theorem dX5_takeBatch_185 : decode cX5_takeBatch 185 = .ok (.invokevirtual 177, 3) := by decide +kernel
theorem dX5_takeBatch_188 : decode cX5_takeBatch 188 = .ok (.iinc 4 1, 3) := by decide +kernel
theorem dX5_takeBatch_191 : decode cX5_takeBatch 191 = .ok (.goto (-34), 3) := by decide +kernel
theorem dX5_takeBatch_194 : decode cX5_takeBatch 194 = .ok (.aload_n 2, 1) := by decide +kernel
theorem dX5_takeBatch_195 : decode cX5_takeBatch 195 = .ok (.iload_n 3, 1) := by decide +kernel
theorem dX5_takeBatch_196 : decode cX5_takeBatch 196 = .ok (.aload_n 0, 1) := by decide +kernel
theorem dX5_takeBatch_197 : decode cX5_takeBatch 197 = .ok (.getfield 80, 3) := by decide +kernel
theorem dX5_takeBatch_200 : decode cX5_takeBatch 200 = .ok (.invokevirtual 187, 3) := by decide +kernel
theorem dX5_takeBatch_203 : decode cX5_takeBatch 203 = .ok (.iload_n 3, 1) := by decide +kernel
theorem dX5_takeBatch_204 : decode cX5_takeBatch 204 = .ok (.ireturn, 1) := by decide +kernel
theorem dX5_give_0 : decode cX5_give 0 = .ok (.aload_n 0, 1) := by decide +kernel
theorem dX5_give_1 : decode cX5_give 1 = .ok (.getfield 21, 3) := by decide +kernel
theorem dX5_give_4 : decode cX5_give 4 = .ok (.bipush 15, 2) := by decide +kernel
theorem dX5_give_6 : decode cX5_give 6 = .ok (.iload_n 1, 1) := by decide +kernel
theorem dX5_give_7 : decode cX5_give 7 = .ok (.aload_n 0, 1) := by decide +kernel
theorem dX5_give_8 : decode cX5_give 8 = .ok (.getfield 41, 3) := by decide +kernel
theorem dX5_give_11 : decode cX5_give 11 = .ok (.iload_n 1, 1) := by decide +kernel
theorem dX5_give_12 : decode cX5_give 12 = .ok (.invokevirtual 190, 3) := by decide +kernel
theorem dX5_give_15 : decode cX5_give 15 = .ok (.invokevirtual 126, 3) := by decide +kernel
theorem dX5_give_18 : decode cX5_give 18 = .ok (.aload_n 0, 1) := by decide +kernel
theorem dX5_give_19 : decode cX5_give 19 = .ok (.getfield 21, 3) := by decide +kernel
theorem dX5_give_22 : decode cX5_give 22 = .ok (.bipush 16, 2) := by decide +kernel
theorem dX5_give_24 : decode cX5_give 24 = .ok (.iload_n 1, 1) := by decide +kernel
theorem dX5_give_25 : decode cX5_give 25 = .ok (.iconst 1, 1) := by decide +kernel
theorem dX5_give_26 : decode cX5_give 26 = .ok (.invokevirtual 122, 3) := by decide +kernel
theorem dX5_give_29 : decode cX5_give 29 = .ok (.aload_n 0, 1) := by decide +kernel
theorem dX5_give_30 : decode cX5_give 30 = .ok (.getfield 21, 3) := by decide +kernel
theorem dX5_give_33 : decode cX5_give 33 = .ok (.bipush 19, 2) := by decide +kernel
theorem dX5_give_35 : decode cX5_give 35 = .ok (.iload_n 1, 1) := by decide +kernel
theorem dX5_give_36 : decode cX5_give 36 = .ok (.aload_n 0, 1) := by decide +kernel
theorem dX5_give_37 : decode cX5_give 37 = .ok (.getfield 41, 3) := by decide +kernel
theorem dX5_give_40 : decode cX5_give 40 = .ok (.iload_n 1, 1) := by decide +kernel
theorem dX5_give_41 : decode cX5_give 41 = .ok (.invokevirtual 193, 3) := by decide +kernel
theorem dX5_give_44 : decode cX5_give 44 = .ok (.invokevirtual 122, 3) := by decide +kernel
theorem dX5_give_47 : decode cX5_give 47 = .ok (.aload_n 0, 1) := by decide +kernel
theorem dX5_give_48 : decode cX5_give 48 = .ok (.getfield 41, 3) := by decide +kernel
theorem dX5_give_51 : decode cX5_give 51 = .ok (.iload_n 1, 1) := by decide +kernel
theorem dX5_give_52 : decode cX5_give 52 = .ok (.aload_n 0, 1) := by decide +kernel
theorem dX5_give_53 : decode cX5_give 53 = .ok (.getfield 54, 3) := by decide +kernel
theorem dX5_give_56 : decode cX5_give 56 = .ok (.iconst 4, 1) := by decide +kernel
theorem dX5_give_57 : decode cX5_give 57 = .ok (.iaload, 1) := by decide +kernel
theorem dX5_give_58 : decode cX5_give 58 = .ok (.aload_n 0, 1) := by decide +kernel
theorem dX5_give_59 : decode cX5_give 59 = .ok (.getfield 54, 3) := by decide +kernel
theorem dX5_give_62 : decode cX5_give 62 = .ok (.iconst 5, 1) := by decide +kernel
theorem dX5_give_63 : decode cX5_give 63 = .ok (.iaload, 1) := by decide +kernel
theorem dX5_give_64 : decode cX5_give 64 = .ok (.invokevirtual 196, 3) := by decide +kernel
theorem dX5_give_67 : decode cX5_give 67 = .ok (.aload_n 0, 1) := by decide +kernel
theorem dX5_give_68 : decode cX5_give 68 = .ok (.getfield 21, 3) := by decide +kernel
theorem dX5_give_71 : decode cX5_give 71 = .ok (.bipush 17, 2) := by decide +kernel
theorem dX5_give_73 : decode cX5_give 73 = .ok (.iload_n 1, 1) := by decide +kernel
theorem dX5_give_74 : decode cX5_give 74 = .ok (.invokevirtual 87, 3) := by decide +kernel
theorem dX5_give_77 : decode cX5_give 77 = .ok (.istore_n 3, 1) := by decide +kernel
theorem dX5_give_78 : decode cX5_give 78 = .ok (.aload_n 0, 1) := by decide +kernel
theorem dX5_give_79 : decode cX5_give 79 = .ok (.getfield 54, 3) := by decide +kernel
theorem dX5_give_82 : decode cX5_give 82 = .ok (.bipush 6, 2) := by decide +kernel
theorem dX5_give_84 : decode cX5_give 84 = .ok (.iaload, 1) := by decide +kernel
theorem dX5_give_85 : decode cX5_give 85 = .ok (.iconst 1, 1) := by decide +kernel
theorem dX5_give_86 : decode cX5_give 86 = .ok (.if_icmp .ne 51, 3) := by decide +kernel
theorem dX5_give_89 : decode cX5_give 89 = .ok (.iload_n 3, 1) := by decide +kernel
theorem dX5_give_90 : decode cX5_give 90 = .ok (.iconst (-1), 1) := by decide +kernel
theorem dX5_give_91 : decode cX5_give 91 = .ok (.if_icmp .eq 46, 3) := by decide +kernel
theorem dX5_give_94 : decode cX5_give 94 = .ok (.iload_n 3, 1) := by decide +kernel
theorem dX5_give_95 : decode cX5_give 95 = .ok (.iload_n 2, 1) := by decide +kernel
theorem dX5_give_96 : decode cX5_give 96 = .ok (.if_icmp .eq 41, 3) := by decide +kernel
theorem dX5_give_99 : decode cX5_give 99 = .ok (.aload_n 0, 1) := by decide +kernel
theorem dX5_give_100 : decode cX5_give 100 = .ok (.getfield 21, 3) := by decide +kernel
theorem dX5_give_103 : decode cX5_give 103 = .ok (.bipush 13, 2) := by decide +kernel
theorem dX5_give_105 : decode cX5_give 105 = .ok (.iload_n 1, 1) := by decide +kernel
theorem dX5_give_106 : decode cX5_give 106 = .ok (.invokevirtual 87, 3) := by decide +kernel
theorem dX5_give_109 : decode cX5_give 109 = .ok (.iload_n 3, 1) := by decide +kernel
theorem dX5_give_110 : decode cX5_give 110 = .ok (.if_icmp .eq 27, 3) := by decide +kernel
theorem dX5_give_113 : decode cX5_give 113 = .ok (.aload_n 0, 1) := by decide +kernel
theorem dX5_give_114 : decode cX5_give 114 = .ok (.getfield 21, 3) := by decide +kernel
theorem dX5_give_117 : decode cX5_give 117 = .ok (.iload_n 1, 1) := by decide +kernel
theorem dX5_give_118 : decode cX5_give 118 = .ok (.iload_n 3, 1) := by decide +kernel
theorem dX5_give_119 : decode cX5_give 119 = .ok (.aload_n 0, 1) := by decide +kernel
theorem dX5_give_120 : decode cX5_give 120 = .ok (.getfield 80, 3) := by decide +kernel
theorem dX5_give_123 : decode cX5_give 123 = .ok (.invokevirtual 199, 3) := by decide +kernel
theorem dX5_give_126 : decode cX5_give 126 = .ok (.pop, 1) := by decide +kernel
theorem dX5_give_127 : decode cX5_give 127 = .ok (.aload_n 0, 1) := by decide +kernel
theorem dX5_give_128 : decode cX5_give 128 = .ok (.dup, 1) := by decide +kernel
theorem dX5_give_129 : decode cX5_give 129 = .ok (.getfield 84, 3) := by decide +kernel
theorem dX5_give_132 : decode cX5_give 132 = .ok (.iconst 1, 1) := by decide +kernel
theorem dX5_give_133 : decode cX5_give 133 = .ok (.iadd, 1) := by decide +kernel
theorem dX5_give_134 : decode cX5_give 134 = .ok (.putfield 84, 3) := by decide +kernel
theorem dX5_give_137 : decode cX5_give 137 = .ok (.return_, 1) := by decide +kernel
theorem dX5_missingBytes_0 : decode cX5_missingBytes 0 = .ok (.aload_n 0, 1) := by decide +kernel
theorem dX5_missingBytes_1 : decode cX5_missingBytes 1 = .ok (.getfield 21, 3) := by decide +kernel
theorem dX5_missingBytes_4 : decode cX5_missingBytes 4 = .ok (.bipush 9, 2) := by decide +kernel
theorem dX5_missingBytes_6 : decode cX5_missingBytes 6 = .ok (.iload_n 1, 1) := by decide +kernel
theorem dX5_missingBytes_7 : decode cX5_missingBytes 7 = .ok (.invokevirtual 87, 3) := by decide +kernel
theorem dX5_missingBytes_10 : decode cX5_missingBytes 10 = .ok (.aload_n 0, 1) := by decide +kernel
theorem dX5_missingBytes_11 : decode cX5_missingBytes 11 = .ok (.getfield 21, 3) := by decide +kernel
theorem dX5_missingBytes_14 : decode cX5_missingBytes 14 = .ok (.bipush 19, 2) := by decide +kernel
theorem dX5_missingBytes_16 : decode cX5_missingBytes 16 = .ok (.iload_n 1, 1) := by decide +kernel
theorem dX5_missingBytes_17 : decode cX5_missingBytes 17 = .ok (.invokevirtual 87, 3) := by decide +kernel
theorem dX5_missingBytes_20 : decode cX5_missingBytes 20 = .ok (.isub, 1) := by decide +kernel
theorem dX5_missingBytes_21 : decode cX5_missingBytes 21 = .ok (.istore_n 2, 1) := by decide +kernel
theorem dX5_missingBytes_22 : decode cX5_missingBytes 22 = .ok (.aload_n 0, 1) := by decide +kernel
theorem dX5_missingBytes_23 : decode cX5_missingBytes 23 = .ok (.getfield 21, 3) := by decide +kernel
theorem dX5_missingBytes_26 : decode cX5_missingBytes 26 = .ok (.bipush 7, 2) := by decide +kernel
theorem dX5_missingBytes_28 : decode cX5_missingBytes 28 = .ok (.iload_n 1, 1) := by decide +kernel
theorem dX5_missingBytes_29 : decode cX5_missingBytes 29 = .ok (.invokevirtual 87, 3) := by decide +kernel
theorem dX5_missingBytes_32 : decode cX5_missingBytes 32 = .ok (.istore_n 3, 1) := by decide +kernel
theorem dX5_missingBytes_33 : decode cX5_missingBytes 33 = .ok (.iload_n 3, 1) := by decide +kernel
theorem dX5_missingBytes_34 : decode cX5_missingBytes 34 = .ok (.iconst (-1), 1) := by decide +kernel
theorem dX5_missingBytes_35 : decode cX5_missingBytes 35 = .ok (.if_icmp .ne 5, 3) := by decide +kernel
theorem dX5_missingBytes_38 : decode cX5_missingBytes 38 = .ok (.iload_n 2, 1) := by decide +kernel
theorem dX5_missingBytes_39 : decode cX5_missingBytes 39 = .ok (.ireturn, 1) := by decide +kernel
theorem dX5_missingBytes_40 : decode cX5_missingBytes 40 = .ok (.iconst 0, 1) := by decide +kernel
theorem dX5_missingBytes_41 : decode cX5_missingBytes 41 = .ok (.istore 4, 2) := by decide +kernel
theorem dX5_missingBytes_43 : decode cX5_missingBytes 43 = .ok (.iload 4, 2) := by decide +kernel
theorem dX5_missingBytes_45 : decode cX5_missingBytes 45 = .ok (.aload_n 0, 1) := by decide +kernel
theorem dX5_missingBytes_46 : decode cX5_missingBytes 46 = .ok (.getfield 34, 3) := by decide +kernel
theorem dX5_missingBytes_49 : decode cX5_missingBytes 49 = .ok (.iload_n 3, 1) := by decide +kernel
theorem dX5_missingBytes_50 : decode cX5_missingBytes 50 = .ok (.aaload, 1) := by decide +kernel
theorem dX5_missingBytes_51 : decode cX5_missingBytes 51 = .ok (.getfield 118, 3) := by decide +kernel
theorem dX5_missingBytes_54 : decode cX5_missingBytes 54 = .ok (.if_icmp .ge 40, 3) := by decide +kernel
theorem dX5_missingBytes_57 : decode cX5_missingBytes 57 = .ok (.aload_n 0, 1) := by decide +kernel
theorem dX5_missingBytes_58 : decode cX5_missingBytes 58 = .ok (.getfield 34, 3) := by decide +kernel
theorem dX5_missingBytes_61 : decode cX5_missingBytes 61 = .ok (.iload_n 3, 1) := by decide +kernel
theorem dX5_missingBytes_62 : decode cX5_missingBytes 62 = .ok (.aaload, 1) := by decide +kernel
theorem dX5_missingBytes_63 : decode cX5_missingBytes 63 = .ok (.iload 4, 2) := by decide +kernel
theorem dX5_missingBytes_65 : decode cX5_missingBytes 65 = .ok (.iconst 0, 1) := by decide +kernel
theorem dX5_missingBytes_66 : decode cX5_missingBytes 66 = .ok (.invokevirtual 164, 3) := by decide +kernel
theorem dX5_missingBytes_69 : decode cX5_missingBytes 69 = .ok (.iload_n 1, 1) := by decide +kernel
theorem dX5_missingBytes_70 : decode cX5_missingBytes 70 = .ok (.if_icmp .ne 18, 3) := by decide +kernel
theorem dX5_missingBytes_73 : decode cX5_missingBytes 73 = .ok (.iload_n 2, 1) := by decide +kernel
theorem dX5_missingBytes_74 : decode cX5_missingBytes 74 = .ok (.aload_n 0, 1) := by decide +kernel
theorem dX5_missingBytes_75 : decode cX5_missingBytes 75 = .ok (.getfield 34, 3) := by decide +kernel
theorem dX5_missingBytes_78 : decode cX5_missingBytes 78 = .ok (.iload_n 3, 1) := by decide +kernel
theorem dX5_missingBytes_79 : decode cX5_missingBytes 79 = .ok (.aaload, 1) := by decide +kernel
theorem dX5_missingBytes_80 : decode cX5_missingBytes 80 = .ok (.iload 4, 2) := by decide +kernel
theorem dX5_missingBytes_82 : decode cX5_missingBytes 82 = .ok (.iconst 2, 1) := by decide +kernel
theorem dX5_missingBytes_83 : decode cX5_missingBytes 83 = .ok (.invokevirtual 164, 3) := by decide +kernel
theorem dX5_missingBytes_86 : decode cX5_missingBytes 86 = .ok (.isub, 1) := by decide +kernel
theorem dX5_missingBytes_87 : decode cX5_missingBytes 87 = .ok (.istore_n 2, 1) := by decide +kernel
theorem dX5_missingBytes_88 : decode cX5_missingBytes 88 = .ok (.iinc 4 1, 3) := by decide +kernel
theorem dX5_missingBytes_91 : decode cX5_missingBytes 91 = .ok (.goto (-48), 3) := by decide +kernel
theorem dX5_missingBytes_94 : decode cX5_missingBytes 94 = .ok (.iload_n 2, 1) := by decide +kernel
theorem dX5_missingBytes_95 : decode cX5_missingBytes 95 = .ok (.ireturn, 1) := by decide +kernel
theorem dX5_widestHole_0 : decode cX5_widestHole 0 = .ok (.aload_n 0, 1) := by decide +kernel
theorem dX5_widestHole_1 : decode cX5_widestHole 1 = .ok (.getfield 21, 3) := by decide +kernel
theorem dX5_widestHole_4 : decode cX5_widestHole 4 = .ok (.bipush 15, 2) := by decide +kernel
theorem dX5_widestHole_6 : decode cX5_widestHole 6 = .ok (.iload_n 1, 1) := by decide +kernel
theorem dX5_widestHole_7 : decode cX5_widestHole 7 = .ok (.invokevirtual 87, 3) := by decide +kernel
theorem dX5_widestHole_10 : decode cX5_widestHole 10 = .ok (.istore_n 2, 1) := by decide +kernel
theorem dX5_widestHole_11 : decode cX5_widestHole 11 = .ok (.iconst 0, 1) := by decide +kernel
theorem dX5_widestHole_12 : decode cX5_widestHole 12 = .ok (.istore_n 3, 1) := by decide +kernel
theorem dX5_widestHole_13 : decode cX5_widestHole 13 = .ok (.aload_n 0, 1) := by decide +kernel
theorem dX5_widestHole_14 : decode cX5_widestHole 14 = .ok (.getfield 21, 3) := by decide +kernel
theorem dX5_widestHole_17 : decode cX5_widestHole 17 = .ok (.bipush 7, 2) := by decide +kernel
theorem dX5_widestHole_19 : decode cX5_widestHole 19 = .ok (.iload_n 1, 1) := by decide +kernel
theorem dX5_widestHole_20 : decode cX5_widestHole 20 = .ok (.invokevirtual 87, 3) := by decide +kernel
theorem dX5_widestHole_23 : decode cX5_widestHole 23 = .ok (.istore 4, 2) := by decide +kernel
theorem dX5_widestHole_25 : decode cX5_widestHole 25 = .ok (.iconst 0, 1) := by decide +kernel
theorem dX5_widestHole_26 : decode cX5_widestHole 26 = .ok (.istore 5, 2) := by decide +kernel
theorem dX5_widestHole_28 : decode cX5_widestHole 28 = .ok (.iload 4, 2) := by decide +kernel
theorem dX5_widestHole_30 : decode cX5_widestHole 30 = .ok (.iconst (-1), 1) := by decide +kernel
theorem dX5_widestHole_31 : decode cX5_widestHole 31 = .ok (.if_icmp .eq 82, 3) := by decide +kernel
theorem dX5_widestHole_34 : decode cX5_widestHole 34 = .ok (.iload 5, 2) := by decide +kernel
theorem dX5_widestHole_36 : decode cX5_widestHole 36 = .ok (.aload_n 0, 1) := by decide +kernel
theorem dX5_widestHole_37 : decode cX5_widestHole 37 = .ok (.getfield 34, 3) := by decide +kernel
theorem dX5_widestHole_40 : decode cX5_widestHole 40 = .ok (.iload 4, 2) := by decide +kernel
theorem dX5_widestHole_42 : decode cX5_widestHole 42 = .ok (.aaload, 1) := by decide +kernel
theorem dX5_widestHole_43 : decode cX5_widestHole 43 = .ok (.getfield 118, 3) := by decide +kernel
theorem dX5_widestHole_46 : decode cX5_widestHole 46 = .ok (.if_icmp .ge 67, 3) := by decide +kernel
theorem dX5_widestHole_49 : decode cX5_widestHole 49 = .ok (.aload_n 0, 1) := by decide +kernel
theorem dX5_widestHole_50 : decode cX5_widestHole 50 = .ok (.getfield 34, 3) := by decide +kernel
theorem dX5_widestHole_53 : decode cX5_widestHole 53 = .ok (.iload 4, 2) := by decide +kernel
theorem dX5_widestHole_55 : decode cX5_widestHole 55 = .ok (.aaload, 1) := by decide +kernel
theorem dX5_widestHole_56 : decode cX5_widestHole 56 = .ok (.iload 5, 2) := by decide +kernel
theorem dX5_widestHole_58 : decode cX5_widestHole 58 = .ok (.iconst 0, 1) := by decide +kernel
theorem dX5_widestHole_59 : decode cX5_widestHole 59 = .ok (.invokevirtual 164, 3) := by decide +kernel
theorem dX5_widestHole_62 : decode cX5_widestHole 62 = .ok (.iload_n 1, 1) := by decide +kernel
theorem dX5_widestHole_63 : decode cX5_widestHole 63 = .ok (.if_icmp .ne 44, 3) := by decide +kernel
theorem dX5_widestHole_66 : decode cX5_widestHole 66 = .ok (.aload_n 0, 1) := by decide +kernel
theorem dX5_widestHole_67 : decode cX5_widestHole 67 = .ok (.getfield 34, 3) := by decide +kernel
theorem dX5_widestHole_70 : decode cX5_widestHole 70 = .ok (.iload 4, 2) := by decide +kernel
theorem dX5_widestHole_72 : decode cX5_widestHole 72 = .ok (.aaload, 1) := by decide +kernel
theorem dX5_widestHole_73 : decode cX5_widestHole 73 = .ok (.iload 5, 2) := by decide +kernel
theorem dX5_widestHole_75 : decode cX5_widestHole 75 = .ok (.iconst 1, 1) := by decide +kernel
theorem dX5_widestHole_76 : decode cX5_widestHole 76 = .ok (.invokevirtual 164, 3) := by decide +kernel
theorem dX5_widestHole_79 : decode cX5_widestHole 79 = .ok (.istore 6, 2) := by decide +kernel
theorem dX5_widestHole_81 : decode cX5_widestHole 81 = .ok (.iload_n 3, 1) := by decide +kernel
theorem dX5_widestHole_82 : decode cX5_widestHole 82 = .ok (.iload 6, 2) := by decide +kernel
theorem dX5_widestHole_84 : decode cX5_widestHole 84 = .ok (.iload_n 2, 1) := by decide +kernel
theorem dX5_widestHole_85 : decode cX5_widestHole 85 = .ok (.isub, 1) := by decide +kernel
theorem dX5_widestHole_86 : decode cX5_widestHole 86 = .ok (.invokestatic 203, 3) := by decide +kernel
theorem dX5_widestHole_89 : decode cX5_widestHole 89 = .ok (.istore_n 3, 1) := by decide +kernel
theorem dX5_widestHole_90 : decode cX5_widestHole 90 = .ok (.iload 6, 2) := by decide +kernel
theorem dX5_widestHole_92 : decode cX5_widestHole 92 = .ok (.aload_n 0, 1) := by decide +kernel
theorem dX5_widestHole_93 : decode cX5_widestHole 93 = .ok (.getfield 34, 3) := by decide +kernel
theorem dX5_widestHole_96 : decode cX5_widestHole 96 = .ok (.iload 4, 2) := by decide +kernel
theorem dX5_widestHole_98 : decode cX5_widestHole 98 = .ok (.aaload, 1) := by decide +kernel
theorem dX5_widestHole_99 : decode cX5_widestHole 99 = .ok (.iload 5, 2) := by decide +kernel
theorem dX5_widestHole_101 : decode cX5_widestHole 101 = .ok (.iconst 2, 1) := by decide +kernel
theorem dX5_widestHole_102 : decode cX5_widestHole 102 = .ok (.invokevirtual 164, 3) := by decide +kernel
theorem dX5_widestHole_105 : decode cX5_widestHole 105 = .ok (.iadd, 1) := by decide +kernel
theorem dX5_widestHole_106 : decode cX5_widestHole 106 = .ok (.istore_n 2, 1) := by decide +kernel
theorem dX5_widestHole_107 : decode cX5_widestHole 107 = .ok (.iinc 5 1, 3) := by decide +kernel
theorem dX5_widestHole_110 : decode cX5_widestHole 110 = .ok (.goto (-82), 3) := by decide +kernel
theorem dX5_widestHole_113 : decode cX5_widestHole 113 = .ok (.iload_n 3, 1) := by decide +kernel
theorem dX5_widestHole_114 : decode cX5_widestHole 114 = .ok (.aload_n 0, 1) := by decide +kernel
theorem dX5_widestHole_115 : decode cX5_widestHole 115 = .ok (.getfield 21, 3) := by decide +kernel
theorem dX5_widestHole_118 : decode cX5_widestHole 118 = .ok (.bipush 9, 2) := by decide +kernel
theorem dX5_widestHole_120 : decode cX5_widestHole 120 = .ok (.iload_n 1, 1) := by decide +kernel
theorem dX5_widestHole_121 : decode cX5_widestHole 121 = .ok (.invokevirtual 87, 3) := by decide +kernel
theorem dX5_widestHole_124 : decode cX5_widestHole 124 = .ok (.iload_n 2, 1) := by decide +kernel
theorem dX5_widestHole_125 : decode cX5_widestHole 125 = .ok (.isub, 1) := by decide +kernel
theorem dX5_widestHole_126 : decode cX5_widestHole 126 = .ok (.invokestatic 203, 3) := by decide +kernel
theorem dX5_widestHole_129 : decode cX5_widestHole 129 = .ok (.ireturn, 1) := by decide +kernel
theorem dX6_init_0 : decode cX6_init 0 = .ok (.aload_n 0, 1) := by decide +kernel
theorem dX6_init_1 : decode cX6_init 1 = .ok (.invokespecial 3, 3) := by decide +kernel
theorem dX6_init_4 : decode cX6_init 4 = .ok (.aload_n 0, 1) := by decide +kernel
theorem dX6_init_5 : decode cX6_init 5 = .ok (.bipush 16, 2) := by decide +kernel
theorem dX6_init_7 : decode cX6_init 7 = .ok (.newarray .int, 2) := by decide +kernel
theorem dX6_init_9 : decode cX6_init 9 = .ok (.putfield 9, 3) := by decide +kernel
theorem dX6_init_12 : decode cX6_init 12 = .ok (.aload_n 0, 1) := by decide +kernel
theorem dX6_init_13 : decode cX6_init 13 = .ok (.bipush 16, 2) := by decide +kernel
theorem dX6_init_15 : decode cX6_init 15 = .ok (.newarray .int, 2) := by decide +kernel
theorem dX6_init_17 : decode cX6_init 17 = .ok (.putfield 15, 3) := by decide +kernel
theorem dX6_init_20 : decode cX6_init 20 = .ok (.aload_n 0, 1) := by decide +kernel
theorem dX6_init_21 : decode cX6_init 21 = .ok (.bipush 16, 2) := by decide +kernel
theorem dX6_init_23 : decode cX6_init 23 = .ok (.newarray .int, 2) := by decide +kernel
theorem dX6_init_25 : decode cX6_init 25 = .ok (.putfield 18, 3) := by decide +kernel
theorem dX6_init_28 : decode cX6_init 28 = .ok (.aload_n 0, 1) := by decide +kernel
theorem dX6_init_29 : decode cX6_init 29 = .ok (.iconst 4, 1) := by decide +kernel
theorem dX6_init_30 : decode cX6_init 30 = .ok (.newarray .int, 2) := by decide +kernel
theorem dX6_init_32 : decode cX6_init 32 = .ok (.putfield 21, 3) := by decide +kernel
theorem dX6_init_35 : decode cX6_init 35 = .ok (.iconst 0, 1) := by decide +kernel
theorem dX6_init_36 : decode cX6_init 36 = .ok (.istore_n 1, 1) := by decide +kernel
theorem dX6_init_37 : decode cX6_init 37 = .ok (.iload_n 1, 1) := by decide +kernel
theorem dX6_init_38 : decode cX6_init 38 = .ok (.bipush 16, 2) := by decide +kernel
theorem dX6_init_40 : decode cX6_init 40 = .ok (.if_icmp .ge 18, 3) := by decide +kernel
theorem dX6_init_43 : decode cX6_init 43 = .ok (.aload_n 0, 1) := by decide +kernel
theorem dX6_init_44 : decode cX6_init 44 = .ok (.getfield 9, 3) := by decide +kernel
theorem dX6_init_47 : decode cX6_init 47 = .ok (.iload_n 1, 1) := by decide +kernel
theorem dX6_init_48 : decode cX6_init 48 = .ok (.iload_n 1, 1) := by decide +kernel
theorem dX6_init_49 : decode cX6_init 49 = .ok (.iconst 4, 1) := by decide +kernel
theorem dX6_init_50 : decode cX6_init 50 = .ok (.irem, 1) := by decide +kernel
theorem dX6_init_51 : decode cX6_init 51 = .ok (.iastore, 1) := by decide +kernel
theorem dX6_init_52 : decode cX6_init 52 = .ok (.iinc 1 1, 3) := by decide +kernel
theorem dX6_init_55 : decode cX6_init 55 = .ok (.goto (-18), 3) := by decide +kernel
theorem dX6_init_58 : decode cX6_init 58 = .ok (.return_, 1) := by decide +kernel
theorem dX6_copyFrom_0 : decode cX6_copyFrom 0 = .ok (.aload_n 1, 1) := by decide +kernel
theorem dX6_copyFrom_1 : decode cX6_copyFrom 1 = .ok (.getfield 9, 3) := by decide +kernel
theorem dX6_copyFrom_4 : decode cX6_copyFrom 4 = .ok (.iconst 0, 1) := by decide +kernel
theorem dX6_copyFrom_5 : decode cX6_copyFrom 5 = .ok (.aload_n 0, 1) := by decide +kernel
theorem dX6_copyFrom_6 : decode cX6_copyFrom 6 = .ok (.getfield 9, 3) := by decide +kernel
theorem dX6_copyFrom_9 : decode cX6_copyFrom 9 = .ok (.iconst 0, 1) := by decide +kernel
theorem dX6_copyFrom_10 : decode cX6_copyFrom 10 = .ok (.bipush 16, 2) := by decide +kernel
theorem dX6_copyFrom_12 : decode cX6_copyFrom 12 = .ok (.invokestatic 24, 3) := by decide +kernel
theorem dX6_copyFrom_15 : decode cX6_copyFrom 15 = .ok (.aload_n 1, 1) := by decide +kernel
theorem dX6_copyFrom_16 : decode cX6_copyFrom 16 = .ok (.getfield 15, 3) := by decide +kernel
theorem dX6_copyFrom_19 : decode cX6_copyFrom 19 = .ok (.iconst 0, 1) := by decide +kernel
theorem dX6_copyFrom_20 : decode cX6_copyFrom 20 = .ok (.aload_n 0, 1) := by decide +kernel
theorem dX6_copyFrom_21 : decode cX6_copyFrom 21 = .ok (.getfield 15, 3) := by decide +kernel
theorem dX6_copyFrom_24 : decode cX6_copyFrom 24 = .ok (.iconst 0, 1) := by decide +kernel
theorem dX6_copyFrom_25 : decode cX6_copyFrom 25 = .ok (.bipush 16, 2) := by decide +kernel
theorem dX6_copyFrom_27 : decode cX6_copyFrom 27 = .ok (.invokestatic 24, 3) := by decide +kernel
theorem dX6_copyFrom_30 : decode cX6_copyFrom 30 = .ok (.return_, 1) := by decide +kernel
theorem dX6_clearHits_0 : decode cX6_clearHits 0 = .ok (.iconst 0, 1) := by decide +kernel
theorem dX6_clearHits_1 : decode cX6_clearHits 1 = .ok (.istore_n 1, 1) := by decide +kernel
theorem dX6_clearHits_2 : decode cX6_clearHits 2 = .ok (.iload_n 1, 1) := by decide +kernel
theorem dX6_clearHits_3 : decode cX6_clearHits 3 = .ok (.bipush 16, 2) := by decide +kernel
theorem dX6_clearHits_5 : decode cX6_clearHits 5 = .ok (.if_icmp .ge 16, 3) := by decide +kernel
theorem dX6_clearHits_8 : decode cX6_clearHits 8 = .ok (.aload_n 0, 1) := by decide +kernel
theorem dX6_clearHits_9 : decode cX6_clearHits 9 = .ok (.getfield 15, 3) := by decide +kernel
theorem dX6_clearHits_12 : decode cX6_clearHits 12 = .ok (.iload_n 1, 1) := by decide +kernel
theorem dX6_clearHits_13 : decode cX6_clearHits 13 = .ok (.iconst 0, 1) := by decide +kernel
theorem dX6_clearHits_14 : decode cX6_clearHits 14 = .ok (.iastore, 1) := by decide +kernel
theorem dX6_clearHits_15 : decode cX6_clearHits 15 = .ok (.iinc 1 1, 3) := by decide +kernel
theorem dX6_clearHits_18 : decode cX6_clearHits 18 = .ok (.goto (-16), 3) := by decide +kernel
theorem dX6_clearHits_21 : decode cX6_clearHits 21 = .ok (.return_, 1) := by decide +kernel
theorem dX6_entriesOf_0 : decode cX6_entriesOf 0 = .ok (.iconst 0, 1) := by decide +kernel
theorem dX6_entriesOf_1 : decode cX6_entriesOf 1 = .ok (.istore_n 2, 1) := by decide +kernel
theorem dX6_entriesOf_2 : decode cX6_entriesOf 2 = .ok (.iconst 0, 1) := by decide +kernel
theorem dX6_entriesOf_3 : decode cX6_entriesOf 3 = .ok (.istore_n 3, 1) := by decide +kernel
theorem dX6_entriesOf_4 : decode cX6_entriesOf 4 = .ok (.iload_n 3, 1) := by decide +kernel
theorem dX6_entriesOf_5 : decode cX6_entriesOf 5 = .ok (.bipush 16, 2) := by decide +kernel
theorem dX6_entriesOf_7 : decode cX6_entriesOf 7 = .ok (.if_icmp .ge 25, 3) := by decide +kernel
theorem dX6_entriesOf_10 : decode cX6_entriesOf 10 = .ok (.aload_n 0, 1) := by decide +kernel
theorem dX6_entriesOf_11 : decode cX6_entriesOf 11 = .ok (.getfield 9, 3) := by decide +kernel
theorem dX6_entriesOf_14 : decode cX6_entriesOf 14 = .ok (.iload_n 3, 1) := by decide +kernel
theorem dX6_entriesOf_15 : decode cX6_entriesOf 15 = .ok (.iaload, 1) := by decide +kernel
theorem dX6_entriesOf_16 : decode cX6_entriesOf 16 = .ok (.iload_n 1, 1) := by decide +kernel
theorem dX6_entriesOf_17 : decode cX6_entriesOf 17 = .ok (.if_icmp .ne 9, 3) := by decide +kernel
theorem dX6_entriesOf_20 : decode cX6_entriesOf 20 = .ok (.iload_n 2, 1) := by decide +kernel
theorem dX6_entriesOf_21 : decode cX6_entriesOf 21 = .ok (.iconst 1, 1) := by decide +kernel
theorem dX6_entriesOf_22 : decode cX6_entriesOf 22 = .ok (.iload_n 3, 1) := by decide +kernel
theorem dX6_entriesOf_23 : decode cX6_entriesOf 23 = .ok (.ishl, 1) := by decide +kernel
theorem dX6_entriesOf_24 : decode cX6_entriesOf 24 = .ok (.ior, 1) := by decide +kernel
theorem dX6_entriesOf_25 : decode cX6_entriesOf 25 = .ok (.istore_n 2, 1) := by decide +kernel
theorem dX6_entriesOf_26 : decode cX6_entriesOf 26 = .ok (.iinc 3 1, 3) := by decide +kernel
theorem dX6_entriesOf_29 : decode cX6_entriesOf 29 = .ok (.goto (-25), 3) := by decide +kernel
theorem dX6_entriesOf_32 : decode cX6_entriesOf 32 = .ok (.iload_n 2, 1) := by decide +kernel
theorem dX6_entriesOf_33 : decode cX6_entriesOf 33 = .ok (.ireturn, 1) := by decide +kernel
theorem dX6_mostHits_0 : decode cX6_mostHits 0 = .ok (.aload_n 0, 1) := by decide +kernel
theorem dX6_mostHits_1 : decode cX6_mostHits 1 = .ok (.invokevirtual 30, 3) := by decide +kernel
theorem dX6_mostHits_4 : decode cX6_mostHits 4 = .ok (.aload_n 0, 1) := by decide +kernel
theorem dX6_mostHits_5 : decode cX6_mostHits 5 = .ok (.getfield 21, 3) := by decide +kernel
theorem dX6_mostHits_8 : decode cX6_mostHits 8 = .ok (.iconst 0, 1) := by decide +kernel
theorem dX6_mostHits_9 : decode cX6_mostHits 9 = .ok (.iaload, 1) := by decide +kernel
theorem dX6_mostHits_10 : decode cX6_mostHits 10 = .ok (.istore_n 1, 1) := by decide +kernel
theorem dX6_mostHits_11 : decode cX6_mostHits 11 = .ok (.iconst 1, 1) := by decide +kernel
theorem dX6_mostHits_12 : decode cX6_mostHits 12 = .ok (.istore_n 2, 1) := by decide +kernel
theorem dX6_mostHits_13 : decode cX6_mostHits 13 = .ok (.iload_n 2, 1) := by decide +kernel
theorem dX6_mostHits_14 : decode cX6_mostHits 14 = .ok (.iconst 4, 1) := by decide +kernel
theorem dX6_mostHits_15 : decode cX6_mostHits 15 = .ok (.if_icmp .ge 20, 3) := by decide +kernel
theorem dX6_mostHits_18 : decode cX6_mostHits 18 = .ok (.iload_n 1, 1) := by decide +kernel
theorem dX6_mostHits_19 : decode cX6_mostHits 19 = .ok (.aload_n 0, 1) := by decide +kernel
theorem dX6_mostHits_20 : decode cX6_mostHits 20 = .ok (.getfield 21, 3) := by decide +kernel
theorem dX6_mostHits_23 : decode cX6_mostHits 23 = .ok (.iload_n 2, 1) := by decide +kernel
theorem dX6_mostHits_24 : decode cX6_mostHits 24 = .ok (.iaload, 1) := by decide +kernel
theorem dX6_mostHits_25 : decode cX6_mostHits 25 = .ok (.invokestatic 33, 3) := by decide +kernel
theorem dX6_mostHits_28 : decode cX6_mostHits 28 = .ok (.istore_n 1, 1) := by decide +kernel
theorem dX6_mostHits_29 : decode cX6_mostHits 29 = .ok (.iinc 2 1, 3) := by decide +kernel
theorem dX6_mostHits_32 : decode cX6_mostHits 32 = .ok (.goto (-19), 3) := by decide +kernel
theorem dX6_mostHits_35 : decode cX6_mostHits 35 = .ok (.iload_n 1, 1) := by decide +kernel
theorem dX6_mostHits_36 : decode cX6_mostHits 36 = .ok (.ireturn, 1) := by decide +kernel
theorem dX6_leastHits_0 : decode cX6_leastHits 0 = .ok (.aload_n 0, 1) := by decide +kernel
theorem dX6_leastHits_1 : decode cX6_leastHits 1 = .ok (.invokevirtual 30, 3) := by decide +kernel
theorem dX6_leastHits_4 : decode cX6_leastHits 4 = .ok (.aload_n 0, 1) := by decide +kernel
theorem dX6_leastHits_5 : decode cX6_leastHits 5 = .ok (.getfield 21, 3) := by decide +kernel
theorem dX6_leastHits_8 : decode cX6_leastHits 8 = .ok (.aload_n 0, 1) := by decide +kernel
theorem dX6_leastHits_9 : decode cX6_leastHits 9 = .ok (.iconst (-1), 1) := by decide +kernel
theorem dX6_leastHits_10 : decode cX6_leastHits 10 = .ok (.invokevirtual 39, 3) := by decide +kernel
theorem dX6_leastHits_13 : decode cX6_leastHits 13 = .ok (.iaload, 1) := by decide +kernel
theorem dX6_leastHits_14 : decode cX6_leastHits 14 = .ok (.ireturn, 1) := by decide +kernel
theorem dX6_deal_0 : decode cX6_deal 0 = .ok (.aload_n 0, 1) := by decide +kernel
theorem dX6_deal_1 : decode cX6_deal 1 = .ok (.invokevirtual 43, 3) := by decide +kernel
theorem dX6_deal_4 : decode cX6_deal 4 = .ok (.aload_n 0, 1) := by decide +kernel
theorem dX6_deal_5 : decode cX6_deal 5 = .ok (.invokevirtual 46, 3) := by decide +kernel
theorem dX6_deal_8 : decode cX6_deal 8 = .ok (.iconst 0, 1) := by decide +kernel
theorem dX6_deal_9 : decode cX6_deal 9 = .ok (.istore_n 1, 1) := by decide +kernel
theorem dX6_deal_10 : decode cX6_deal 10 = .ok (.iconst 0, 1) := by decide +kernel
theorem dX6_deal_11 : decode cX6_deal 11 = .ok (.istore_n 2, 1) := by decide +kernel
theorem dX6_deal_12 : decode cX6_deal 12 = .ok (.iload_n 2, 1) := by decide +kernel
theorem dX6_deal_13 : decode cX6_deal 13 = .ok (.bipush 16, 2) := by decide +kernel
theorem dX6_deal_15 : decode cX6_deal 15 = .ok (.if_icmp .ge 61, 3) := by decide +kernel
theorem dX6_deal_18 : decode cX6_deal 18 = .ok (.aload_n 0, 1) := by decide +kernel
theorem dX6_deal_19 : decode cX6_deal 19 = .ok (.getfield 18, 3) := by decide +kernel
theorem dX6_deal_22 : decode cX6_deal 22 = .ok (.iload_n 2, 1) := by decide +kernel
theorem dX6_deal_23 : decode cX6_deal 23 = .ok (.iaload, 1) := by decide +kernel
theorem dX6_deal_24 : decode cX6_deal 24 = .ok (.istore_n 3, 1) := by decide +kernel
theorem dX6_deal_25 : decode cX6_deal 25 = .ok (.aload_n 0, 1) := by decide +kernel
theorem dX6_deal_26 : decode cX6_deal 26 = .ok (.iconst (-1), 1) := by decide +kernel
theorem dX6_deal_27 : decode cX6_deal 27 = .ok (.invokevirtual 39, 3) := by decide +kernel
theorem dX6_deal_30 : decode cX6_deal 30 = .ok (.istore 4, 2) := by decide +kernel
theorem dX6_deal_32 : decode cX6_deal 32 = .ok (.aload_n 0, 1) := by decide +kernel
theorem dX6_deal_33 : decode cX6_deal 33 = .ok (.getfield 9, 3) := by decide +kernel
theorem dX6_deal_36 : decode cX6_deal 36 = .ok (.iload_n 3, 1) := by decide +kernel
theorem dX6_deal_37 : decode cX6_deal 37 = .ok (.iaload, 1) := by decide +kernel
theorem dX6_deal_38 : decode cX6_deal 38 = .ok (.iload 4, 2) := by decide +kernel
theorem dX6_deal_40 : decode cX6_deal 40 = .ok (.if_icmp .eq 6, 3) := by decide +kernel
theorem dX6_deal_43 : decode cX6_deal 43 = .ok (.iinc 1 1, 3) := by decide +kernel
theorem dX6_deal_46 : decode cX6_deal 46 = .ok (.aload_n 0, 1) := by decide +kernel
theorem dX6_deal_47 : decode cX6_deal 47 = .ok (.getfield 9, 3) := by decide +kernel
theorem dX6_deal_50 : decode cX6_deal 50 = .ok (.iload_n 3, 1) := by decide +kernel
theorem dX6_deal_51 : decode cX6_deal 51 = .ok (.iload 4, 2) := by decide +kernel
theorem dX6_deal_53 : decode cX6_deal 53 = .ok (.iastore, 1) := by decide +kernel
theorem dX6_deal_54 : decode cX6_deal 54 = .ok (.aload_n 0, 1) := by decide +kernel
theorem dX6_deal_55 : decode cX6_deal 55 = .ok (.getfield 21, 3) := by decide +kernel
theorem dX6_deal_58 : decode cX6_deal 58 = .ok (.iload 4, 2) := by decide +kernel
theorem dX6_deal_60 : decode cX6_deal 60 = .ok (.dup2, 1) := by decide +kernel
theorem dX6_deal_61 : decode cX6_deal 61 = .ok (.iaload, 1) := by decide +kernel
theorem dX6_deal_62 : decode cX6_deal 62 = .ok (.aload_n 0, 1) := by decide +kernel
theorem dX6_deal_63 : decode cX6_deal 63 = .ok (.getfield 15, 3) := by decide +kernel
theorem dX6_deal_66 : decode cX6_deal 66 = .ok (.iload_n 3, 1) := by decide +kernel
theorem dX6_deal_67 : decode cX6_deal 67 = .ok (.iaload, 1) := by decide +kernel
theorem dX6_deal_68 : decode cX6_deal 68 = .ok (.iadd, 1) := by decide +kernel
theorem dX6_deal_69 : decode cX6_deal 69 = .ok (.iastore, 1) := by decide +kernel
theorem dX6_deal_70 : decode cX6_deal 70 = .ok (.iinc 2 1, 3) := by decide +kernel
theorem dX6_deal_73 : decode cX6_deal 73 = .ok (.goto (-61), 3) := by decide +kernel
theorem dX6_deal_76 : decode cX6_deal 76 = .ok (.iload_n 1, 1) := by decide +kernel
theorem dX6_deal_77 : decode cX6_deal 77 = .ok (.ireturn, 1) := by decide +kernel
theorem dX6_emptyOut_0 : decode cX6_emptyOut 0 = .ok (.aload_n 0, 1) := by decide +kernel
theorem dX6_emptyOut_1 : decode cX6_emptyOut 1 = .ok (.invokevirtual 43, 3) := by decide +kernel
theorem dX6_emptyOut_4 : decode cX6_emptyOut 4 = .ok (.aload_n 0, 1) := by decide +kernel
theorem dX6_emptyOut_5 : decode cX6_emptyOut 5 = .ok (.invokevirtual 30, 3) := by decide +kernel
theorem dX6_emptyOut_8 : decode cX6_emptyOut 8 = .ok (.iconst 0, 1) := by decide +kernel
theorem dX6_emptyOut_9 : decode cX6_emptyOut 9 = .ok (.istore_n 2, 1) := by decide +kernel
theorem dX6_emptyOut_10 : decode cX6_emptyOut 10 = .ok (.iconst 0, 1) := by decide +kernel
theorem dX6_emptyOut_11 : decode cX6_emptyOut 11 = .ok (.istore_n 3, 1) := by decide +kernel
theorem dX6_emptyOut_12 : decode cX6_emptyOut 12 = .ok (.iload_n 3, 1) := by decide +kernel
theorem dX6_emptyOut_13 : decode cX6_emptyOut 13 = .ok (.bipush 16, 2) := by decide +kernel
theorem dX6_emptyOut_15 : decode cX6_emptyOut 15 = .ok (.if_icmp .ge 64, 3) := by decide +kernel
theorem dX6_emptyOut_18 : decode cX6_emptyOut 18 = .ok (.aload_n 0, 1) := by decide +kernel
theorem dX6_emptyOut_19 : decode cX6_emptyOut 19 = .ok (.getfield 18, 3) := by decide +kernel
theorem dX6_emptyOut_22 : decode cX6_emptyOut 22 = .ok (.iload_n 3, 1) := by decide +kernel
theorem dX6_emptyOut_23 : decode cX6_emptyOut 23 = .ok (.iaload, 1) := by decide +kernel
theorem dX6_emptyOut_24 : decode cX6_emptyOut 24 = .ok (.istore 4, 2) := by decide +kernel
theorem dX6_emptyOut_26 : decode cX6_emptyOut 26 = .ok (.aload_n 0, 1) := by decide +kernel
theorem dX6_emptyOut_27 : decode cX6_emptyOut 27 = .ok (.getfield 9, 3) := by decide +kernel
theorem dX6_emptyOut_30 : decode cX6_emptyOut 30 = .ok (.iload 4, 2) := by decide +kernel
theorem dX6_emptyOut_32 : decode cX6_emptyOut 32 = .ok (.iaload, 1) := by decide +kernel
theorem dX6_emptyOut_33 : decode cX6_emptyOut 33 = .ok (.iload_n 1, 1) := by decide +kernel
theorem dX6_emptyOut_34 : decode cX6_emptyOut 34 = .ok (.if_icmp .ne 39, 3) := by decide +kernel
theorem dX6_emptyOut_37 : decode cX6_emptyOut 37 = .ok (.aload_n 0, 1) := by decide +kernel
theorem dX6_emptyOut_38 : decode cX6_emptyOut 38 = .ok (.iload_n 1, 1) := by decide +kernel
theorem dX6_emptyOut_39 : decode cX6_emptyOut 39 = .ok (.invokevirtual 39, 3) := by decide +kernel
theorem dX6_emptyOut_42 : decode cX6_emptyOut 42 = .ok (.istore 5, 2) := by decide +kernel
theorem dX6_emptyOut_44 : decode cX6_emptyOut 44 = .ok (.aload_n 0, 1) := by decide +kernel
theorem dX6_emptyOut_45 : decode cX6_emptyOut 45 = .ok (.getfield 9, 3) := by decide +kernel
theorem dX6_emptyOut_48 : decode cX6_emptyOut 48 = .ok (.iload 4, 2) := by decide +kernel
theorem dX6_emptyOut_50 : decode cX6_emptyOut 50 = .ok (.iload 5, 2) := by decide +kernel
theorem dX6_emptyOut_52 : decode cX6_emptyOut 52 = .ok (.iastore, 1) := by decide +kernel
theorem dX6_emptyOut_53 : decode cX6_emptyOut 53 = .ok (.aload_n 0, 1) := by decide +kernel
theorem dX6_emptyOut_54 : decode cX6_emptyOut 54 = .ok (.getfield 21, 3) := by decide +kernel
theorem dX6_emptyOut_57 : decode cX6_emptyOut 57 = .ok (.iload 5, 2) := by decide +kernel
theorem dX6_emptyOut_59 : decode cX6_emptyOut 59 = .ok (.dup2, 1) := by decide +kernel
theorem dX6_emptyOut_60 : decode cX6_emptyOut 60 = .ok (.iaload, 1) := by decide +kernel
theorem dX6_emptyOut_61 : decode cX6_emptyOut 61 = .ok (.aload_n 0, 1) := by decide +kernel
theorem dX6_emptyOut_62 : decode cX6_emptyOut 62 = .ok (.getfield 15, 3) := by decide +kernel
theorem dX6_emptyOut_65 : decode cX6_emptyOut 65 = .ok (.iload 4, 2) := by decide +kernel
theorem dX6_emptyOut_67 : decode cX6_emptyOut 67 = .ok (.iaload, 1) := by decide +kernel
theorem dX6_emptyOut_68 : decode cX6_emptyOut 68 = .ok (.iadd, 1) := by decide +kernel
theorem dX6_emptyOut_69 : decode cX6_emptyOut 69 = .ok (.iastore, 1) := by decide +kernel
theorem dX6_emptyOut_70 : decode cX6_emptyOut 70 = .ok (.iinc 2 1, 3) := by decide +kernel
theorem dX6_emptyOut_73 : decode cX6_emptyOut 73 = .ok (.iinc 3 1, 3) := by decide +kernel
theorem dX6_emptyOut_76 : decode cX6_emptyOut 76 = .ok (.goto (-64), 3) := by decide +kernel
theorem dX6_emptyOut_79 : decode cX6_emptyOut 79 = .ok (.iload_n 2, 1) := by decide +kernel
theorem dX6_emptyOut_80 : decode cX6_emptyOut 80 = .ok (.ireturn, 1) := by decide +kernel
theorem dX6_orderByHits_0 : decode cX6_orderByHits 0 = .ok (.iconst 0, 1) := by decide +kernel
theorem dX6_orderByHits_1 : decode cX6_orderByHits 1 = .ok (.istore_n 1, 1) := by decide +kernel
theorem dX6_orderByHits_2 : decode cX6_orderByHits 2 = .ok (.iload_n 1, 1) := by decide +kernel
theorem dX6_orderByHits_3 : decode cX6_orderByHits 3 = .ok (.bipush 16, 2) := by decide +kernel
theorem dX6_orderByHits_5 : decode cX6_orderByHits 5 = .ok (.if_icmp .ge 64, 3) := by decide +kernel
theorem dX6_orderByHits_8 : decode cX6_orderByHits 8 = .ok (.iload_n 1, 1) := by decide +kernel
theorem dX6_orderByHits_9 : decode cX6_orderByHits 9 = .ok (.istore_n 2, 1) := by decide +kernel
theorem dX6_orderByHits_10 : decode cX6_orderByHits 10 = .ok (.iload_n 2, 1) := by decide +kernel
theorem dX6_orderByHits_11 : decode cX6_orderByHits 11 = .ok (.ifCond .le 45, 3) := by decide +kernel
theorem dX6_orderByHits_14 : decode cX6_orderByHits 14 = .ok (.aload_n 0, 1) := by decide +kernel
theorem dX6_orderByHits_15 : decode cX6_orderByHits 15 = .ok (.getfield 15, 3) := by decide +kernel
theorem dX6_orderByHits_18 : decode cX6_orderByHits 18 = .ok (.aload_n 0, 1) := by decide +kernel
theorem dX6_orderByHits_19 : decode cX6_orderByHits 19 = .ok (.getfield 18, 3) := by decide +kernel
theorem dX6_orderByHits_22 : decode cX6_orderByHits 22 = .ok (.iload_n 2, 1) := by decide +kernel
theorem dX6_orderByHits_23 : decode cX6_orderByHits 23 = .ok (.iconst 1, 1) := by decide +kernel
theorem dX6_orderByHits_24 : decode cX6_orderByHits 24 = .ok (.isub, 1) := by decide +kernel
theorem dX6_orderByHits_25 : decode cX6_orderByHits 25 = .ok (.iaload, 1) := by decide +kernel
theorem dX6_orderByHits_26 : decode cX6_orderByHits 26 = .ok (.iaload, 1) := by decide +kernel
theorem dX6_orderByHits_27 : decode cX6_orderByHits 27 = .ok (.aload_n 0, 1) := by decide +kernel
theorem dX6_orderByHits_28 : decode cX6_orderByHits 28 = .ok (.getfield 15, 3) := by decide +kernel
theorem dX6_orderByHits_31 : decode cX6_orderByHits 31 = .ok (.iload_n 1, 1) := by decide +kernel
theorem dX6_orderByHits_32 : decode cX6_orderByHits 32 = .ok (.iaload, 1) := by decide +kernel
theorem dX6_orderByHits_33 : decode cX6_orderByHits 33 = .ok (.if_icmp .ge 23, 3) := by decide +kernel
theorem dX6_orderByHits_36 : decode cX6_orderByHits 36 = .ok (.aload_n 0, 1) := by decide +kernel
theorem dX6_orderByHits_37 : decode cX6_orderByHits 37 = .ok (.getfield 18, 3) := by decide +kernel
theorem dX6_orderByHits_40 : decode cX6_orderByHits 40 = .ok (.iload_n 2, 1) := by decide +kernel
theorem dX6_orderByHits_41 : decode cX6_orderByHits 41 = .ok (.aload_n 0, 1) := by decide +kernel
theorem dX6_orderByHits_42 : decode cX6_orderByHits 42 = .ok (.getfield 18, 3) := by decide +kernel
theorem dX6_orderByHits_45 : decode cX6_orderByHits 45 = .ok (.iload_n 2, 1) := by decide +kernel
theorem dX6_orderByHits_46 : decode cX6_orderByHits 46 = .ok (.iconst 1, 1) := by decide +kernel
theorem dX6_orderByHits_47 : decode cX6_orderByHits 47 = .ok (.isub, 1) := by decide +kernel
theorem dX6_orderByHits_48 : decode cX6_orderByHits 48 = .ok (.iaload, 1) := by decide +kernel
theorem dX6_orderByHits_49 : decode cX6_orderByHits 49 = .ok (.iastore, 1) := by decide +kernel
theorem dX6_orderByHits_50 : decode cX6_orderByHits 50 = .ok (.iinc 2 (-1), 3) := by decide +kernel
theorem dX6_orderByHits_53 : decode cX6_orderByHits 53 = .ok (.goto (-43), 3) := by decide +kernel
theorem dX6_orderByHits_56 : decode cX6_orderByHits 56 = .ok (.aload_n 0, 1) := by decide +kernel
theorem dX6_orderByHits_57 : decode cX6_orderByHits 57 = .ok (.getfield 18, 3) := by decide +kernel
theorem dX6_orderByHits_60 : decode cX6_orderByHits 60 = .ok (.iload_n 2, 1) := by decide +kernel
theorem dX6_orderByHits_61 : decode cX6_orderByHits 61 = .ok (.iload_n 1, 1) := by decide +kernel
theorem dX6_orderByHits_62 : decode cX6_orderByHits 62 = .ok (.iastore, 1) := by decide +kernel
theorem dX6_orderByHits_63 : decode cX6_orderByHits 63 = .ok (.iinc 1 1, 3) := by decide +kernel
theorem dX6_orderByHits_66 : decode cX6_orderByHits 66 = .ok (.goto (-64), 3) := by decide +kernel
theorem dX6_orderByHits_69 : decode cX6_orderByHits 69 = .ok (.return_, 1) := by decide +kernel
theorem dX6_clearSums_0 : decode cX6_clearSums 0 = .ok (.iconst 0, 1) := by decide +kernel
theorem dX6_clearSums_1 : decode cX6_clearSums 1 = .ok (.istore_n 1, 1) := by decide +kernel
theorem dX6_clearSums_2 : decode cX6_clearSums 2 = .ok (.iload_n 1, 1) := by decide +kernel
theorem dX6_clearSums_3 : decode cX6_clearSums 3 = .ok (.iconst 4, 1) := by decide +kernel
theorem dX6_clearSums_4 : decode cX6_clearSums 4 = .ok (.if_icmp .ge 16, 3) := by decide +kernel
theorem dX6_clearSums_7 : decode cX6_clearSums 7 = .ok (.aload_n 0, 1) := by decide +kernel
theorem dX6_clearSums_8 : decode cX6_clearSums 8 = .ok (.getfield 21, 3) := by decide +kernel
theorem dX6_clearSums_11 : decode cX6_clearSums 11 = .ok (.iload_n 1, 1) := by decide +kernel
theorem dX6_clearSums_12 : decode cX6_clearSums 12 = .ok (.iconst 0, 1) := by decide +kernel
theorem dX6_clearSums_13 : decode cX6_clearSums 13 = .ok (.iastore, 1) := by decide +kernel
theorem dX6_clearSums_14 : decode cX6_clearSums 14 = .ok (.iinc 1 1, 3) := by decide +kernel
theorem dX6_clearSums_17 : decode cX6_clearSums 17 = .ok (.goto (-15), 3) := by decide +kernel
theorem dX6_clearSums_20 : decode cX6_clearSums 20 = .ok (.return_, 1) := by decide +kernel
theorem dX6_sumHits_0 : decode cX6_sumHits 0 = .ok (.aload_n 0, 1) := by decide +kernel
theorem dX6_sumHits_1 : decode cX6_sumHits 1 = .ok (.invokevirtual 46, 3) := by decide +kernel
theorem dX6_sumHits_4 : decode cX6_sumHits 4 = .ok (.iconst 0, 1) := by decide +kernel
theorem dX6_sumHits_5 : decode cX6_sumHits 5 = .ok (.istore_n 1, 1) := by decide +kernel
theorem dX6_sumHits_6 : decode cX6_sumHits 6 = .ok (.iload_n 1, 1) := by decide +kernel
theorem dX6_sumHits_7 : decode cX6_sumHits 7 = .ok (.bipush 16, 2) := by decide +kernel
theorem dX6_sumHits_9 : decode cX6_sumHits 9 = .ok (.if_icmp .ge 29, 3) := by decide +kernel
theorem dX6_sumHits_12 : decode cX6_sumHits 12 = .ok (.aload_n 0, 1) := by decide +kernel
theorem dX6_sumHits_13 : decode cX6_sumHits 13 = .ok (.getfield 21, 3) := by decide +kernel
theorem dX6_sumHits_16 : decode cX6_sumHits 16 = .ok (.aload_n 0, 1) := by decide +kernel
theorem dX6_sumHits_17 : decode cX6_sumHits 17 = .ok (.getfield 9, 3) := by decide +kernel
theorem dX6_sumHits_20 : decode cX6_sumHits 20 = .ok (.iload_n 1, 1) := by decide +kernel
theorem dX6_sumHits_21 : decode cX6_sumHits 21 = .ok (.iaload, 1) := by decide +kernel
theorem dX6_sumHits_22 : decode cX6_sumHits 22 = .ok (.dup2, 1) := by decide +kernel
theorem dX6_sumHits_23 : decode cX6_sumHits 23 = .ok (.iaload, 1) := by decide +kernel
theorem dX6_sumHits_24 : decode cX6_sumHits 24 = .ok (.aload_n 0, 1) := by decide +kernel
theorem dX6_sumHits_25 : decode cX6_sumHits 25 = .ok (.getfield 15, 3) := by decide +kernel
theorem dX6_sumHits_28 : decode cX6_sumHits 28 = .ok (.iload_n 1, 1) := by decide +kernel
theorem dX6_sumHits_29 : decode cX6_sumHits 29 = .ok (.iaload, 1) := by decide +kernel
theorem dX6_sumHits_30 : decode cX6_sumHits 30 = .ok (.iadd, 1) := by decide +kernel
theorem dX6_sumHits_31 : decode cX6_sumHits 31 = .ok (.iastore, 1) := by decide +kernel
theorem dX6_sumHits_32 : decode cX6_sumHits 32 = .ok (.iinc 1 1, 3) := by decide +kernel
theorem dX6_sumHits_35 : decode cX6_sumHits 35 = .ok (.goto (-29), 3) := by decide +kernel
theorem dX6_sumHits_38 : decode cX6_sumHits 38 = .ok (.return_, 1) := by decide +kernel
theorem dX6_leastQueue_0 : decode cX6_leastQueue 0 = .ok (.iload_n 1, 1) := by decide +kernel
theorem dX6_leastQueue_1 : decode cX6_leastQueue 1 = .ok (.ifCond .ne 7, 3) := by decide +kernel
theorem dX6_leastQueue_4 : decode cX6_leastQueue 4 = .ok (.iconst 1, 1) := by decide +kernel
theorem dX6_leastQueue_5 : decode cX6_leastQueue 5 = .ok (.goto 4, 3) := by decide +kernel
theorem dX6_leastQueue_8 : decode cX6_leastQueue 8 = .ok (.iconst 0, 1) := by decide +kernel
theorem dX6_leastQueue_9 : decode cX6_leastQueue 9 = .ok (.istore_n 2, 1) := by decide +kernel
theorem dX6_leastQueue_10 : decode cX6_leastQueue 10 = .ok (.iload_n 2, 1) := by decide +kernel
theorem dX6_leastQueue_11 : decode cX6_leastQueue 11 = .ok (.iconst 1, 1) := by decide +kernel
theorem dX6_leastQueue_12 : decode cX6_leastQueue 12 = .ok (.iadd, 1) := by decide +kernel
theorem dX6_leastQueue_13 : decode cX6_leastQueue 13 = .ok (.istore_n 3, 1) := by decide +kernel
theorem dX6_leastQueue_14 : decode cX6_leastQueue 14 = .ok (.iload_n 3, 1) := by decide +kernel
theorem dX6_leastQueue_15 : decode cX6_leastQueue 15 = .ok (.iconst 4, 1) := by decide +kernel
theorem dX6_leastQueue_16 : decode cX6_leastQueue 16 = .ok (.if_icmp .ge 31, 3) := by decide +kernel
theorem dX6_leastQueue_19 : decode cX6_leastQueue 19 = .ok (.iload_n 3, 1) := by decide +kernel
theorem dX6_leastQueue_20 : decode cX6_leastQueue 20 = .ok (.iload_n 1, 1) := by decide +kernel
theorem dX6_leastQueue_21 : decode cX6_leastQueue 21 = .ok (.if_icmp .eq 20, 3) := by decide +kernel
theorem dX6_leastQueue_24 : decode cX6_leastQueue 24 = .ok (.aload_n 0, 1) := by decide +kernel
theorem dX6_leastQueue_25 : decode cX6_leastQueue 25 = .ok (.getfield 21, 3) := by decide +kernel
theorem dX6_leastQueue_28 : decode cX6_leastQueue 28 = .ok (.iload_n 3, 1) := by decide +kernel
theorem dX6_leastQueue_29 : decode cX6_leastQueue 29 = .ok (.iaload, 1) := by decide +kernel
theorem dX6_leastQueue_30 : decode cX6_leastQueue 30 = .ok (.aload_n 0, 1) := by decide +kernel
theorem dX6_leastQueue_31 : decode cX6_leastQueue 31 = .ok (.getfield 21, 3) := by decide +kernel
theorem dX6_leastQueue_34 : decode cX6_leastQueue 34 = .ok (.iload_n 2, 1) := by decide +kernel
theorem dX6_leastQueue_35 : decode cX6_leastQueue 35 = .ok (.iaload, 1) := by decide +kernel
theorem dX6_leastQueue_36 : decode cX6_leastQueue 36 = .ok (.if_icmp .ge 5, 3) := by decide +kernel
theorem dX6_leastQueue_39 : decode cX6_leastQueue 39 = .ok (.iload_n 3, 1) := by decide +kernel
theorem dX6_leastQueue_40 : decode cX6_leastQueue 40 = .ok (.istore_n 2, 1) := by decide +kernel
theorem dX6_leastQueue_41 : decode cX6_leastQueue 41 = .ok (.iinc 3 1, 3) := by decide +kernel
theorem dX6_leastQueue_44 : decode cX6_leastQueue 44 = .ok (.goto (-30), 3) := by decide +kernel
theorem dX6_leastQueue_47 : decode cX6_leastQueue 47 = .ok (.iload_n 2, 1) := by decide +kernel
theorem dX6_leastQueue_48 : decode cX6_leastQueue 48 = .ok (.ireturn, 1) := by decide +kernel
theorem dX7_init_0 : decode cX7_init 0 = .ok (.aload_n 0, 1) := by decide +kernel
theorem dX7_init_1 : decode cX7_init 1 = .ok (.invokespecial 1, 3) := by decide +kernel
theorem dX7_init_4 : decode cX7_init 4 = .ok (.aload_n 0, 1) := by decide +kernel
theorem dX7_init_5 : decode cX7_init 5 = .ok (.new 7, 3) := by decide +kernel
theorem dX7_init_8 : decode cX7_init 8 = .ok (.dup, 1) := by decide +kernel
theorem dX7_init_9 : decode cX7_init 9 = .ok (.invokespecial 9, 3) := by decide +kernel
theorem dX7_init_12 : decode cX7_init 12 = .ok (.putfield 10, 3) := by decide +kernel
theorem dX7_init_15 : decode cX7_init 15 = .ok (.aload_n 0, 1) := by decide +kernel
theorem dX7_init_16 : decode cX7_init 16 = .ok (.new 16, 3) := by decide +kernel
theorem dX7_init_19 : decode cX7_init 19 = .ok (.dup, 1) := by decide +kernel
theorem dX7_init_20 : decode cX7_init 20 = .ok (.invokespecial 18, 3) := by decide +kernel
theorem dX7_init_23 : decode cX7_init 23 = .ok (.putfield 19, 3) := by decide +kernel
theorem dX7_init_26 : decode cX7_init 26 = .ok (.aload_n 0, 1) := by decide +kernel
theorem dX7_init_27 : decode cX7_init 27 = .ok (.iconst 2, 1) := by decide +kernel
theorem dX7_init_28 : decode cX7_init 28 = .ok (.anewarray 7, 3) := by decide +kernel
theorem dX7_init_31 : decode cX7_init 31 = .ok (.putfield 23, 3) := by decide +kernel
theorem dX7_init_34 : decode cX7_init 34 = .ok (.aload_n 0, 1) := by decide +kernel
theorem dX7_init_35 : decode cX7_init 35 = .ok (.bipush 6, 2) := by decide +kernel
theorem dX7_init_37 : decode cX7_init 37 = .ok (.newarray .int, 2) := by decide +kernel
theorem dX7_init_39 : decode cX7_init 39 = .ok (.putfield 27, 3) := by decide +kernel
theorem dX7_init_42 : decode cX7_init 42 = .ok (.aload_n 0, 1) := by decide +kernel
theorem dX7_init_43 : decode cX7_init 43 = .ok (.bipush 24, 2) := by decide +kernel
theorem dX7_init_45 : decode cX7_init 45 = .ok (.newarray .int, 2) := by decide +kernel
theorem dX7_init_47 : decode cX7_init 47 = .ok (.putfield 31, 3) := by decide +kernel
theorem dX7_init_50 : decode cX7_init 50 = .ok (.return_, 1) := by decide +kernel
theorem dX7_key_0 : decode cX7_key 0 = .ok (.iload_n 3, 1) := by decide +kernel
theorem dX7_key_1 : decode cX7_key 1 = .ok (.invokestatic 34, 3) := by decide +kernel
theorem dX7_key_4 : decode cX7_key 4 = .ok (.ifCond .ne 9, 3) := by decide +kernel
theorem dX7_key_7 : decode cX7_key 7 = .ok (.aload_n 0, 1) := by decide +kernel
theorem dX7_key_8 : decode cX7_key 8 = .ok (.iconst (-1), 1) := by decide +kernel
theorem dX7_key_9 : decode cX7_key 9 = .ok (.invokevirtual 38, 3) := by decide +kernel
theorem dX7_key_12 : decode cX7_key 12 = .ok (.ireturn, 1) := by decide +kernel
theorem dX7_key_13 : decode cX7_key 13 = .ok (.aload_n 0, 1) := by decide +kernel
theorem dX7_key_14 : decode cX7_key 14 = .ok (.iconst 0, 1) := by decide +kernel
theorem dX7_key_15 : decode cX7_key 15 = .ok (.invokevirtual 42, 3) := by decide +kernel
theorem dX7_key_18 : decode cX7_key 18 = .ok (.aload_n 0, 1) := by decide +kernel
theorem dX7_key_19 : decode cX7_key 19 = .ok (.getfield 10, 3) := by decide +kernel
theorem dX7_key_22 : decode cX7_key 22 = .ok (.getfield 46, 3) := by decide +kernel
theorem dX7_key_25 : decode cX7_key 25 = .ok (.iload_n 1, 1) := by decide +kernel
theorem dX7_key_26 : decode cX7_key 26 = .ok (.iload_n 2, 1) := by decide +kernel
theorem dX7_key_27 : decode cX7_key 27 = .ok (.iload_n 3, 1) := by decide +kernel
theorem dX7_key_28 : decode cX7_key 28 = .ok (.invokevirtual 50, 3) := by decide +kernel
theorem dX7_key_31 : decode cX7_key 31 = .ok (.iconst 0, 1) := by decide +kernel
theorem dX7_key_32 : decode cX7_key 32 = .ok (.ireturn, 1) := by decide +kernel
theorem dX7_mask_0 : decode cX7_mask 0 = .ok (.iload_n 1, 1) := by decide +kernel
theorem dX7_mask_1 : decode cX7_mask 1 = .ok (.ifCond .lt 9, 3) := by decide +kernel
theorem dX7_mask_4 : decode cX7_mask 4 = .ok (.iload_n 1, 1) := by decide +kernel
theorem dX7_mask_5 : decode cX7_mask 5 = .ok (.bipush 31, 2) := by decide +kernel
theorem dX7_mask_7 : decode cX7_mask 7 = .ok (.if_icmp .le 9, 3) := by decide +kernel
theorem dX7_mask_10 : decode cX7_mask 10 = .ok (.aload_n 0, 1) := by decide +kernel
theorem dX7_mask_11 : decode cX7_mask 11 = .ok (.iconst (-1), 1) := by decide +kernel
theorem dX7_mask_12 : decode cX7_mask 12 = .ok (.invokevirtual 38, 3) := by decide +kernel
theorem dX7_mask_15 : decode cX7_mask 15 = .ok (.ireturn, 1) := by decide +kernel
theorem dX7_mask_16 : decode cX7_mask 16 = .ok (.aload_n 0, 1) := by decide +kernel
theorem dX7_mask_17 : decode cX7_mask 17 = .ok (.iconst 1, 1) := by decide +kernel
theorem dX7_mask_18 : decode cX7_mask 18 = .ok (.invokevirtual 42, 3) := by decide +kernel
theorem dX7_mask_21 : decode cX7_mask 21 = .ok (.aload_n 0, 1) := by decide +kernel
theorem dX7_mask_22 : decode cX7_mask 22 = .ok (.getfield 10, 3) := by decide +kernel
theorem dX7_mask_25 : decode cX7_mask 25 = .ok (.getfield 46, 3) := by decide +kernel
theorem dX7_mask_28 : decode cX7_mask 28 = .ok (.getfield 56, 3) := by decide +kernel
theorem dX7_mask_31 : decode cX7_mask 31 = .ok (.istore_n 2, 1) := by decide +kernel
theorem dX7_mask_32 : decode cX7_mask 32 = .ok (.aload_n 0, 1) := by decide +kernel
theorem dX7_mask_33 : decode cX7_mask 33 = .ok (.getfield 10, 3) := by decide +kernel
theorem dX7_mask_36 : decode cX7_mask 36 = .ok (.getfield 46, 3) := by decide +kernel
theorem dX7_mask_39 : decode cX7_mask 39 = .ok (.iload_n 1, 1) := by decide +kernel
theorem dX7_mask_40 : decode cX7_mask 40 = .ok (.putfield 56, 3) := by decide +kernel
theorem dX7_mask_43 : decode cX7_mask 43 = .ok (.iload_n 2, 1) := by decide +kernel
theorem dX7_mask_44 : decode cX7_mask 44 = .ok (.ireturn, 1) := by decide +kernel
theorem dX7_flow_0 : decode cX7_flow 0 = .ok (.iload_n 1, 1) := by decide +kernel
theorem dX7_flow_1 : decode cX7_flow 1 = .ok (.iload_n 2, 1) := by decide +kernel
theorem dX7_flow_2 : decode cX7_flow 2 = .ok (.iload_n 3, 1) := by decide +kernel
theorem dX7_flow_3 : decode cX7_flow 3 = .ok (.iload 4, 2) := by decide +kernel
theorem dX7_flow_5 : decode cX7_flow 5 = .ok (.iload 5, 2) := by decide +kernel
theorem dX7_flow_7 : decode cX7_flow 7 = .ok (.invokestatic 60, 3) := by decide +kernel
theorem dX7_flow_10 : decode cX7_flow 10 = .ok (.ifCond .ne 9, 3) := by decide +kernel
theorem dX7_flow_13 : decode cX7_flow 13 = .ok (.aload_n 0, 1) := by decide +kernel
theorem dX7_flow_14 : decode cX7_flow 14 = .ok (.iconst (-1), 1) := by decide +kernel
theorem dX7_flow_15 : decode cX7_flow 15 = .ok (.invokevirtual 38, 3) := by decide +kernel
theorem dX7_flow_18 : decode cX7_flow 18 = .ok (.ireturn, 1) := by decide +kernel
theorem dX7_flow_19 : decode cX7_flow 19 = .ok (.aload_n 0, 1) := by decide +kernel
theorem dX7_flow_20 : decode cX7_flow 20 = .ok (.getfield 10, 3) := by decide +kernel
theorem dX7_flow_23 : decode cX7_flow 23 = .ok (.getfield 64, 3) := by decide +kernel
theorem dX7_flow_26 : decode cX7_flow 26 = .ok (.iload_n 1, 1) := by decide +kernel
theorem dX7_flow_27 : decode cX7_flow 27 = .ok (.iload_n 2, 1) := by decide +kernel
theorem dX7_flow_28 : decode cX7_flow 28 = .ok (.iload_n 3, 1) := by decide +kernel
theorem dX7_flow_29 : decode cX7_flow 29 = .ok (.iload 4, 2) := by decide +kernel
theorem dX7_flow_31 : decode cX7_flow 31 = .ok (.iload 5, 2) := by decide +kernel
theorem dX7_flow_33 : decode cX7_flow 33 = .ok (.invokevirtual 68, 3) := by decide +kernel
theorem dX7_flow_36 : decode cX7_flow 36 = .ok (.istore 6, 2) := by decide +kernel
theorem dX7_flow_38 : decode cX7_flow 38 = .ok (.iload 6, 2) := by decide +kernel
theorem dX7_flow_40 : decode cX7_flow 40 = .ok (.iconst (-1), 1) := by decide +kernel
theorem dX7_flow_41 : decode cX7_flow 41 = .ok (.if_icmp .eq 11, 3) := by decide +kernel
theorem dX7_flow_44 : decode cX7_flow 44 = .ok (.aload_n 0, 1) := by decide +kernel
theorem dX7_flow_45 : decode cX7_flow 45 = .ok (.iconst 0, 1) := by decide +kernel
theorem dX7_flow_46 : decode cX7_flow 46 = .ok (.putfield 74, 3) := by decide +kernel
theorem dX7_flow_49 : decode cX7_flow 49 = .ok (.iload 6, 2) := by decide +kernel
theorem dX7_flow_51 : decode cX7_flow 51 = .ok (.ireturn, 1) := by decide +kernel
theorem dX7_flow_52 : decode cX7_flow 52 = .ok (.aload_n 0, 1) := by decide +kernel
theorem dX7_flow_53 : decode cX7_flow 53 = .ok (.getfield 10, 3) := by decide +kernel
theorem dX7_flow_56 : decode cX7_flow 56 = .ok (.getfield 64, 3) := by decide +kernel
theorem dX7_flow_59 : decode cX7_flow 59 = .ok (.getfield 77, 3) := by decide +kernel
theorem dX7_flow_62 : decode cX7_flow 62 = .ok (.bipush 24, 2) := by decide +kernel
theorem dX7_flow_64 : decode cX7_flow 64 = .ok (.if_icmp .lt 10, 3) := by decide +kernel
theorem dX7_flow_67 : decode cX7_flow 67 = .ok (.aload_n 0, 1) := by decide +kernel
theorem dX7_flow_68 : decode cX7_flow 68 = .ok (.bipush (-5), 2) := by decide +kernel
theorem dX7_flow_70 : decode cX7_flow 70 = .ok (.invokevirtual 38, 3) := by decide +kernel
theorem dX7_flow_73 : decode cX7_flow 73 = .ok (.ireturn, 1) := by decide +kernel
theorem dX7_flow_74 : decode cX7_flow 74 = .ok (.aload_n 0, 1) := by decide +kernel
theorem dX7_flow_75 : decode cX7_flow 75 = .ok (.iconst 2, 1) := by decide +kernel
theorem dX7_flow_76 : decode cX7_flow 76 = .ok (.invokevirtual 42, 3) := by decide +kernel
theorem dX7_flow_79 : decode cX7_flow 79 = .ok (.aload_n 0, 1) := by decide +kernel
theorem dX7_flow_80 : decode cX7_flow 80 = .ok (.getfield 10, 3) := by decide +kernel
theorem dX7_flow_83 : decode cX7_flow 83 = .ok (.getfield 64, 3) := by decide +kernel
theorem dX7_flow_86 : decode cX7_flow 86 = .ok (.iload_n 1, 1) := by decide +kernel
theorem dX7_flow_87 : decode cX7_flow 87 = .ok (.iload_n 2, 1) := by decide +kernel
theorem dX7_flow_88 : decode cX7_flow 88 = .ok (.iload_n 3, 1) := by decide +kernel
theorem dX7_flow_89 : decode cX7_flow 89 = .ok (.iload 4, 2) := by decide +kernel
theorem dX7_flow_91 : decode cX7_flow 91 = .ok (.iload 5, 2) := by decide +kernel
theorem dX7_flow_93 : decode cX7_flow 93 = .ok (.invokevirtual 80, 3) := by decide +kernel
theorem dX7_flow_96 : decode cX7_flow 96 = .ok (.ireturn, 1) := by decide +kernel
theorem dX7_table_0 : decode cX7_table 0 = .ok (.iload_n 1, 1) := by decide +kernel
theorem dX7_table_1 : decode cX7_table 1 = .ok (.invokestatic 83, 3) := by decide +kernel
theorem dX7_table_4 : decode cX7_table 4 = .ok (.ifCond .eq 10, 3) := by decide +kernel
theorem dX7_table_7 : decode cX7_table 7 = .ok (.iload_n 2, 1) := by decide +kernel
theorem dX7_table_8 : decode cX7_table 8 = .ok (.invokestatic 86, 3) := by decide +kernel
theorem dX7_table_11 : decode cX7_table 11 = .ok (.ifCond .ne 9, 3) := by decide +kernel
theorem dX7_table_14 : decode cX7_table 14 = .ok (.aload_n 0, 1) := by decide +kernel
theorem dX7_table_15 : decode cX7_table 15 = .ok (.iconst (-1), 1) := by decide +kernel
theorem dX7_table_16 : decode cX7_table 16 = .ok (.invokevirtual 38, 3) := by decide +kernel
theorem dX7_table_19 : decode cX7_table 19 = .ok (.ireturn, 1) := by decide +kernel
theorem dX7_table_20 : decode cX7_table 20 = .ok (.aload_n 0, 1) := by decide +kernel
theorem dX7_table_21 : decode cX7_table 21 = .ok (.iconst 3, 1) := by decide +kernel
theorem dX7_table_22 : decode cX7_table 22 = .ok (.invokevirtual 42, 3) := by decide +kernel
theorem dX7_table_25 : decode cX7_table 25 = .ok (.aload_n 0, 1) := by decide +kernel
theorem dX7_table_26 : decode cX7_table 26 = .ok (.getfield 10, 3) := by decide +kernel
theorem dX7_table_29 : decode cX7_table 29 = .ok (.getfield 89, 3) := by decide +kernel
theorem dX7_table_32 : decode cX7_table 32 = .ok (.getfield 93, 3) := by decide +kernel
theorem dX7_table_35 : decode cX7_table 35 = .ok (.iload_n 1, 1) := by decide +kernel
theorem dX7_table_36 : decode cX7_table 36 = .ok (.iaload, 1) := by decide +kernel
theorem dX7_table_37 : decode cX7_table 37 = .ok (.istore_n 3, 1) := by decide +kernel
theorem dX7_table_38 : decode cX7_table 38 = .ok (.aload_n 0, 1) := by decide +kernel
theorem dX7_table_39 : decode cX7_table 39 = .ok (.getfield 10, 3) := by decide +kernel
theorem dX7_table_42 : decode cX7_table 42 = .ok (.getfield 89, 3) := by decide +kernel
theorem dX7_table_45 : decode cX7_table 45 = .ok (.getfield 93, 3) := by decide +kernel
theorem dX7_table_48 : decode cX7_table 48 = .ok (.iload_n 1, 1) := by decide +kernel
theorem dX7_table_49 : decode cX7_table 49 = .ok (.iload_n 2, 1) := by decide +kernel
theorem dX7_table_50 : decode cX7_table 50 = .ok (.iastore, 1) := by decide +kernel
theorem dX7_table_51 : decode cX7_table 51 = .ok (.iload_n 3, 1) := by decide +kernel
theorem dX7_table_52 : decode cX7_table 52 = .ok (.ireturn, 1) := by decide +kernel
theorem dX7_balance_0 : decode cX7_balance 0 = .ok (.aload_n 0, 1) := by decide +kernel
theorem dX7_balance_1 : decode cX7_balance 1 = .ok (.iconst 4, 1) := by decide +kernel
theorem dX7_balance_2 : decode cX7_balance 2 = .ok (.invokevirtual 42, 3) := by decide +kernel
theorem dX7_balance_5 : decode cX7_balance 5 = .ok (.aload_n 0, 1) := by decide +kernel
theorem dX7_balance_6 : decode cX7_balance 6 = .ok (.getfield 10, 3) := by decide +kernel
theorem dX7_balance_9 : decode cX7_balance 9 = .ok (.getfield 89, 3) := by decide +kernel
theorem dX7_balance_12 : decode cX7_balance 12 = .ok (.invokevirtual 98, 3) := by decide +kernel
theorem dX7_balance_15 : decode cX7_balance 15 = .ok (.istore_n 1, 1) := by decide +kernel
theorem dX7_balance_16 : decode cX7_balance 16 = .ok (.aload_n 0, 1) := by decide +kernel
theorem dX7_balance_17 : decode cX7_balance 17 = .ok (.getfield 10, 3) := by decide +kernel
theorem dX7_balance_20 : decode cX7_balance 20 = .ok (.getfield 89, 3) := by decide +kernel
theorem dX7_balance_23 : decode cX7_balance 23 = .ok (.invokevirtual 102, 3) := by decide +kernel
theorem dX7_balance_26 : decode cX7_balance 26 = .ok (.iload_n 1, 1) := by decide +kernel
theorem dX7_balance_27 : decode cX7_balance 27 = .ok (.ireturn, 1) := by decide +kernel
theorem dX7_reads_0 : decode cX7_reads 0 = .ok (.iload_n 2, 1) := by decide +kernel
theorem dX7_reads_1 : decode cX7_reads 1 = .ok (.iconst (-1), 1) := by decide +kernel
theorem dX7_reads_2 : decode cX7_reads 2 = .ok (.if_icmp .eq 16, 3) := by decide +kernel
theorem dX7_reads_5 : decode cX7_reads 5 = .ok (.iload_n 2, 1) := by decide +kernel
theorem dX7_reads_6 : decode cX7_reads 6 = .ok (.invokestatic 86, 3) := by decide +kernel
theorem dX7_reads_9 : decode cX7_reads 9 = .ok (.ifCond .ne 9, 3) := by decide +kernel
theorem dX7_reads_12 : decode cX7_reads 12 = .ok (.aload_n 0, 1) := by decide +kernel
theorem dX7_reads_13 : decode cX7_reads 13 = .ok (.iconst (-1), 1) := by decide +kernel
theorem dX7_reads_14 : decode cX7_reads 14 = .ok (.invokevirtual 38, 3) := by decide +kernel
theorem dX7_reads_17 : decode cX7_reads 17 = .ok (.ireturn, 1) := by decide +kernel
theorem dX7_reads_18 : decode cX7_reads 18 = .ok (.aload_n 0, 1) := by decide +kernel
theorem dX7_reads_19 : decode cX7_reads 19 = .ok (.iload_n 1, 1) := by decide +kernel
theorem dX7_reads_20 : decode cX7_reads 20 = .ok (.invokevirtual 105, 3) := by decide +kernel
theorem dX7_reads_23 : decode cX7_reads 23 = .ok (.ifCond .ne 10, 3) := by decide +kernel
theorem dX7_reads_26 : decode cX7_reads 26 = .ok (.aload_n 0, 1) := by decide +kernel
theorem dX7_reads_27 : decode cX7_reads 27 = .ok (.bipush (-2), 2) := by decide +kernel
theorem dX7_reads_29 : decode cX7_reads 29 = .ok (.invokevirtual 38, 3) := by decide +kernel
theorem dX7_reads_32 : decode cX7_reads 32 = .ok (.ireturn, 1) := by decide +kernel
theorem dX7_reads_33 : decode cX7_reads 33 = .ok (.aload_n 0, 1) := by decide +kernel
theorem dX7_reads_34 : decode cX7_reads 34 = .ok (.bipush 13, 2) := by decide +kernel
theorem dX7_reads_36 : decode cX7_reads 36 = .ok (.invokevirtual 42, 3) := by decide +kernel
theorem dX7_reads_39 : decode cX7_reads 39 = .ok (.aload_n 0, 1) := by decide +kernel
theorem dX7_reads_40 : decode cX7_reads 40 = .ok (.getfield 10, 3) := by decide +kernel
theorem dX7_reads_43 : decode cX7_reads 43 = .ok (.getfield 64, 3) := by decide +kernel
theorem dX7_reads_46 : decode cX7_reads 46 = .ok (.bipush 17, 2) := by decide +kernel
theorem dX7_reads_48 : decode cX7_reads 48 = .ok (.iload_n 1, 1) := by decide +kernel
theorem dX7_reads_49 : decode cX7_reads 49 = .ok (.invokevirtual 108, 3) := by decide +kernel
theorem dX7_reads_52 : decode cX7_reads 52 = .ok (.istore_n 3, 1) := by decide +kernel
theorem dX7_reads_53 : decode cX7_reads 53 = .ok (.aload_n 0, 1) := by decide +kernel
theorem dX7_reads_54 : decode cX7_reads 54 = .ok (.getfield 10, 3) := by decide +kernel
theorem dX7_reads_57 : decode cX7_reads 57 = .ok (.getfield 64, 3) := by decide +kernel
theorem dX7_reads_60 : decode cX7_reads 60 = .ok (.bipush 17, 2) := by decide +kernel
theorem dX7_reads_62 : decode cX7_reads 62 = .ok (.iload_n 1, 1) := by decide +kernel
theorem dX7_reads_63 : decode cX7_reads 63 = .ok (.iload_n 2, 1) := by decide +kernel
theorem dX7_reads_64 : decode cX7_reads 64 = .ok (.invokevirtual 112, 3) := by decide +kernel
theorem dX7_reads_67 : decode cX7_reads 67 = .ok (.iload_n 3, 1) := by decide +kernel
theorem dX7_reads_68 : decode cX7_reads 68 = .ok (.ireturn, 1) := by decide +kernel
theorem dX7_retire_0 : decode cX7_retire 0 = .ok (.iload_n 1, 1) := by decide +kernel
theorem dX7_retire_1 : decode cX7_retire 1 = .ok (.invokestatic 86, 3) := by decide +kernel
theorem dX7_retire_4 : decode cX7_retire 4 = .ok (.ifCond .ne 9, 3) := by decide +kernel
theorem dX7_retire_7 : decode cX7_retire 7 = .ok (.aload_n 0, 1) := by decide +kernel
theorem dX7_retire_8 : decode cX7_retire 8 = .ok (.iconst (-1), 1) := by decide +kernel
theorem dX7_retire_9 : decode cX7_retire 9 = .ok (.invokevirtual 38, 3) := by decide +kernel
theorem dX7_retire_12 : decode cX7_retire 12 = .ok (.ireturn, 1) := by decide +kernel
theorem dX7_retire_13 : decode cX7_retire 13 = .ok (.aload_n 0, 1) := by decide +kernel
theorem dX7_retire_14 : decode cX7_retire 14 = .ok (.bipush 14, 2) := by decide +kernel
theorem dX7_retire_16 : decode cX7_retire 16 = .ok (.invokevirtual 42, 3) := by decide +kernel
theorem dX7_retire_19 : decode cX7_retire 19 = .ok (.aload_n 0, 1) := by decide +kernel
theorem dX7_retire_20 : decode cX7_retire 20 = .ok (.getfield 10, 3) := by decide +kernel
theorem dX7_retire_23 : decode cX7_retire 23 = .ok (.getfield 64, 3) := by decide +kernel
theorem dX7_retire_26 : decode cX7_retire 26 = .ok (.iload_n 1, 1) := by decide +kernel
theorem dX7_retire_27 : decode cX7_retire 27 = .ok (.invokevirtual 113, 3) := by decide +kernel
theorem dX7_retire_30 : decode cX7_retire 30 = .ok (.aload_n 0, 1) := by decide +kernel
theorem dX7_retire_31 : decode cX7_retire 31 = .ok (.getfield 10, 3) := by decide +kernel
theorem dX7_retire_34 : decode cX7_retire 34 = .ok (.getfield 89, 3) := by decide +kernel
theorem dX7_retire_37 : decode cX7_retire 37 = .ok (.iload_n 1, 1) := by decide +kernel
theorem dX7_retire_38 : decode cX7_retire 38 = .ok (.invokevirtual 116, 3) := by decide +kernel
theorem dX7_retire_41 : decode cX7_retire 41 = .ok (.ireturn, 1) := by decide +kernel
theorem dX7_steer_0 : decode cX7_steer 0 = .ok (.iload_n 2, 1) := by decide +kernel
theorem dX7_steer_1 : decode cX7_steer 1 = .ok (.invokestatic 86, 3) := by decide +kernel
theorem dX7_steer_4 : decode cX7_steer 4 = .ok (.ifCond .ne 9, 3) := by decide +kernel
theorem dX7_steer_7 : decode cX7_steer 7 = .ok (.aload_n 0, 1) := by decide +kernel
theorem dX7_steer_8 : decode cX7_steer 8 = .ok (.iconst (-1), 1) := by decide +kernel
theorem dX7_steer_9 : decode cX7_steer 9 = .ok (.invokevirtual 38, 3) := by decide +kernel
theorem dX7_steer_12 : decode cX7_steer 12 = .ok (.ireturn, 1) := by decide +kernel
theorem dX7_steer_13 : decode cX7_steer 13 = .ok (.aload_n 0, 1) := by decide +kernel
theorem dX7_steer_14 : decode cX7_steer 14 = .ok (.iload_n 1, 1) := by decide +kernel
theorem dX7_steer_15 : decode cX7_steer 15 = .ok (.invokevirtual 105, 3) := by decide +kernel
theorem dX7_steer_18 : decode cX7_steer 18 = .ok (.ifCond .ne 10, 3) := by decide +kernel
theorem dX7_steer_21 : decode cX7_steer 21 = .ok (.aload_n 0, 1) := by decide +kernel
theorem dX7_steer_22 : decode cX7_steer 22 = .ok (.bipush (-2), 2) := by decide +kernel
theorem dX7_steer_24 : decode cX7_steer 24 = .ok (.invokevirtual 38, 3) := by decide +kernel
theorem dX7_steer_27 : decode cX7_steer 27 = .ok (.ireturn, 1) := by decide +kernel
theorem dX7_steer_28 : decode cX7_steer 28 = .ok (.aload_n 0, 1) := by decide +kernel
theorem dX7_steer_29 : decode cX7_steer 29 = .ok (.iconst 5, 1) := by decide +kernel
theorem dX7_steer_30 : decode cX7_steer 30 = .ok (.invokevirtual 42, 3) := by decide +kernel
theorem dX7_steer_33 : decode cX7_steer 33 = .ok (.aload_n 0, 1) := by decide +kernel
theorem dX7_steer_34 : decode cX7_steer 34 = .ok (.getfield 10, 3) := by decide +kernel
theorem dX7_steer_37 : decode cX7_steer 37 = .ok (.getfield 64, 3) := by decide +kernel
theorem dX7_steer_40 : decode cX7_steer 40 = .ok (.iload_n 1, 1) := by decide +kernel
theorem dX7_steer_41 : decode cX7_steer 41 = .ok (.iload_n 2, 1) := by decide +kernel
theorem dX7_steer_42 : decode cX7_steer 42 = .ok (.aload_n 0, 1) := by decide +kernel
theorem dX7_steer_43 : decode cX7_steer 43 = .ok (.getfield 10, 3) := by decide +kernel
theorem dX7_steer_46 : decode cX7_steer 46 = .ok (.getfield 119, 3) := by decide +kernel
theorem dX7_steer_49 : decode cX7_steer 49 = .ok (.invokevirtual 122, 3) := by decide +kernel
theorem dX7_steer_52 : decode cX7_steer 52 = .ok (.ireturn, 1) := by decide +kernel
theorem dX7_free_0 : decode cX7_free 0 = .ok (.aload_n 0, 1) := by decide +kernel
theorem dX7_free_1 : decode cX7_free 1 = .ok (.iload_n 1, 1) := by decide +kernel
theorem dX7_free_2 : decode cX7_free 2 = .ok (.invokevirtual 105, 3) := by decide +kernel
theorem dX7_free_5 : decode cX7_free 5 = .ok (.ifCond .eq 20, 3) := by decide +kernel
theorem dX7_free_8 : decode cX7_free 8 = .ok (.aload_n 0, 1) := by decide +kernel
theorem dX7_free_9 : decode cX7_free 9 = .ok (.getfield 10, 3) := by decide +kernel
theorem dX7_free_12 : decode cX7_free 12 = .ok (.getfield 64, 3) := by decide +kernel
theorem dX7_free_15 : decode cX7_free 15 = .ok (.bipush 13, 2) := by decide +kernel
theorem dX7_free_17 : decode cX7_free 17 = .ok (.iload_n 1, 1) := by decide +kernel
theorem dX7_free_18 : decode cX7_free 18 = .ok (.invokevirtual 108, 3) := by decide +kernel
theorem dX7_free_21 : decode cX7_free 21 = .ok (.iconst (-1), 1) := by decide +kernel
theorem dX7_free_22 : decode cX7_free 22 = .ok (.if_icmp .ne 10, 3) := by decide +kernel
theorem dX7_free_25 : decode cX7_free 25 = .ok (.aload_n 0, 1) := by decide +kernel
theorem dX7_free_26 : decode cX7_free 26 = .ok (.bipush (-2), 2) := by decide +kernel
theorem dX7_free_28 : decode cX7_free 28 = .ok (.invokevirtual 38, 3) := by decide +kernel
theorem dX7_free_31 : decode cX7_free 31 = .ok (.ireturn, 1) := by decide +kernel
theorem dX7_free_32 : decode cX7_free 32 = .ok (.aload_n 0, 1) := by decide +kernel
theorem dX7_free_33 : decode cX7_free 33 = .ok (.bipush 6, 2) := by decide +kernel
theorem dX7_free_35 : decode cX7_free 35 = .ok (.invokevirtual 42, 3) := by decide +kernel
theorem dX7_free_38 : decode cX7_free 38 = .ok (.aload_n 0, 1) := by decide +kernel
theorem dX7_free_39 : decode cX7_free 39 = .ok (.getfield 10, 3) := by decide +kernel
theorem dX7_free_42 : decode cX7_free 42 = .ok (.getfield 64, 3) := by decide +kernel
theorem dX7_free_45 : decode cX7_free 45 = .ok (.bipush 13, 2) := by decide +kernel
theorem dX7_free_47 : decode cX7_free 47 = .ok (.iload_n 1, 1) := by decide +kernel
theorem dX7_free_48 : decode cX7_free 48 = .ok (.invokevirtual 108, 3) := by decide +kernel
theorem dX7_free_51 : decode cX7_free 51 = .ok (.istore_n 2, 1) := by decide +kernel
theorem dX7_free_52 : decode cX7_free 52 = .ok (.aload_n 0, 1) := by decide +kernel
theorem dX7_free_53 : decode cX7_free 53 = .ok (.getfield 10, 3) := by decide +kernel
theorem dX7_free_56 : decode cX7_free 56 = .ok (.getfield 64, 3) := by decide +kernel
theorem dX7_free_59 : decode cX7_free 59 = .ok (.iload_n 1, 1) := by decide +kernel
theorem dX7_free_60 : decode cX7_free 60 = .ok (.invokevirtual 126, 3) := by decide +kernel
theorem dX7_free_63 : decode cX7_free 63 = .ok (.iload_n 2, 1) := by decide +kernel
theorem dX7_free_64 : decode cX7_free 64 = .ok (.ireturn, 1) := by decide +kernel
theorem dX7_terms_0 : decode cX7_terms 0 = .ok (.iload_n 1, 1) := by decide +kernel
theorem dX7_terms_1 : decode cX7_terms 1 = .ok (.ifCond .lt 27, 3) := by decide +kernel
theorem dX7_terms_4 : decode cX7_terms 4 = .ok (.iload_n 1, 1) := by decide +kernel
theorem dX7_terms_5 : decode cX7_terms 5 = .ok (.bipush 9, 2) := by decide +kernel
theorem dX7_terms_7 : decode cX7_terms 7 = .ok (.if_icmp .ge 21, 3) := by decide +kernel
theorem dX7_terms_10 : decode cX7_terms 10 = .ok (.iload_n 2, 1) := by decide +kernel
theorem dX7_terms_11 : decode cX7_terms 11 = .ok (.getstatic 129, 3) := by decide +kernel
theorem dX7_terms_14 : decode cX7_terms 14 = .ok (.iload_n 1, 1) := by decide +kernel
theorem dX7_terms_15 : decode cX7_terms 15 = .ok (.iaload, 1) := by decide +kernel
theorem dX7_terms_16 : decode cX7_terms 16 = .ok (.if_icmp .lt 12, 3) := by decide +kernel
theorem dX7_terms_19 : decode cX7_terms 19 = .ok (.iload_n 2, 1) := by decide +kernel
theorem dX7_terms_20 : decode cX7_terms 20 = .ok (.getstatic 132, 3) := by decide +kernel
theorem dX7_terms_23 : decode cX7_terms 23 = .ok (.iload_n 1, 1) := by decide +kernel
theorem dX7_terms_24 : decode cX7_terms 24 = .ok (.iaload, 1) := by decide +kernel
theorem dX7_terms_25 : decode cX7_terms 25 = .ok (.if_icmp .le 9, 3) := by decide +kernel
theorem dX7_terms_28 : decode cX7_terms 28 = .ok (.aload_n 0, 1) := by decide +kernel
theorem dX7_terms_29 : decode cX7_terms 29 = .ok (.iconst (-1), 1) := by decide +kernel
theorem dX7_terms_30 : decode cX7_terms 30 = .ok (.invokevirtual 38, 3) := by decide +kernel
theorem dX7_terms_33 : decode cX7_terms 33 = .ok (.ireturn, 1) := by decide +kernel
theorem dX7_terms_34 : decode cX7_terms 34 = .ok (.aload_n 0, 1) := by decide +kernel
theorem dX7_terms_35 : decode cX7_terms 35 = .ok (.bipush 7, 2) := by decide +kernel
theorem dX7_terms_37 : decode cX7_terms 37 = .ok (.invokevirtual 42, 3) := by decide +kernel
theorem dX7_terms_40 : decode cX7_terms 40 = .ok (.aload_n 0, 1) := by decide +kernel
theorem dX7_terms_41 : decode cX7_terms 41 = .ok (.getfield 10, 3) := by decide +kernel
theorem dX7_terms_44 : decode cX7_terms 44 = .ok (.getfield 135, 3) := by decide +kernel
theorem dX7_terms_47 : decode cX7_terms 47 = .ok (.iload_n 1, 1) := by decide +kernel
theorem dX7_terms_48 : decode cX7_terms 48 = .ok (.iaload, 1) := by decide +kernel
theorem dX7_terms_49 : decode cX7_terms 49 = .ok (.istore_n 3, 1) := by decide +kernel
theorem dX7_terms_50 : decode cX7_terms 50 = .ok (.aload_n 0, 1) := by decide +kernel
theorem dX7_terms_51 : decode cX7_terms 51 = .ok (.getfield 10, 3) := by decide +kernel
theorem dX7_terms_54 : decode cX7_terms 54 = .ok (.getfield 135, 3) := by decide +kernel
theorem dX7_terms_57 : decode cX7_terms 57 = .ok (.iload_n 1, 1) := by decide +kernel
theorem dX7_terms_58 : decode cX7_terms 58 = .ok (.iload_n 2, 1) := by decide +kernel
theorem dX7_terms_59 : decode cX7_terms 59 = .ok (.iastore, 1) := by decide +kernel
theorem dX7_terms_60 : decode cX7_terms 60 = .ok (.iload_n 3, 1) := by decide +kernel
theorem dX7_terms_61 : decode cX7_terms 61 = .ok (.ireturn, 1) := by decide +kernel
theorem dX7_packet_0 : decode cX7_packet 0 = .ok (.iload_n 2, 1) := by decide +kernel
theorem dX7_packet_1 : decode cX7_packet 1 = .ok (.invokestatic 138, 3) := by decide +kernel
theorem dX7_packet_4 : decode cX7_packet 4 = .ok (.ifCond .ne 9, 3) := by decide +kernel
theorem dX7_packet_7 : decode cX7_packet 7 = .ok (.aload_n 0, 1) := by decide +kernel
theorem dX7_packet_8 : decode cX7_packet 8 = .ok (.iconst (-1), 1) := by decide +kernel
theorem dX7_packet_9 : decode cX7_packet 9 = .ok (.invokevirtual 38, 3) := by decide +kernel
theorem dX7_packet_12 : decode cX7_packet 12 = .ok (.ireturn, 1) := by decide +kernel
theorem dX7_packet_13 : decode cX7_packet 13 = .ok (.aload_n 0, 1) := by decide +kernel
theorem dX7_packet_14 : decode cX7_packet 14 = .ok (.iload_n 1, 1) := by decide +kernel
theorem dX7_packet_15 : decode cX7_packet 15 = .ok (.invokevirtual 105, 3) := by decide +kernel
theorem dX7_packet_18 : decode cX7_packet 18 = .ok (.ifCond .ne 10, 3) := by decide +kernel
theorem dX7_packet_21 : decode cX7_packet 21 = .ok (.aload_n 0, 1) := by decide +kernel
theorem dX7_packet_22 : decode cX7_packet 22 = .ok (.bipush (-2), 2) := by decide +kernel
theorem dX7_packet_24 : decode cX7_packet 24 = .ok (.invokevirtual 38, 3) := by decide +kernel
theorem dX7_packet_27 : decode cX7_packet 27 = .ok (.ireturn, 1) := by decide +kernel
theorem dX7_packet_28 : decode cX7_packet 28 = .ok (.aload_n 0, 1) := by decide +kernel
theorem dX7_packet_29 : decode cX7_packet 29 = .ok (.getfield 10, 3) := by decide +kernel
theorem dX7_packet_32 : decode cX7_packet 32 = .ok (.getfield 64, 3) := by decide +kernel
theorem dX7_packet_35 : decode cX7_packet 35 = .ok (.bipush 9, 2) := by decide +kernel
theorem dX7_packet_37 : decode cX7_packet 37 = .ok (.iload_n 1, 1) := by decide +kernel
theorem dX7_packet_38 : decode cX7_packet 38 = .ok (.invokevirtual 108, 3) := by decide +kernel
theorem dX7_packet_41 : decode cX7_packet 41 = .ok (.iload_n 2, 1) := by decide +kernel
theorem dX7_packet_42 : decode cX7_packet 42 = .ok (.iadd, 1) := by decide +kernel
theorem dX7_packet_43 : decode cX7_packet 43 = .ok (.ldc 141, 2) := by decide +kernel
theorem dX7_packet_45 : decode cX7_packet 45 = .ok (.if_icmp .le 10, 3) := by decide +kernel
theorem dX7_packet_48 : decode cX7_packet 48 = .ok (.aload_n 0, 1) := by decide +kernel
theorem dX7_packet_49 : decode cX7_packet 49 = .ok (.bipush (-4), 2) := by decide +kernel
theorem dX7_packet_51 : decode cX7_packet 51 = .ok (.invokevirtual 38, 3) := by decide +kernel
theorem dX7_packet_54 : decode cX7_packet 54 = .ok (.ireturn, 1) := by decide +kernel
theorem dX7_packet_55 : decode cX7_packet 55 = .ok (.aload_n 0, 1) := by decide +kernel
theorem dX7_packet_56 : decode cX7_packet 56 = .ok (.bipush 8, 2) := by decide +kernel
theorem dX7_packet_58 : decode cX7_packet 58 = .ok (.invokevirtual 42, 3) := by decide +kernel
theorem dX7_packet_61 : decode cX7_packet 61 = .ok (.aload_n 0, 1) := by decide +kernel
theorem dX7_packet_62 : decode cX7_packet 62 = .ok (.getfield 10, 3) := by decide +kernel
theorem dX7_packet_65 : decode cX7_packet 65 = .ok (.iload_n 1, 1) := by decide +kernel
theorem dX7_packet_66 : decode cX7_packet 66 = .ok (.iload_n 2, 1) := by decide +kernel
theorem dX7_packet_67 : decode cX7_packet 67 = .ok (.iload_n 3, 1) := by decide +kernel
theorem dX7_packet_68 : decode cX7_packet 68 = .ok (.invokevirtual 142, 3) := by decide +kernel
theorem dX7_packet_71 : decode cX7_packet 71 = .ok (.ireturn, 1) := by decide +kernel
theorem dX7_burst_0 : decode cX7_burst 0 = .ok (.iload_n 2, 1) := by decide +kernel
theorem dX7_burst_1 : decode cX7_burst 1 = .ok (.iconst 1, 1) := by decide +kernel
theorem dX7_burst_2 : decode cX7_burst 2 = .ok (.if_icmp .lt 16, 3) := by decide +kernel
theorem dX7_burst_5 : decode cX7_burst 5 = .ok (.iload_n 2, 1) := by decide +kernel
theorem dX7_burst_6 : decode cX7_burst 6 = .ok (.bipush 20, 2) := by decide +kernel
theorem dX7_burst_8 : decode cX7_burst 8 = .ok (.if_icmp .gt 10, 3) := by decide +kernel
theorem dX7_burst_11 : decode cX7_burst 11 = .ok (.iload_n 3, 1) := by decide +kernel
theorem dX7_burst_12 : decode cX7_burst 12 = .ok (.invokestatic 138, 3) := by decide +kernel
theorem dX7_burst_15 : decode cX7_burst 15 = .ok (.ifCond .ne 9, 3) := by decide +kernel
theorem dX7_burst_18 : decode cX7_burst 18 = .ok (.aload_n 0, 1) := by decide +kernel
theorem dX7_burst_19 : decode cX7_burst 19 = .ok (.iconst (-1), 1) := by decide +kernel
theorem dX7_burst_20 : decode cX7_burst 20 = .ok (.invokevirtual 38, 3) := by decide +kernel
theorem dX7_burst_23 : decode cX7_burst 23 = .ok (.ireturn, 1) := by decide +kernel
theorem dX7_burst_24 : decode cX7_burst 24 = .ok (.aload_n 0, 1) := by decide +kernel
theorem dX7_burst_25 : decode cX7_burst 25 = .ok (.iload_n 1, 1) := by decide +kernel
theorem dX7_burst_26 : decode cX7_burst 26 = .ok (.invokevirtual 105, 3) := by decide +kernel
theorem dX7_burst_29 : decode cX7_burst 29 = .ok (.ifCond .ne 10, 3) := by decide +kernel
theorem dX7_burst_32 : decode cX7_burst 32 = .ok (.aload_n 0, 1) := by decide +kernel
theorem dX7_burst_33 : decode cX7_burst 33 = .ok (.bipush (-2), 2) := by decide +kernel
theorem dX7_burst_35 : decode cX7_burst 35 = .ok (.invokevirtual 38, 3) := by decide +kernel
theorem dX7_burst_38 : decode cX7_burst 38 = .ok (.ireturn, 1) := by decide +kernel
theorem dX7_burst_39 : decode cX7_burst 39 = .ok (.aload_n 0, 1) := by decide +kernel
theorem dX7_burst_40 : decode cX7_burst 40 = .ok (.iload_n 1, 1) := by decide +kernel
theorem dX7_burst_41 : decode cX7_burst 41 = .ok (.iload_n 2, 1) := by decide +kernel
theorem dX7_burst_42 : decode cX7_burst 42 = .ok (.iload_n 3, 1) := by decide +kernel
theorem dX7_burst_43 : decode cX7_burst 43 = .ok (.invokevirtual 146, 3) := by decide +kernel
theorem dX7_burst_46 : decode cX7_burst 46 = .ok (.ifCond .ne 10, 3) := by decide +kernel
theorem dX7_burst_49 : decode cX7_burst 49 = .ok (.aload_n 0, 1) := by decide +kernel
theorem dX7_burst_50 : decode cX7_burst 50 = .ok (.bipush (-4), 2) := by decide +kernel
theorem dX7_burst_52 : decode cX7_burst 52 = .ok (.invokevirtual 38, 3) := by decide +kernel
theorem dX7_burst_55 : decode cX7_burst 55 = .ok (.ireturn, 1) := by decide +kernel
theorem dX7_burst_56 : decode cX7_burst 56 = .ok (.aload_n 0, 1) := by decide +kernel
theorem dX7_burst_57 : decode cX7_burst 57 = .ok (.bipush 9, 2) := by decide +kernel
theorem dX7_burst_59 : decode cX7_burst 59 = .ok (.invokevirtual 42, 3) := by decide +kernel
theorem dX7_burst_62 : decode cX7_burst 62 = .ok (.iconst 0, 1) := by decide +kernel
theorem dX7_burst_63 : decode cX7_burst 63 = .ok (.istore 4, 2) := by decide +kernel
theorem dX7_burst_65 : decode cX7_burst 65 = .ok (.iload_n 1, 1) := by decide +kernel
theorem dX7_burst_66 : decode cX7_burst 66 = .ok (.istore 5, 2) := by decide +kernel
theorem dX7_burst_68 : decode cX7_burst 68 = .ok (.iconst 0, 1) := by decide +kernel
theorem dX7_burst_69 : decode cX7_burst 69 = .ok (.istore 6, 2) := by decide +kernel
theorem dX7_burst_71 : decode cX7_burst 71 = .ok (.iload 6, 2) := by decide +kernel
theorem dX7_burst_73 : decode cX7_burst 73 = .ok (.iload_n 2, 1) := by decide +kernel
theorem dX7_burst_74 : decode cX7_burst 74 = .ok (.if_icmp .ge 54, 3) := by decide +kernel
theorem dX7_burst_77 : decode cX7_burst 77 = .ok (.aload_n 0, 1) := by decide +kernel
theorem dX7_burst_78 : decode cX7_burst 78 = .ok (.getfield 10, 3) := by decide +kernel
theorem dX7_burst_81 : decode cX7_burst 81 = .ok (.iload 5, 2) := by decide +kernel
theorem dX7_burst_83 : decode cX7_burst 83 = .ok (.iload_n 3, 1) := by decide +kernel
theorem dX7_burst_84 : decode cX7_burst 84 = .ok (.iconst 0, 1) := by decide +kernel
theorem dX7_burst_85 : decode cX7_burst 85 = .ok (.invokevirtual 142, 3) := by decide +kernel
theorem dX7_burst_88 : decode cX7_burst 88 = .ok (.iconst 4, 1) := by decide +kernel
theorem dX7_burst_89 : decode cX7_burst 89 = .ok (.if_icmp .eq 6, 3) := by decide +kernel
theorem dX7_burst_92 : decode cX7_burst 92 = .ok (.iinc 4 1, 3) := by decide +kernel
theorem dX7_burst_95 : decode cX7_burst 95 = .ok (.iload 5, 2) := by decide +kernel
theorem dX7_burst_97 : decode cX7_burst 97 = .ok (.iconst 1, 1) := by decide +kernel
theorem dX7_burst_98 : decode cX7_burst 98 = .ok (.iadd, 1) := by decide +kernel
theorem dX7_burst_99 : decode cX7_burst 99 = .ok (.aload_n 0, 1) := by decide +kernel
theorem dX7_burst_100 : decode cX7_burst 100 = .ok (.getfield 10, 3) := by decide +kernel
theorem dX7_burst_103 : decode cX7_burst 103 = .ok (.getfield 64, 3) := by decide +kernel
theorem dX7_burst_106 : decode cX7_burst 106 = .ok (.getfield 77, 3) := by decide +kernel
theorem dX7_burst_109 : decode cX7_burst 109 = .ok (.if_icmp .ge 10, 3) := by decide +kernel
theorem dX7_burst_112 : decode cX7_burst 112 = .ok (.iload 5, 2) := by decide +kernel
theorem dX7_burst_114 : decode cX7_burst 114 = .ok (.iconst 1, 1) := by decide +kernel
theorem dX7_burst_115 : decode cX7_burst 115 = .ok (.iadd, 1) := by decide +kernel
theorem dX7_burst_116 : decode cX7_burst 116 = .ok (.goto 4, 3) := by decide +kernel
theorem dX7_burst_119 : decode cX7_burst 119 = .ok (.iconst 0, 1) := by decide +kernel
theorem dX7_burst_120 : decode cX7_burst 120 = .ok (.istore 5, 2) := by decide +kernel
theorem dX7_burst_122 : decode cX7_burst 122 = .ok (.iinc 6 1, 3) := by decide +kernel
theorem dX7_burst_125 : decode cX7_burst 125 = .ok (.goto (-54), 3) := by decide +kernel
theorem dX7_burst_128 : decode cX7_burst 128 = .ok (.iload 4, 2) := by decide +kernel
theorem dX7_burst_130 : decode cX7_burst 130 = .ok (.ireturn, 1) := by decide +kernel
theorem dX7_gap_0 : decode cX7_gap 0 = .ok (.iload_n 2, 1) := by decide +kernel
theorem dX7_gap_1 : decode cX7_gap 1 = .ok (.iconst 1, 1) := by decide +kernel
theorem dX7_gap_2 : decode cX7_gap 2 = .ok (.if_icmp .lt 10, 3) := by decide +kernel
theorem dX7_gap_5 : decode cX7_gap 5 = .ok (.iload_n 2, 1) := by decide +kernel
theorem dX7_gap_6 : decode cX7_gap 6 = .ok (.sipush 9999, 3) := by decide +kernel
theorem dX7_gap_9 : decode cX7_gap 9 = .ok (.if_icmp .le 9, 3) := by decide +kernel
theorem dX7_gap_12 : decode cX7_gap 12 = .ok (.aload_n 0, 1) := by decide +kernel
theorem dX7_gap_13 : decode cX7_gap 13 = .ok (.iconst (-1), 1) := by decide +kernel
theorem dX7_gap_14 : decode cX7_gap 14 = .ok (.invokevirtual 38, 3) := by decide +kernel
theorem dX7_gap_17 : decode cX7_gap 17 = .ok (.ireturn, 1) := by decide +kernel
theorem dX7_gap_18 : decode cX7_gap 18 = .ok (.aload_n 0, 1) := by decide +kernel
theorem dX7_gap_19 : decode cX7_gap 19 = .ok (.iload_n 1, 1) := by decide +kernel
theorem dX7_gap_20 : decode cX7_gap 20 = .ok (.invokevirtual 105, 3) := by decide +kernel
theorem dX7_gap_23 : decode cX7_gap 23 = .ok (.ifCond .ne 10, 3) := by decide +kernel
theorem dX7_gap_26 : decode cX7_gap 26 = .ok (.aload_n 0, 1) := by decide +kernel
theorem dX7_gap_27 : decode cX7_gap 27 = .ok (.bipush (-2), 2) := by decide +kernel
theorem dX7_gap_29 : decode cX7_gap 29 = .ok (.invokevirtual 38, 3) := by decide +kernel
theorem dX7_gap_32 : decode cX7_gap 32 = .ok (.ireturn, 1) := by decide +kernel
theorem dX7_gap_33 : decode cX7_gap 33 = .ok (.aload_n 0, 1) := by decide +kernel
theorem dX7_gap_34 : decode cX7_gap 34 = .ok (.getfield 10, 3) := by decide +kernel
theorem dX7_gap_37 : decode cX7_gap 37 = .ok (.getfield 64, 3) := by decide +kernel
theorem dX7_gap_40 : decode cX7_gap 40 = .ok (.bipush 9, 2) := by decide +kernel
theorem dX7_gap_42 : decode cX7_gap 42 = .ok (.iload_n 1, 1) := by decide +kernel
theorem dX7_gap_43 : decode cX7_gap 43 = .ok (.invokevirtual 108, 3) := by decide +kernel
theorem dX7_gap_46 : decode cX7_gap 46 = .ok (.iload_n 2, 1) := by decide +kernel
theorem dX7_gap_47 : decode cX7_gap 47 = .ok (.iadd, 1) := by decide +kernel
theorem dX7_gap_48 : decode cX7_gap 48 = .ok (.ldc 141, 2) := by decide +kernel
theorem dX7_gap_50 : decode cX7_gap 50 = .ok (.if_icmp .le 10, 3) := by decide +kernel
theorem dX7_gap_53 : decode cX7_gap 53 = .ok (.aload_n 0, 1) := by decide +kernel
theorem dX7_gap_54 : decode cX7_gap 54 = .ok (.bipush (-4), 2) := by decide +kernel
theorem dX7_gap_56 : decode cX7_gap 56 = .ok (.invokevirtual 38, 3) := by decide +kernel
theorem dX7_gap_59 : decode cX7_gap 59 = .ok (.ireturn, 1) := by decide +kernel
theorem dX7_gap_60 : decode cX7_gap 60 = .ok (.aload_n 0, 1) := by decide +kernel
theorem dX7_gap_61 : decode cX7_gap 61 = .ok (.bipush 10, 2) := by decide +kernel
theorem dX7_gap_63 : decode cX7_gap 63 = .ok (.invokevirtual 42, 3) := by decide +kernel
theorem dX7_gap_66 : decode cX7_gap 66 = .ok (.aload_n 0, 1) := by decide +kernel
theorem dX7_gap_67 : decode cX7_gap 67 = .ok (.getfield 10, 3) := by decide +kernel
theorem dX7_gap_70 : decode cX7_gap 70 = .ok (.getfield 64, 3) := by decide +kernel
theorem dX7_gap_73 : decode cX7_gap 73 = .ok (.bipush 9, 2) := by decide +kernel
theorem dX7_gap_75 : decode cX7_gap 75 = .ok (.iload_n 1, 1) := by decide +kernel
theorem dX7_gap_76 : decode cX7_gap 76 = .ok (.iload_n 2, 1) := by decide +kernel
theorem dX7_gap_77 : decode cX7_gap 77 = .ok (.invokevirtual 150, 3) := by decide +kernel
theorem dX7_gap_80 : decode cX7_gap 80 = .ok (.aload_n 0, 1) := by decide +kernel
theorem dX7_gap_81 : decode cX7_gap 81 = .ok (.getfield 10, 3) := by decide +kernel
theorem dX7_gap_84 : decode cX7_gap 84 = .ok (.getfield 64, 3) := by decide +kernel
theorem dX7_gap_87 : decode cX7_gap 87 = .ok (.bipush 9, 2) := by decide +kernel
theorem dX7_gap_89 : decode cX7_gap 89 = .ok (.iload_n 1, 1) := by decide +kernel
theorem dX7_gap_90 : decode cX7_gap 90 = .ok (.invokevirtual 108, 3) := by decide +kernel
theorem dX7_gap_93 : decode cX7_gap 93 = .ok (.ireturn, 1) := by decide +kernel
theorem dX7_tick_0 : decode cX7_tick 0 = .ok (.iload_n 1, 1) := by decide +kernel
theorem dX7_tick_1 : decode cX7_tick 1 = .ok (.iconst 1, 1) := by decide +kernel
theorem dX7_tick_2 : decode cX7_tick 2 = .ok (.if_icmp .lt 9, 3) := by decide +kernel
theorem dX7_tick_5 : decode cX7_tick 5 = .ok (.iload_n 1, 1) := by decide +kernel
theorem dX7_tick_6 : decode cX7_tick 6 = .ok (.bipush 100, 2) := by decide +kernel
theorem dX7_tick_8 : decode cX7_tick 8 = .ok (.if_icmp .le 9, 3) := by decide +kernel
theorem dX7_tick_11 : decode cX7_tick 11 = .ok (.aload_n 0, 1) := by decide +kernel
theorem dX7_tick_12 : decode cX7_tick 12 = .ok (.iconst (-1), 1) := by decide +kernel
theorem dX7_tick_13 : decode cX7_tick 13 = .ok (.invokevirtual 38, 3) := by decide +kernel
theorem dX7_tick_16 : decode cX7_tick 16 = .ok (.ireturn, 1) := by decide +kernel
theorem dX7_tick_17 : decode cX7_tick 17 = .ok (.aload_n 0, 1) := by decide +kernel
theorem dX7_tick_18 : decode cX7_tick 18 = .ok (.getfield 10, 3) := by decide +kernel
theorem dX7_tick_21 : decode cX7_tick 21 = .ok (.getfield 119, 3) := by decide +kernel
theorem dX7_tick_24 : decode cX7_tick 24 = .ok (.iload_n 1, 1) := by decide +kernel
theorem dX7_tick_25 : decode cX7_tick 25 = .ok (.iadd, 1) := by decide +kernel
theorem dX7_tick_26 : decode cX7_tick 26 = .ok (.ldc 153, 2) := by decide +kernel
theorem dX7_tick_28 : decode cX7_tick 28 = .ok (.if_icmp .le 10, 3) := by decide +kernel
theorem dX7_tick_31 : decode cX7_tick 31 = .ok (.aload_n 0, 1) := by decide +kernel
theorem dX7_tick_32 : decode cX7_tick 32 = .ok (.bipush (-4), 2) := by decide +kernel
theorem dX7_tick_34 : decode cX7_tick 34 = .ok (.invokevirtual 38, 3) := by decide +kernel
theorem dX7_tick_37 : decode cX7_tick 37 = .ok (.ireturn, 1) := by decide +kernel
theorem dX7_tick_38 : decode cX7_tick 38 = .ok (.aload_n 0, 1) := by decide +kernel
theorem dX7_tick_39 : decode cX7_tick 39 = .ok (.bipush 11, 2) := by decide +kernel
theorem dX7_tick_41 : decode cX7_tick 41 = .ok (.invokevirtual 42, 3) := by decide +kernel
theorem dX7_tick_44 : decode cX7_tick 44 = .ok (.aload_n 0, 1) := by decide +kernel
theorem dX7_tick_45 : decode cX7_tick 45 = .ok (.getfield 10, 3) := by decide +kernel
theorem dX7_tick_48 : decode cX7_tick 48 = .ok (.getfield 154, 3) := by decide +kernel
theorem dX7_tick_51 : decode cX7_tick 51 = .ok (.getfield 158, 3) := by decide +kernel
theorem dX7_tick_54 : decode cX7_tick 54 = .ok (.iconst 0, 1) := by decide +kernel
theorem dX7_tick_55 : decode cX7_tick 55 = .ok (.laload, 1) := by decide +kernel
theorem dX7_tick_56 : decode cX7_tick 56 = .ok (.lstore_n 2, 1) := by decide +kernel
theorem dX7_tick_57 : decode cX7_tick 57 = .ok (.iconst 0, 1) := by decide +kernel
theorem dX7_tick_58 : decode cX7_tick 58 = .ok (.istore 4, 2) := by decide +kernel
theorem dX7_tick_60 : decode cX7_tick 60 = .ok (.iload 4, 2) := by decide +kernel
theorem dX7_tick_62 : decode cX7_tick 62 = .ok (.iload_n 1, 1) := by decide +kernel
theorem dX7_tick_63 : decode cX7_tick 63 = .ok (.if_icmp .ge 16, 3) := by decide +kernel
theorem dX7_tick_66 : decode cX7_tick 66 = .ok (.aload_n 0, 1) := by decide +kernel
theorem dX7_tick_67 : decode cX7_tick 67 = .ok (.getfield 10, 3) := by decide +kernel
theorem dX7_tick_70 : decode cX7_tick 70 = .ok (.invokevirtual 164, 3) := by decide +kernel
theorem dX7_tick_73 : decode cX7_tick 73 = .ok (.iinc 4 1, 3) := by decide +kernel
theorem dX7_tick_76 : decode cX7_tick 76 = .ok (.goto (-16), 3) := by decide +kernel
theorem dX7_tick_79 : decode cX7_tick 79 = .ok (.aload_n 0, 1) := by decide +kernel
theorem dX7_tick_80 : decode cX7_tick 80 = .ok (.getfield 10, 3) := by decide +kernel
theorem dX7_tick_83 : decode cX7_tick 83 = .ok (.getfield 154, 3) := by decide +kernel
theorem dX7_tick_86 : decode cX7_tick 86 = .ok (.getfield 158, 3) := by decide +kernel
theorem dX7_tick_89 : decode cX7_tick 89 = .ok (.iconst 0, 1) := by decide +kernel
theorem dX7_tick_90 : decode cX7_tick 90 = .ok (.laload, 1) := by decide +kernel
theorem dX7_tick_91 : decode cX7_tick 91 = .ok (.lload_n 2, 1) := by decide +kernel
theorem dX7_tick_92 : decode cX7_tick 92 = .ok (.lsub, 1) := by decide +kernel
theorem dX7_tick_93 : decode cX7_tick 93 = .ok (.l2i, 1) := by decide +kernel
theorem dX7_tick_94 : decode cX7_tick 94 = .ok (.ireturn, 1) := by decide +kernel
theorem dX7_poll_0 : decode cX7_poll 0 = .ok (.iload_n 1, 1) := by decide +kernel
theorem dX7_poll_1 : decode cX7_poll 1 = .ok (.invokestatic 86, 3) := by decide +kernel
theorem dX7_poll_4 : decode cX7_poll 4 = .ok (.ifCond .ne 9, 3) := by decide +kernel
theorem dX7_poll_7 : decode cX7_poll 7 = .ok (.aload_n 0, 1) := by decide +kernel
theorem dX7_poll_8 : decode cX7_poll 8 = .ok (.iconst (-1), 1) := by decide +kernel
theorem dX7_poll_9 : decode cX7_poll 9 = .ok (.invokevirtual 38, 3) := by decide +kernel
theorem dX7_poll_12 : decode cX7_poll 12 = .ok (.ireturn, 1) := by decide +kernel
theorem dX7_poll_13 : decode cX7_poll 13 = .ok (.aload_n 0, 1) := by decide +kernel
theorem dX7_poll_14 : decode cX7_poll 14 = .ok (.getfield 10, 3) := by decide +kernel
theorem dX7_poll_17 : decode cX7_poll 17 = .ok (.getfield 167, 3) := by decide +kernel
theorem dX7_poll_20 : decode cX7_poll 20 = .ok (.iload_n 1, 1) := by decide +kernel
theorem dX7_poll_21 : decode cX7_poll 21 = .ok (.aaload, 1) := by decide +kernel
theorem dX7_poll_22 : decode cX7_poll 22 = .ok (.getfield 171, 3) := by decide +kernel
theorem dX7_poll_25 : decode cX7_poll 25 = .ok (.ifCond .ne 10, 3) := by decide +kernel
theorem dX7_poll_28 : decode cX7_poll 28 = .ok (.aload_n 0, 1) := by decide +kernel
theorem dX7_poll_29 : decode cX7_poll 29 = .ok (.bipush (-4), 2) := by decide +kernel
theorem dX7_poll_31 : decode cX7_poll 31 = .ok (.invokevirtual 38, 3) := by decide +kernel
theorem dX7_poll_34 : decode cX7_poll 34 = .ok (.ireturn, 1) := by decide +kernel
theorem dX7_poll_35 : decode cX7_poll 35 = .ok (.aload_n 0, 1) := by decide +kernel
theorem dX7_poll_36 : decode cX7_poll 36 = .ok (.bipush 12, 2) := by decide +kernel
theorem dX7_poll_38 : decode cX7_poll 38 = .ok (.invokevirtual 42, 3) := by decide +kernel
theorem dX7_poll_41 : decode cX7_poll 41 = .ok (.aload_n 0, 1) := by decide +kernel
theorem dX7_poll_42 : decode cX7_poll 42 = .ok (.getfield 10, 3) := by decide +kernel
theorem dX7_poll_45 : decode cX7_poll 45 = .ok (.iload_n 1, 1) := by decide +kernel
theorem dX7_poll_46 : decode cX7_poll 46 = .ok (.invokevirtual 174, 3) := by decide +kernel
theorem dX7_poll_49 : decode cX7_poll 49 = .ok (.ireturn, 1) := by decide +kernel
theorem dX7_undo_0 : decode cX7_undo 0 = .ok (.aload_n 0, 1) := by decide +kernel
theorem dX7_undo_1 : decode cX7_undo 1 = .ok (.getfield 19, 3) := by decide +kernel
theorem dX7_undo_4 : decode cX7_undo 4 = .ok (.getfield 177, 3) := by decide +kernel
theorem dX7_undo_7 : decode cX7_undo 7 = .ok (.ifCond .ne 10, 3) := by decide +kernel
theorem dX7_undo_10 : decode cX7_undo 10 = .ok (.aload_n 0, 1) := by decide +kernel
theorem dX7_undo_11 : decode cX7_undo 11 = .ok (.bipush (-4), 2) := by decide +kernel
theorem dX7_undo_13 : decode cX7_undo 13 = .ok (.invokevirtual 38, 3) := by decide +kernel
theorem dX7_undo_16 : decode cX7_undo 16 = .ok (.ireturn, 1) := by decide +kernel
theorem dX7_undo_17 : decode cX7_undo 17 = .ok (.aload_n 0, 1) := by decide +kernel
theorem dX7_undo_18 : decode cX7_undo 18 = .ok (.iconst 0, 1) := by decide +kernel
theorem dX7_undo_19 : decode cX7_undo 19 = .ok (.putfield 74, 3) := by decide +kernel
theorem dX7_undo_22 : decode cX7_undo 22 = .ok (.aload_n 0, 1) := by decide +kernel
theorem dX7_undo_23 : decode cX7_undo 23 = .ok (.getfield 19, 3) := by decide +kernel
theorem dX7_undo_26 : decode cX7_undo 26 = .ok (.aload_n 0, 1) := by decide +kernel
theorem dX7_undo_27 : decode cX7_undo 27 = .ok (.getfield 10, 3) := by decide +kernel
theorem dX7_undo_30 : decode cX7_undo 30 = .ok (.invokevirtual 178, 3) := by decide +kernel
theorem dX7_undo_33 : decode cX7_undo 33 = .ok (.ireturn, 1) := by decide +kernel
theorem dX7_image_0 : decode cX7_image 0 = .ok (.iload_n 1, 1) := by decide +kernel
theorem dX7_image_1 : decode cX7_image 1 = .ok (.ifCond .lt 8, 3) := by decide +kernel
theorem dX7_image_4 : decode cX7_image 4 = .ok (.iload_n 1, 1) := by decide +kernel
theorem dX7_image_5 : decode cX7_image 5 = .ok (.iconst 2, 1) := by decide +kernel
theorem dX7_image_6 : decode cX7_image 6 = .ok (.if_icmp .lt 9, 3) := by decide +kernel
theorem dX7_image_9 : decode cX7_image 9 = .ok (.aload_n 0, 1) := by decide +kernel
theorem dX7_image_10 : decode cX7_image 10 = .ok (.iconst (-1), 1) := by decide +kernel
theorem dX7_image_11 : decode cX7_image 11 = .ok (.invokevirtual 38, 3) := by decide +kernel
theorem dX7_image_14 : decode cX7_image 14 = .ok (.ireturn, 1) := by decide +kernel
theorem dX7_image_15 : decode cX7_image 15 = .ok (.aload_n 0, 1) := by decide +kernel
theorem dX7_image_16 : decode cX7_image 16 = .ok (.iconst 0, 1) := by decide +kernel
theorem dX7_image_17 : decode cX7_image 17 = .ok (.putfield 74, 3) := by decide +kernel
theorem dX7_image_20 : decode cX7_image 20 = .ok (.aload_n 0, 1) := by decide +kernel
theorem dX7_image_21 : decode cX7_image 21 = .ok (.getfield 23, 3) := by decide +kernel
theorem dX7_image_24 : decode cX7_image 24 = .ok (.iload_n 1, 1) := by decide +kernel
theorem dX7_image_25 : decode cX7_image 25 = .ok (.aload_n 0, 1) := by decide +kernel
theorem dX7_image_26 : decode cX7_image 26 = .ok (.getfield 23, 3) := by decide +kernel
theorem dX7_image_29 : decode cX7_image 29 = .ok (.iload_n 1, 1) := by decide +kernel
theorem dX7_image_30 : decode cX7_image 30 = .ok (.aaload, 1) := by decide +kernel
theorem dX7_image_31 : decode cX7_image 31 = .ok (.aload_n 0, 1) := by decide +kernel
theorem dX7_image_32 : decode cX7_image 32 = .ok (.getfield 10, 3) := by decide +kernel
theorem dX7_image_35 : decode cX7_image 35 = .ok (.invokestatic 182, 3) := by decide +kernel
theorem dX7_image_38 : decode cX7_image 38 = .ok (.aastore, 1) := by decide +kernel
theorem dX7_image_39 : decode cX7_image 39 = .ok (.aload_n 0, 1) := by decide +kernel
theorem dX7_image_40 : decode cX7_image 40 = .ok (.getfield 10, 3) := by decide +kernel
theorem dX7_image_43 : decode cX7_image 43 = .ok (.getfield 119, 3) := by decide +kernel
theorem dX7_image_46 : decode cX7_image 46 = .ok (.ireturn, 1) := by decide +kernel
theorem dX7_back_0 : decode cX7_back 0 = .ok (.iload_n 1, 1) := by decide +kernel
theorem dX7_back_1 : decode cX7_back 1 = .ok (.ifCond .lt 8, 3) := by decide +kernel
theorem dX7_back_4 : decode cX7_back 4 = .ok (.iload_n 1, 1) := by decide +kernel
theorem dX7_back_5 : decode cX7_back 5 = .ok (.iconst 2, 1) := by decide +kernel
theorem dX7_back_6 : decode cX7_back 6 = .ok (.if_icmp .lt 9, 3) := by decide +kernel
theorem dX7_back_9 : decode cX7_back 9 = .ok (.aload_n 0, 1) := by decide +kernel
theorem dX7_back_10 : decode cX7_back 10 = .ok (.iconst (-1), 1) := by decide +kernel
theorem dX7_back_11 : decode cX7_back 11 = .ok (.invokevirtual 38, 3) := by decide +kernel
theorem dX7_back_14 : decode cX7_back 14 = .ok (.ireturn, 1) := by decide +kernel
theorem dX7_back_15 : decode cX7_back 15 = .ok (.aload_n 0, 1) := by decide +kernel
theorem dX7_back_16 : decode cX7_back 16 = .ok (.getfield 23, 3) := by decide +kernel
theorem dX7_back_19 : decode cX7_back 19 = .ok (.iload_n 1, 1) := by decide +kernel
theorem dX7_back_20 : decode cX7_back 20 = .ok (.aaload, 1) := by decide +kernel
theorem dX7_back_21 : decode cX7_back 21 = .ok (.ifnonnull 10, 3) := by decide +kernel
theorem dX7_back_24 : decode cX7_back 24 = .ok (.aload_n 0, 1) := by decide +kernel
theorem dX7_back_25 : decode cX7_back 25 = .ok (.bipush (-4), 2) := by decide +kernel
theorem dX7_back_27 : decode cX7_back 27 = .ok (.invokevirtual 38, 3) := by decide +kernel
theorem dX7_back_30 : decode cX7_back 30 = .ok (.ireturn, 1) := by decide +kernel
theorem dX7_back_31 : decode cX7_back 31 = .ok (.aload_n 0, 1) := by decide +kernel
theorem dX7_back_32 : decode cX7_back 32 = .ok (.iconst 0, 1) := by decide +kernel
theorem dX7_back_33 : decode cX7_back 33 = .ok (.putfield 74, 3) := by decide +kernel
theorem dX7_back_36 : decode cX7_back 36 = .ok (.aload_n 0, 1) := by decide +kernel
theorem dX7_back_37 : decode cX7_back 37 = .ok (.getfield 10, 3) := by decide +kernel
theorem dX7_back_40 : decode cX7_back 40 = .ok (.aload_n 0, 1) := by decide +kernel
theorem dX7_back_41 : decode cX7_back 41 = .ok (.getfield 23, 3) := by decide +kernel
theorem dX7_back_44 : decode cX7_back 44 = .ok (.iload_n 1, 1) := by decide +kernel
theorem dX7_back_45 : decode cX7_back 45 = .ok (.aaload, 1) := by decide +kernel
theorem dX7_back_46 : decode cX7_back 46 = .ok (.invokevirtual 186, 3) := by decide +kernel
theorem dX7_back_49 : decode cX7_back 49 = .ok (.aload_n 0, 1) := by decide +kernel
theorem dX7_back_50 : decode cX7_back 50 = .ok (.getfield 19, 3) := by decide +kernel
theorem dX7_back_53 : decode cX7_back 53 = .ok (.iconst 0, 1) := by decide +kernel
theorem dX7_back_54 : decode cX7_back 54 = .ok (.putfield 177, 3) := by decide +kernel
theorem dX7_back_57 : decode cX7_back 57 = .ok (.aload_n 0, 1) := by decide +kernel
theorem dX7_back_58 : decode cX7_back 58 = .ok (.getfield 10, 3) := by decide +kernel
theorem dX7_back_61 : decode cX7_back 61 = .ok (.getfield 119, 3) := by decide +kernel
theorem dX7_back_64 : decode cX7_back 64 = .ok (.ireturn, 1) := by decide +kernel
theorem dX7_hash_0 : decode cX7_hash 0 = .ok (.iload_n 1, 1) := by decide +kernel
theorem dX7_hash_1 : decode cX7_hash 1 = .ok (.iload_n 2, 1) := by decide +kernel
theorem dX7_hash_2 : decode cX7_hash 2 = .ok (.iload_n 3, 1) := by decide +kernel
theorem dX7_hash_3 : decode cX7_hash 3 = .ok (.iload 4, 2) := by decide +kernel
theorem dX7_hash_5 : decode cX7_hash 5 = .ok (.iload 5, 2) := by decide +kernel
theorem dX7_hash_7 : decode cX7_hash 7 = .ok (.invokestatic 60, 3) := by decide +kernel
theorem dX7_hash_10 : decode cX7_hash 10 = .ok (.ifCond .ne 5, 3) := by decide +kernel
theorem dX7_hash_13 : decode cX7_hash 13 = .ok (.iconst 0, 1) := by decide +kernel
theorem dX7_hash_14 : decode cX7_hash 14 = .ok (.ireturn, 1) := by decide +kernel
theorem dX7_hash_15 : decode cX7_hash 15 = .ok (.aload_n 0, 1) := by decide +kernel
theorem dX7_hash_16 : decode cX7_hash 16 = .ok (.getfield 10, 3) := by decide +kernel
theorem dX7_hash_19 : decode cX7_hash 19 = .ok (.getfield 46, 3) := by decide +kernel
theorem dX7_hash_22 : decode cX7_hash 22 = .ok (.iload_n 1, 1) := by decide +kernel
theorem dX7_hash_23 : decode cX7_hash 23 = .ok (.iload_n 2, 1) := by decide +kernel
theorem dX7_hash_24 : decode cX7_hash 24 = .ok (.iload_n 3, 1) := by decide +kernel
theorem dX7_hash_25 : decode cX7_hash 25 = .ok (.iload 4, 2) := by decide +kernel
theorem dX7_hash_27 : decode cX7_hash 27 = .ok (.iload 5, 2) := by decide +kernel
theorem dX7_hash_29 : decode cX7_hash 29 = .ok (.invokevirtual 190, 3) := by decide +kernel
theorem dX7_hash_32 : decode cX7_hash 32 = .ok (.ireturn, 1) := by decide +kernel
theorem dX7_hashOf_0 : decode cX7_hashOf 0 = .ok (.aload_n 0, 1) := by decide +kernel
theorem dX7_hashOf_1 : decode cX7_hashOf 1 = .ok (.iload_n 1, 1) := by decide +kernel
theorem dX7_hashOf_2 : decode cX7_hashOf 2 = .ok (.invokevirtual 105, 3) := by decide +kernel
theorem dX7_hashOf_5 : decode cX7_hashOf 5 = .ok (.ifCond .eq 14, 3) := by decide +kernel
theorem dX7_hashOf_8 : decode cX7_hashOf 8 = .ok (.aload_n 0, 1) := by decide +kernel
theorem dX7_hashOf_9 : decode cX7_hashOf 9 = .ok (.getfield 10, 3) := by decide +kernel
theorem dX7_hashOf_12 : decode cX7_hashOf 12 = .ok (.iload_n 1, 1) := by decide +kernel
theorem dX7_hashOf_13 : decode cX7_hashOf 13 = .ok (.invokevirtual 193, 3) := by decide +kernel
theorem dX7_hashOf_16 : decode cX7_hashOf 16 = .ok (.goto 4, 3) := by decide +kernel
theorem dX7_hashOf_19 : decode cX7_hashOf 19 = .ok (.iconst 0, 1) := by decide +kernel
theorem dX7_hashOf_20 : decode cX7_hashOf 20 = .ok (.ireturn, 1) := by decide +kernel
theorem dX7_of_0 : decode cX7_of 0 = .ok (.aload_n 0, 1) := by decide +kernel
theorem dX7_of_1 : decode cX7_of 1 = .ok (.iload_n 1, 1) := by decide +kernel
theorem dX7_of_2 : decode cX7_of 2 = .ok (.invokevirtual 105, 3) := by decide +kernel
theorem dX7_of_5 : decode cX7_of 5 = .ok (.ifCond .eq 13, 3) := by decide +kernel
theorem dX7_of_8 : decode cX7_of 8 = .ok (.iload_n 2, 1) := by decide +kernel
theorem dX7_of_9 : decode cX7_of 9 = .ok (.ifCond .lt 9, 3) := by decide +kernel
theorem dX7_of_12 : decode cX7_of 12 = .ok (.iload_n 2, 1) := by decide +kernel
theorem dX7_of_13 : decode cX7_of 13 = .ok (.bipush 20, 2) := by decide +kernel
theorem dX7_of_15 : decode cX7_of 15 = .ok (.if_icmp .lt 5, 3) := by decide +kernel
theorem dX7_of_18 : decode cX7_of 18 = .ok (.iconst (-1), 1) := by decide +kernel
theorem dX7_of_19 : decode cX7_of 19 = .ok (.ireturn, 1) := by decide +kernel
theorem dX7_of_20 : decode cX7_of 20 = .ok (.iload_n 2, 1) := by decide +kernel
theorem dX7_of_21 : decode cX7_of 21 = .ok (.iconst 5, 1) := by decide +kernel
theorem dX7_of_22 : decode cX7_of 22 = .ok (.if_icmp .ne 12, 3) := by decide +kernel
theorem dX7_of_25 : decode cX7_of 25 = .ok (.aload_n 0, 1) := by decide +kernel
theorem dX7_of_26 : decode cX7_of 26 = .ok (.getfield 10, 3) := by decide +kernel
theorem dX7_of_29 : decode cX7_of 29 = .ok (.iload_n 1, 1) := by decide +kernel
theorem dX7_of_30 : decode cX7_of 30 = .ok (.invokevirtual 196, 3) := by decide +kernel
theorem dX7_of_33 : decode cX7_of 33 = .ok (.ireturn, 1) := by decide +kernel
theorem dX7_of_34 : decode cX7_of 34 = .ok (.iload_n 2, 1) := by decide +kernel
theorem dX7_of_35 : decode cX7_of 35 = .ok (.bipush 6, 2) := by decide +kernel
theorem dX7_of_37 : decode cX7_of 37 = .ok (.if_icmp .ne 12, 3) := by decide +kernel
theorem dX7_of_40 : decode cX7_of 40 = .ok (.aload_n 0, 1) := by decide +kernel
theorem dX7_of_41 : decode cX7_of 41 = .ok (.getfield 10, 3) := by decide +kernel
theorem dX7_of_44 : decode cX7_of 44 = .ok (.iload_n 1, 1) := by decide +kernel
theorem dX7_of_45 : decode cX7_of 45 = .ok (.invokevirtual 199, 3) := by decide +kernel
theorem dX7_of_48 : decode cX7_of 48 = .ok (.ireturn, 1) := by decide +kernel
theorem dX7_of_49 : decode cX7_of 49 = .ok (.aload_n 0, 1) := by decide +kernel
theorem dX7_of_50 : decode cX7_of 50 = .ok (.getfield 10, 3) := by decide +kernel
theorem dX7_of_53 : decode cX7_of 53 = .ok (.getfield 64, 3) := by decide +kernel
theorem dX7_of_56 : decode cX7_of 56 = .ok (.iload_n 2, 1) := by decide +kernel
theorem dX7_of_57 : decode cX7_of 57 = .ok (.iload_n 1, 1) := by decide +kernel
theorem dX7_of_58 : decode cX7_of 58 = .ok (.invokevirtual 108, 3) := by decide +kernel
theorem dX7_of_61 : decode cX7_of 61 = .ok (.ireturn, 1) := by decide +kernel
theorem dX7_find_0 : decode cX7_find 0 = .ok (.aload_n 0, 1) := by decide +kernel
theorem dX7_find_1 : decode cX7_find 1 = .ok (.getfield 10, 3) := by decide +kernel
theorem dX7_find_4 : decode cX7_find 4 = .ok (.getfield 64, 3) := by decide +kernel
theorem dX7_find_7 : decode cX7_find 7 = .ok (.iload_n 1, 1) := by decide +kernel
theorem dX7_find_8 : decode cX7_find 8 = .ok (.iload_n 2, 1) := by decide +kernel
theorem dX7_find_9 : decode cX7_find 9 = .ok (.iload_n 3, 1) := by decide +kernel
theorem dX7_find_10 : decode cX7_find 10 = .ok (.iload 4, 2) := by decide +kernel
theorem dX7_find_12 : decode cX7_find 12 = .ok (.iload 5, 2) := by decide +kernel
theorem dX7_find_14 : decode cX7_find 14 = .ok (.invokevirtual 68, 3) := by decide +kernel
theorem dX7_find_17 : decode cX7_find 17 = .ok (.ireturn, 1) := by decide +kernel
theorem dX7_missing_0 : decode cX7_missing 0 = .ok (.aload_n 0, 1) := by decide +kernel
theorem dX7_missing_1 : decode cX7_missing 1 = .ok (.iload_n 1, 1) := by decide +kernel
theorem dX7_missing_2 : decode cX7_missing 2 = .ok (.invokevirtual 105, 3) := by decide +kernel
theorem dX7_missing_5 : decode cX7_missing 5 = .ok (.ifCond .ne 5, 3) := by decide +kernel
theorem dX7_missing_8 : decode cX7_missing 8 = .ok (.iconst (-1), 1) := by decide +kernel
theorem dX7_missing_9 : decode cX7_missing 9 = .ok (.ireturn, 1) := by decide +kernel
theorem dX7_missing_10 : decode cX7_missing 10 = .ok (.iload_n 2, 1) := by decide +kernel
theorem dX7_missing_11 : decode cX7_missing 11 = .ok (.lookupswitch 43 #[(0, 25), (1, 34)], 25) := by decide +kernel
theorem dX7_missing_36 : decode cX7_missing 36 = .ok (.aload_n 0, 1) := by decide +kernel
theorem dX7_missing_37 : decode cX7_missing 37 = .ok (.getfield 10, 3) := by decide +kernel
theorem dX7_missing_40 : decode cX7_missing 40 = .ok (.iload_n 1, 1) := by decide +kernel
theorem dX7_missing_41 : decode cX7_missing 41 = .ok (.invokevirtual 202, 3) := by decide +kernel
theorem dX7_missing_44 : decode cX7_missing 44 = .ok (.ireturn, 1) := by decide +kernel
theorem dX7_missing_45 : decode cX7_missing 45 = .ok (.aload_n 0, 1) := by decide +kernel
theorem dX7_missing_46 : decode cX7_missing 46 = .ok (.getfield 10, 3) := by decide +kernel
theorem dX7_missing_49 : decode cX7_missing 49 = .ok (.iload_n 1, 1) := by decide +kernel
theorem dX7_missing_50 : decode cX7_missing 50 = .ok (.invokevirtual 205, 3) := by decide +kernel
theorem dX7_missing_53 : decode cX7_missing 53 = .ok (.ireturn, 1) := by decide +kernel
theorem dX7_missing_54 : decode cX7_missing 54 = .ok (.iconst (-1), 1) := by decide +kernel
theorem dX7_missing_55 : decode cX7_missing 55 = .ok (.ireturn, 1) := by decide +kernel
theorem dX7_entry_0 : decode cX7_entry 0 = .ok (.iload_n 1, 1) := by decide +kernel
theorem dX7_entry_1 : decode cX7_entry 1 = .ok (.invokestatic 83, 3) := by decide +kernel
theorem dX7_entry_4 : decode cX7_entry 4 = .ok (.ifCond .ne 5, 3) := by decide +kernel
theorem dX7_entry_7 : decode cX7_entry 7 = .ok (.iconst (-1), 1) := by decide +kernel
theorem dX7_entry_8 : decode cX7_entry 8 = .ok (.ireturn, 1) := by decide +kernel
theorem dX7_entry_9 : decode cX7_entry 9 = .ok (.iload_n 2, 1) := by decide +kernel
theorem dX7_entry_10 : decode cX7_entry 10 = .ok (.tableswitch 61 0 2 #[26, 39, 52], 26) := by decide +kernel
theorem dX7_entry_36 : decode cX7_entry 36 = .ok (.aload_n 0, 1) := by decide +kernel
theorem dX7_entry_37 : decode cX7_entry 37 = .ok (.getfield 10, 3) := by decide +kernel
theorem dX7_entry_40 : decode cX7_entry 40 = .ok (.getfield 89, 3) := by decide +kernel
theorem dX7_entry_43 : decode cX7_entry 43 = .ok (.getfield 93, 3) := by decide +kernel
theorem dX7_entry_46 : decode cX7_entry 46 = .ok (.iload_n 1, 1) := by decide +kernel
theorem dX7_entry_47 : decode cX7_entry 47 = .ok (.iaload, 1) := by decide +kernel
theorem dX7_entry_48 : decode cX7_entry 48 = .ok (.ireturn, 1) := by decide +kernel
theorem dX7_entry_49 : decode cX7_entry 49 = .ok (.aload_n 0, 1) := by decide +kernel
theorem dX7_entry_50 : decode cX7_entry 50 = .ok (.getfield 10, 3) := by decide +kernel
theorem dX7_entry_53 : decode cX7_entry 53 = .ok (.getfield 89, 3) := by decide +kernel
theorem dX7_entry_56 : decode cX7_entry 56 = .ok (.getfield 208, 3) := by decide +kernel
theorem dX7_entry_59 : decode cX7_entry 59 = .ok (.iload_n 1, 1) := by decide +kernel
theorem dX7_entry_60 : decode cX7_entry 60 = .ok (.iaload, 1) := by decide +kernel
theorem dX7_entry_61 : decode cX7_entry 61 = .ok (.ireturn, 1) := by decide +kernel
theorem dX7_entry_62 : decode cX7_entry 62 = .ok (.aload_n 0, 1) := by decide +kernel
theorem dX7_entry_63 : decode cX7_entry 63 = .ok (.getfield 10, 3) := by decide +kernel
theorem dX7_entry_66 : decode cX7_entry 66 = .ok (.iload_n 1, 1) := by decide +kernel
theorem dX7_entry_67 : decode cX7_entry 67 = .ok (.invokevirtual 211, 3) := by decide +kernel
theorem dX7_entry_70 : decode cX7_entry 70 = .ok (.ireturn, 1) := by decide +kernel
theorem dX7_entry_71 : decode cX7_entry 71 = .ok (.iconst (-1), 1) := by decide +kernel
theorem dX7_entry_72 : decode cX7_entry 72 = .ok (.ireturn, 1) := by decide +kernel
theorem dX7_queue_0 : decode cX7_queue 0 = .ok (.iload_n 1, 1) := by decide +kernel
theorem dX7_queue_1 : decode cX7_queue 1 = .ok (.invokestatic 86, 3) := by decide +kernel
theorem dX7_queue_4 : decode cX7_queue 4 = .ok (.ifCond .ne 5, 3) := by decide +kernel
theorem dX7_queue_7 : decode cX7_queue 7 = .ok (.iconst (-1), 1) := by decide +kernel
theorem dX7_queue_8 : decode cX7_queue 8 = .ok (.ireturn, 1) := by decide +kernel
theorem dX7_queue_9 : decode cX7_queue 9 = .ok (.iload_n 2, 1) := by decide +kernel
theorem dX7_queue_10 : decode cX7_queue 10 = .ok (.lookupswitch 47 #[(6, 26), (9, 35)], 26) := by decide +kernel
theorem dX7_queue_36 : decode cX7_queue 36 = .ok (.aload_n 0, 1) := by decide +kernel
theorem dX7_queue_37 : decode cX7_queue 37 = .ok (.getfield 10, 3) := by decide +kernel
theorem dX7_queue_40 : decode cX7_queue 40 = .ok (.iload_n 1, 1) := by decide +kernel
theorem dX7_queue_41 : decode cX7_queue 41 = .ok (.invokevirtual 214, 3) := by decide +kernel
theorem dX7_queue_44 : decode cX7_queue 44 = .ok (.ireturn, 1) := by decide +kernel
theorem dX7_queue_45 : decode cX7_queue 45 = .ok (.aload_n 0, 1) := by decide +kernel
theorem dX7_queue_46 : decode cX7_queue 46 = .ok (.getfield 10, 3) := by decide +kernel
theorem dX7_queue_49 : decode cX7_queue 49 = .ok (.getfield 89, 3) := by decide +kernel
theorem dX7_queue_52 : decode cX7_queue 52 = .ok (.iload_n 1, 1) := by decide +kernel
theorem dX7_queue_53 : decode cX7_queue 53 = .ok (.invokevirtual 217, 3) := by decide +kernel
theorem dX7_queue_56 : decode cX7_queue 56 = .ok (.ireturn, 1) := by decide +kernel
theorem dX7_queue_57 : decode cX7_queue 57 = .ok (.aload_n 0, 1) := by decide +kernel
theorem dX7_queue_58 : decode cX7_queue 58 = .ok (.getfield 10, 3) := by decide +kernel
theorem dX7_queue_61 : decode cX7_queue 61 = .ok (.getfield 167, 3) := by decide +kernel
theorem dX7_queue_64 : decode cX7_queue 64 = .ok (.iload_n 1, 1) := by decide +kernel
theorem dX7_queue_65 : decode cX7_queue 65 = .ok (.aaload, 1) := by decide +kernel
theorem dX7_queue_66 : decode cX7_queue 66 = .ok (.iload_n 2, 1) := by decide +kernel
theorem dX7_queue_67 : decode cX7_queue 67 = .ok (.invokevirtual 220, 3) := by decide +kernel
theorem dX7_queue_70 : decode cX7_queue 70 = .ok (.ireturn, 1) := by decide +kernel
theorem dX7_waits_0 : decode cX7_waits 0 = .ok (.iload_n 1, 1) := by decide +kernel
theorem dX7_waits_1 : decode cX7_waits 1 = .ok (.invokestatic 86, 3) := by decide +kernel
theorem dX7_waits_4 : decode cX7_waits 4 = .ok (.ifCond .eq 32, 3) := by decide +kernel
theorem dX7_waits_7 : decode cX7_waits 7 = .ok (.iload_n 2, 1) := by decide +kernel
theorem dX7_waits_8 : decode cX7_waits 8 = .ok (.ifCond .lt 28, 3) := by decide +kernel
theorem dX7_waits_11 : decode cX7_waits 11 = .ok (.iload_n 2, 1) := by decide +kernel
theorem dX7_waits_12 : decode cX7_waits 12 = .ok (.aload_n 0, 1) := by decide +kernel
theorem dX7_waits_13 : decode cX7_waits 13 = .ok (.getfield 10, 3) := by decide +kernel
theorem dX7_waits_16 : decode cX7_waits 16 = .ok (.getfield 167, 3) := by decide +kernel
theorem dX7_waits_19 : decode cX7_waits 19 = .ok (.iload_n 1, 1) := by decide +kernel
theorem dX7_waits_20 : decode cX7_waits 20 = .ok (.aaload, 1) := by decide +kernel
theorem dX7_waits_21 : decode cX7_waits 21 = .ok (.getfield 171, 3) := by decide +kernel
theorem dX7_waits_24 : decode cX7_waits 24 = .ok (.if_icmp .ge 12, 3) := by decide +kernel
theorem dX7_waits_27 : decode cX7_waits 27 = .ok (.iload_n 3, 1) := by decide +kernel
theorem dX7_waits_28 : decode cX7_waits 28 = .ok (.ifCond .lt 8, 3) := by decide +kernel
theorem dX7_waits_31 : decode cX7_waits 31 = .ok (.iload_n 3, 1) := by decide +kernel
theorem dX7_waits_32 : decode cX7_waits 32 = .ok (.iconst 4, 1) := by decide +kernel
theorem dX7_waits_33 : decode cX7_waits 33 = .ok (.if_icmp .lt 5, 3) := by decide +kernel
theorem dX7_waits_36 : decode cX7_waits 36 = .ok (.iconst (-1), 1) := by decide +kernel
theorem dX7_waits_37 : decode cX7_waits 37 = .ok (.ireturn, 1) := by decide +kernel
theorem dX7_waits_38 : decode cX7_waits 38 = .ok (.aload_n 0, 1) := by decide +kernel
theorem dX7_waits_39 : decode cX7_waits 39 = .ok (.getfield 10, 3) := by decide +kernel
theorem dX7_waits_42 : decode cX7_waits 42 = .ok (.getfield 167, 3) := by decide +kernel
theorem dX7_waits_45 : decode cX7_waits 45 = .ok (.iload_n 1, 1) := by decide +kernel
theorem dX7_waits_46 : decode cX7_waits 46 = .ok (.aaload, 1) := by decide +kernel
theorem dX7_waits_47 : decode cX7_waits 47 = .ok (.iload_n 2, 1) := by decide +kernel
theorem dX7_waits_48 : decode cX7_waits 48 = .ok (.iload_n 3, 1) := by decide +kernel
theorem dX7_waits_49 : decode cX7_waits 49 = .ok (.invokevirtual 223, 3) := by decide +kernel
theorem dX7_waits_52 : decode cX7_waits 52 = .ok (.ireturn, 1) := by decide +kernel
theorem dX7_segment_0 : decode cX7_segment 0 = .ok (.iload_n 1, 1) := by decide +kernel
theorem dX7_segment_1 : decode cX7_segment 1 = .ok (.ifCond .lt 27, 3) := by decide +kernel
theorem dX7_segment_4 : decode cX7_segment 4 = .ok (.iload_n 1, 1) := by decide +kernel
theorem dX7_segment_5 : decode cX7_segment 5 = .ok (.aload_n 0, 1) := by decide +kernel
theorem dX7_segment_6 : decode cX7_segment 6 = .ok (.getfield 10, 3) := by decide +kernel
theorem dX7_segment_9 : decode cX7_segment 9 = .ok (.getfield 154, 3) := by decide +kernel
theorem dX7_segment_12 : decode cX7_segment 12 = .ok (.getfield 226, 3) := by decide +kernel
theorem dX7_segment_15 : decode cX7_segment 15 = .ok (.if_icmp .ge 13, 3) := by decide +kernel
theorem dX7_segment_18 : decode cX7_segment 18 = .ok (.iload_n 2, 1) := by decide +kernel
theorem dX7_segment_19 : decode cX7_segment 19 = .ok (.ifCond .lt 9, 3) := by decide +kernel
theorem dX7_segment_22 : decode cX7_segment 22 = .ok (.iload_n 2, 1) := by decide +kernel
theorem dX7_segment_23 : decode cX7_segment 23 = .ok (.bipush 6, 2) := by decide +kernel
theorem dX7_segment_25 : decode cX7_segment 25 = .ok (.if_icmp .lt 5, 3) := by decide +kernel
theorem dX7_segment_28 : decode cX7_segment 28 = .ok (.iconst (-1), 1) := by decide +kernel
theorem dX7_segment_29 : decode cX7_segment 29 = .ok (.ireturn, 1) := by decide +kernel
theorem dX7_segment_30 : decode cX7_segment 30 = .ok (.aload_n 0, 1) := by decide +kernel
theorem dX7_segment_31 : decode cX7_segment 31 = .ok (.getfield 10, 3) := by decide +kernel
theorem dX7_segment_34 : decode cX7_segment 34 = .ok (.getfield 154, 3) := by decide +kernel
theorem dX7_segment_37 : decode cX7_segment 37 = .ok (.iload_n 1, 1) := by decide +kernel
theorem dX7_segment_38 : decode cX7_segment 38 = .ok (.iload_n 2, 1) := by decide +kernel
theorem dX7_segment_39 : decode cX7_segment 39 = .ok (.invokevirtual 229, 3) := by decide +kernel
theorem dX7_segment_42 : decode cX7_segment 42 = .ok (.ireturn, 1) := by decide +kernel
theorem dX7_given_0 : decode cX7_given 0 = .ok (.iload_n 1, 1) := by decide +kernel
theorem dX7_given_1 : decode cX7_given 1 = .ok (.ifCond .lt 9, 3) := by decide +kernel
theorem dX7_given_4 : decode cX7_given 4 = .ok (.iload_n 1, 1) := by decide +kernel
theorem dX7_given_5 : decode cX7_given 5 = .ok (.bipush 7, 2) := by decide +kernel
theorem dX7_given_7 : decode cX7_given 7 = .ok (.if_icmp .lt 9, 3) := by decide +kernel
theorem dX7_given_10 : decode cX7_given 10 = .ok (.ldc2_w 232, 3) := by decide +kernel
theorem dX7_given_13 : decode cX7_given 13 = .ok (.goto 15, 3) := by decide +kernel
theorem dX7_given_16 : decode cX7_given 16 = .ok (.aload_n 0, 1) := by decide +kernel
theorem dX7_given_17 : decode cX7_given 17 = .ok (.getfield 10, 3) := by decide +kernel
theorem dX7_given_20 : decode cX7_given 20 = .ok (.getfield 154, 3) := by decide +kernel
theorem dX7_given_23 : decode cX7_given 23 = .ok (.getfield 158, 3) := by decide +kernel
theorem dX7_given_26 : decode cX7_given 26 = .ok (.iload_n 1, 1) := by decide +kernel
theorem dX7_given_27 : decode cX7_given 27 = .ok (.laload, 1) := by decide +kernel
theorem dX7_given_28 : decode cX7_given 28 = .ok (.lreturn, 1) := by decide +kernel
theorem dX7_window_0 : decode cX7_window 0 = .ok (.iload_n 1, 1) := by decide +kernel
theorem dX7_window_1 : decode cX7_window 1 = .ok (.ifCond .lt 9, 3) := by decide +kernel
theorem dX7_window_4 : decode cX7_window 4 = .ok (.iload_n 1, 1) := by decide +kernel
theorem dX7_window_5 : decode cX7_window 5 = .ok (.bipush 40, 2) := by decide +kernel
theorem dX7_window_7 : decode cX7_window 7 = .ok (.if_icmp .le 7, 3) := by decide +kernel
theorem dX7_window_10 : decode cX7_window 10 = .ok (.iconst 0, 1) := by decide +kernel
theorem dX7_window_11 : decode cX7_window 11 = .ok (.goto 14, 3) := by decide +kernel
theorem dX7_window_14 : decode cX7_window 14 = .ok (.aload_n 0, 1) := by decide +kernel
theorem dX7_window_15 : decode cX7_window 15 = .ok (.getfield 10, 3) := by decide +kernel
theorem dX7_window_18 : decode cX7_window 18 = .ok (.getfield 46, 3) := by decide +kernel
theorem dX7_window_21 : decode cX7_window 21 = .ok (.iload_n 1, 1) := by decide +kernel
theorem dX7_window_22 : decode cX7_window 22 = .ok (.invokevirtual 234, 3) := by decide +kernel
theorem dX7_window_25 : decode cX7_window 25 = .ok (.ireturn, 1) := by decide +kernel
theorem dX7_isBothWays_0 : decode cX7_isBothWays 0 = .ok (.aload_n 0, 1) := by decide +kernel
theorem dX7_isBothWays_1 : decode cX7_isBothWays 1 = .ok (.getfield 10, 3) := by decide +kernel
theorem dX7_isBothWays_4 : decode cX7_isBothWays 4 = .ok (.getfield 46, 3) := by decide +kernel
theorem dX7_isBothWays_7 : decode cX7_isBothWays 7 = .ok (.invokevirtual 237, 3) := by decide +kernel
theorem dX7_isBothWays_10 : decode cX7_isBothWays 10 = .ok (.ireturn, 1) := by decide +kernel
theorem dX7_reach_0 : decode cX7_reach 0 = .ok (.aload_n 0, 1) := by decide +kernel
theorem dX7_reach_1 : decode cX7_reach 1 = .ok (.getfield 10, 3) := by decide +kernel
theorem dX7_reach_4 : decode cX7_reach 4 = .ok (.getfield 46, 3) := by decide +kernel
theorem dX7_reach_7 : decode cX7_reach 7 = .ok (.invokevirtual 241, 3) := by decide +kernel
theorem dX7_reach_10 : decode cX7_reach 10 = .ok (.invokestatic 244, 3) := by decide +kernel
theorem dX7_reach_13 : decode cX7_reach 13 = .ok (.ireturn, 1) := by decide +kernel
theorem dX7_aim_0 : decode cX7_aim 0 = .ok (.aload_n 0, 1) := by decide +kernel
theorem dX7_aim_1 : decode cX7_aim 1 = .ok (.iload_n 1, 1) := by decide +kernel
theorem dX7_aim_2 : decode cX7_aim 2 = .ok (.invokevirtual 105, 3) := by decide +kernel
theorem dX7_aim_5 : decode cX7_aim 5 = .ok (.ifCond .eq 10, 3) := by decide +kernel
theorem dX7_aim_8 : decode cX7_aim 8 = .ok (.iload_n 2, 1) := by decide +kernel
theorem dX7_aim_9 : decode cX7_aim 9 = .ok (.invokestatic 83, 3) := by decide +kernel
theorem dX7_aim_12 : decode cX7_aim 12 = .ok (.ifCond .ne 5, 3) := by decide +kernel
theorem dX7_aim_15 : decode cX7_aim 15 = .ok (.iconst (-1), 1) := by decide +kernel
theorem dX7_aim_16 : decode cX7_aim 16 = .ok (.ireturn, 1) := by decide +kernel
theorem dX7_aim_17 : decode cX7_aim 17 = .ok (.aload_n 0, 1) := by decide +kernel
theorem dX7_aim_18 : decode cX7_aim 18 = .ok (.getfield 10, 3) := by decide +kernel
theorem dX7_aim_21 : decode cX7_aim 21 = .ok (.iload_n 1, 1) := by decide +kernel
theorem dX7_aim_22 : decode cX7_aim 22 = .ok (.invokevirtual 193, 3) := by decide +kernel
theorem dX7_aim_25 : decode cX7_aim 25 = .ok (.aload_n 0, 1) := by decide +kernel
theorem dX7_aim_26 : decode cX7_aim 26 = .ok (.getfield 10, 3) := by decide +kernel
theorem dX7_aim_29 : decode cX7_aim 29 = .ok (.getfield 46, 3) := by decide +kernel
theorem dX7_aim_32 : decode cX7_aim 32 = .ok (.iconst 2, 1) := by decide +kernel
theorem dX7_aim_33 : decode cX7_aim 33 = .ok (.aload_n 0, 1) := by decide +kernel
theorem dX7_aim_34 : decode cX7_aim 34 = .ok (.getfield 10, 3) := by decide +kernel
theorem dX7_aim_37 : decode cX7_aim 37 = .ok (.getfield 64, 3) := by decide +kernel
theorem dX7_aim_40 : decode cX7_aim 40 = .ok (.iconst 2, 1) := by decide +kernel
theorem dX7_aim_41 : decode cX7_aim 41 = .ok (.iload_n 1, 1) := by decide +kernel
theorem dX7_aim_42 : decode cX7_aim 42 = .ok (.invokevirtual 108, 3) := by decide +kernel
theorem dX7_aim_45 : decode cX7_aim 45 = .ok (.invokevirtual 249, 3) := by decide +kernel
theorem dX7_aim_48 : decode cX7_aim 48 = .ok (.ixor, 1) := by decide +kernel
theorem dX7_aim_49 : decode cX7_aim 49 = .ok (.istore_n 3, 1) := by decide +kernel
theorem dX7_aim_50 : decode cX7_aim 50 = .ok (.iconst 0, 1) := by decide +kernel
theorem dX7_aim_51 : decode cX7_aim 51 = .ok (.istore 4, 2) := by decide +kernel
theorem dX7_aim_53 : decode cX7_aim 53 = .ok (.iload 4, 2) := by decide +kernel
theorem dX7_aim_55 : decode cX7_aim 55 = .ok (.sipush 256, 3) := by decide +kernel
theorem dX7_aim_58 : decode cX7_aim 58 = .ok (.if_icmp .ge 34, 3) := by decide +kernel
theorem dX7_aim_61 : decode cX7_aim 61 = .ok (.iload_n 3, 1) := by decide +kernel
theorem dX7_aim_62 : decode cX7_aim 62 = .ok (.aload_n 0, 1) := by decide +kernel
theorem dX7_aim_63 : decode cX7_aim 63 = .ok (.getfield 10, 3) := by decide +kernel
theorem dX7_aim_66 : decode cX7_aim 66 = .ok (.getfield 46, 3) := by decide +kernel
theorem dX7_aim_69 : decode cX7_aim 69 = .ok (.iconst 2, 1) := by decide +kernel
theorem dX7_aim_70 : decode cX7_aim 70 = .ok (.iload 4, 2) := by decide +kernel
theorem dX7_aim_72 : decode cX7_aim 72 = .ok (.invokevirtual 249, 3) := by decide +kernel
theorem dX7_aim_75 : decode cX7_aim 75 = .ok (.ixor, 1) := by decide +kernel
theorem dX7_aim_76 : decode cX7_aim 76 = .ok (.invokestatic 252, 3) := by decide +kernel
theorem dX7_aim_79 : decode cX7_aim 79 = .ok (.iload_n 2, 1) := by decide +kernel
theorem dX7_aim_80 : decode cX7_aim 80 = .ok (.if_icmp .ne 6, 3) := by decide +kernel
theorem dX7_aim_83 : decode cX7_aim 83 = .ok (.iload 4, 2) := by decide +kernel
theorem dX7_aim_85 : decode cX7_aim 85 = .ok (.ireturn, 1) := by decide +kernel
theorem dX7_aim_86 : decode cX7_aim 86 = .ok (.iinc 4 1, 3) := by decide +kernel
theorem dX7_aim_89 : decode cX7_aim 89 = .ok (.goto (-36), 3) := by decide +kernel
theorem dX7_aim_92 : decode cX7_aim 92 = .ok (.iconst (-1), 1) := by decide +kernel
theorem dX7_aim_93 : decode cX7_aim 93 = .ok (.ireturn, 1) := by decide +kernel
theorem dX7_spread_0 : decode cX7_spread 0 = .ok (.iload_n 1, 1) := by decide +kernel
theorem dX7_spread_1 : decode cX7_spread 1 = .ok (.ifCond .lt 21, 3) := by decide +kernel
theorem dX7_spread_4 : decode cX7_spread 4 = .ok (.iload_n 1, 1) := by decide +kernel
theorem dX7_spread_5 : decode cX7_spread 5 = .ok (.iconst 1, 1) := by decide +kernel
theorem dX7_spread_6 : decode cX7_spread 6 = .ok (.if_icmp .gt 16, 3) := by decide +kernel
theorem dX7_spread_9 : decode cX7_spread 9 = .ok (.aload_n 0, 1) := by decide +kernel
theorem dX7_spread_10 : decode cX7_spread 10 = .ok (.getfield 10, 3) := by decide +kernel
theorem dX7_spread_13 : decode cX7_spread 13 = .ok (.getfield 64, 3) := by decide +kernel
theorem dX7_spread_16 : decode cX7_spread 16 = .ok (.getfield 77, 3) := by decide +kernel
theorem dX7_spread_19 : decode cX7_spread 19 = .ok (.ifCond .ne 5, 3) := by decide +kernel
theorem dX7_spread_22 : decode cX7_spread 22 = .ok (.iconst (-1), 1) := by decide +kernel
theorem dX7_spread_23 : decode cX7_spread 23 = .ok (.ireturn, 1) := by decide +kernel
theorem dX7_spread_24 : decode cX7_spread 24 = .ok (.iconst 0, 1) := by decide +kernel
theorem dX7_spread_25 : decode cX7_spread 25 = .ok (.istore_n 2, 1) := by decide +kernel
theorem dX7_spread_26 : decode cX7_spread 26 = .ok (.iload_n 2, 1) := by decide +kernel
theorem dX7_spread_27 : decode cX7_spread 27 = .ok (.aload_n 0, 1) := by decide +kernel
theorem dX7_spread_28 : decode cX7_spread 28 = .ok (.getfield 10, 3) := by decide +kernel
theorem dX7_spread_31 : decode cX7_spread 31 = .ok (.getfield 64, 3) := by decide +kernel
theorem dX7_spread_34 : decode cX7_spread 34 = .ok (.getfield 77, 3) := by decide +kernel
theorem dX7_spread_37 : decode cX7_spread 37 = .ok (.if_icmp .ge 23, 3) := by decide +kernel
theorem dX7_spread_40 : decode cX7_spread 40 = .ok (.aload_n 0, 1) := by decide +kernel
theorem dX7_spread_41 : decode cX7_spread 41 = .ok (.getfield 31, 3) := by decide +kernel
theorem dX7_spread_44 : decode cX7_spread 44 = .ok (.iload_n 2, 1) := by decide +kernel
theorem dX7_spread_45 : decode cX7_spread 45 = .ok (.aload_n 0, 1) := by decide +kernel
theorem dX7_spread_46 : decode cX7_spread 46 = .ok (.getfield 10, 3) := by decide +kernel
theorem dX7_spread_49 : decode cX7_spread 49 = .ok (.iload_n 2, 1) := by decide +kernel
theorem dX7_spread_50 : decode cX7_spread 50 = .ok (.invokevirtual 255, 3) := by decide +kernel
theorem dX7_spread_53 : decode cX7_spread 53 = .ok (.iastore, 1) := by decide +kernel
theorem dX7_spread_54 : decode cX7_spread 54 = .ok (.iinc 2 1, 3) := by decide +kernel
theorem dX7_spread_57 : decode cX7_spread 57 = .ok (.goto (-31), 3) := by decide +kernel
theorem dX7_spread_60 : decode cX7_spread 60 = .ok (.iconst 0, 1) := by decide +kernel
theorem dX7_spread_61 : decode cX7_spread 61 = .ok (.istore_n 2, 1) := by decide +kernel
theorem dX7_spread_62 : decode cX7_spread 62 = .ok (.iconst 0, 1) := by decide +kernel
theorem dX7_spread_63 : decode cX7_spread 63 = .ok (.istore_n 3, 1) := by decide +kernel
theorem dX7_spread_64 : decode cX7_spread 64 = .ok (.iconst 0, 1) := by decide +kernel
theorem dX7_spread_65 : decode cX7_spread 65 = .ok (.istore 4, 2) := by decide +kernel
theorem dX7_spread_67 : decode cX7_spread 67 = .ok (.iload 4, 2) := by decide +kernel
theorem dX7_spread_69 : decode cX7_spread 69 = .ok (.sipush 256, 3) := by decide +kernel
theorem dX7_spread_72 : decode cX7_spread 72 = .ok (.if_icmp .ge 29, 3) := by decide +kernel
theorem dX7_spread_75 : decode cX7_spread 75 = .ok (.aload_n 0, 1) := by decide +kernel
theorem dX7_spread_76 : decode cX7_spread 76 = .ok (.iload 4, 2) := by decide +kernel
theorem dX7_spread_78 : decode cX7_spread 78 = .ok (.invokevirtual 258, 3) := by decide +kernel
theorem dX7_spread_81 : decode cX7_spread 81 = .ok (.istore 5, 2) := by decide +kernel
theorem dX7_spread_83 : decode cX7_spread 83 = .ok (.iload 5, 2) := by decide +kernel
theorem dX7_spread_85 : decode cX7_spread 85 = .ok (.iload_n 3, 1) := by decide +kernel
theorem dX7_spread_86 : decode cX7_spread 86 = .ok (.if_icmp .le 9, 3) := by decide +kernel
theorem dX7_spread_89 : decode cX7_spread 89 = .ok (.iload 5, 2) := by decide +kernel
theorem dX7_spread_91 : decode cX7_spread 91 = .ok (.istore_n 3, 1) := by decide +kernel
theorem dX7_spread_92 : decode cX7_spread 92 = .ok (.iload 4, 2) := by decide +kernel
theorem dX7_spread_94 : decode cX7_spread 94 = .ok (.istore_n 2, 1) := by decide +kernel
theorem dX7_spread_95 : decode cX7_spread 95 = .ok (.iinc 4 1, 3) := by decide +kernel
theorem dX7_spread_98 : decode cX7_spread 98 = .ok (.goto (-31), 3) := by decide +kernel
theorem dX7_spread_101 : decode cX7_spread 101 = .ok (.iload_n 1, 1) := by decide +kernel
theorem dX7_spread_102 : decode cX7_spread 102 = .ok (.ifCond .ne 7, 3) := by decide +kernel
theorem dX7_spread_105 : decode cX7_spread 105 = .ok (.iload_n 2, 1) := by decide +kernel
theorem dX7_spread_106 : decode cX7_spread 106 = .ok (.goto 4, 3) := by decide +kernel
theorem dX7_spread_109 : decode cX7_spread 109 = .ok (.iload_n 3, 1) := by decide +kernel
theorem dX7_spread_110 : decode cX7_spread 110 = .ok (.ireturn, 1) := by decide +kernel
theorem dX7_ratio_0 : decode cX7_ratio 0 = .ok (.aload_n 0, 1) := by decide +kernel
theorem dX7_ratio_1 : decode cX7_ratio 1 = .ok (.getfield 10, 3) := by decide +kernel
theorem dX7_ratio_4 : decode cX7_ratio 4 = .ok (.getfield 154, 3) := by decide +kernel
theorem dX7_ratio_7 : decode cX7_ratio 7 = .ok (.getfield 158, 3) := by decide +kernel
theorem dX7_ratio_10 : decode cX7_ratio 10 = .ok (.iconst 0, 1) := by decide +kernel
theorem dX7_ratio_11 : decode cX7_ratio 11 = .ok (.laload, 1) := by decide +kernel
theorem dX7_ratio_12 : decode cX7_ratio 12 = .ok (.lstore_n 2, 1) := by decide +kernel
theorem dX7_ratio_13 : decode cX7_ratio 13 = .ok (.iload_n 1, 1) := by decide +kernel
theorem dX7_ratio_14 : decode cX7_ratio 14 = .ok (.ifCond .lt 14, 3) := by decide +kernel
theorem dX7_ratio_17 : decode cX7_ratio 17 = .ok (.iload_n 1, 1) := by decide +kernel
theorem dX7_ratio_18 : decode cX7_ratio 18 = .ok (.iconst 3, 1) := by decide +kernel
theorem dX7_ratio_19 : decode cX7_ratio 19 = .ok (.if_icmp .gt 9, 3) := by decide +kernel
theorem dX7_ratio_22 : decode cX7_ratio 22 = .ok (.lload_n 2, 1) := by decide +kernel
theorem dX7_ratio_23 : decode cX7_ratio 23 = .ok (.lconst 0, 1) := by decide +kernel
theorem dX7_ratio_24 : decode cX7_ratio 24 = .ok (.lcmp, 1) := by decide +kernel
theorem dX7_ratio_25 : decode cX7_ratio 25 = .ok (.ifCond .ne 7, 3) := by decide +kernel
theorem dX7_ratio_28 : decode cX7_ratio 28 = .ok (.ldc2_w 232, 3) := by decide +kernel
theorem dX7_ratio_31 : decode cX7_ratio 31 = .ok (.lreturn, 1) := by decide +kernel
theorem dX7_ratio_32 : decode cX7_ratio 32 = .ok (.aload_n 0, 1) := by decide +kernel
theorem dX7_ratio_33 : decode cX7_ratio 33 = .ok (.getfield 10, 3) := by decide +kernel
theorem dX7_ratio_36 : decode cX7_ratio 36 = .ok (.getfield 154, 3) := by decide +kernel
theorem dX7_ratio_39 : decode cX7_ratio 39 = .ok (.getfield 158, 3) := by decide +kernel
theorem dX7_ratio_42 : decode cX7_ratio 42 = .ok (.iconst 1, 1) := by decide +kernel
theorem dX7_ratio_43 : decode cX7_ratio 43 = .ok (.laload, 1) := by decide +kernel
theorem dX7_ratio_44 : decode cX7_ratio 44 = .ok (.lstore 4, 2) := by decide +kernel
theorem dX7_ratio_46 : decode cX7_ratio 46 = .ok (.iload_n 1, 1) := by decide +kernel
theorem dX7_ratio_47 : decode cX7_ratio 47 = .ok (.iconst 2, 1) := by decide +kernel
theorem dX7_ratio_48 : decode cX7_ratio 48 = .ok (.if_icmp .ge 18, 3) := by decide +kernel
theorem dX7_ratio_51 : decode cX7_ratio 51 = .ok (.aload_n 0, 1) := by decide +kernel
theorem dX7_ratio_52 : decode cX7_ratio 52 = .ok (.getfield 10, 3) := by decide +kernel
theorem dX7_ratio_55 : decode cX7_ratio 55 = .ok (.getfield 154, 3) := by decide +kernel
theorem dX7_ratio_58 : decode cX7_ratio 58 = .ok (.getfield 158, 3) := by decide +kernel
theorem dX7_ratio_61 : decode cX7_ratio 61 = .ok (.iconst 2, 1) := by decide +kernel
theorem dX7_ratio_62 : decode cX7_ratio 62 = .ok (.laload, 1) := by decide +kernel
theorem dX7_ratio_63 : decode cX7_ratio 63 = .ok (.goto 5, 3) := by decide +kernel
theorem dX7_ratio_66 : decode cX7_ratio 66 = .ok (.lload 4, 2) := by decide +kernel
theorem dX7_ratio_68 : decode cX7_ratio 68 = .ok (.lstore 6, 2) := by decide +kernel
theorem dX7_ratio_70 : decode cX7_ratio 70 = .ok (.iload_n 1, 1) := by decide +kernel
theorem dX7_ratio_71 : decode cX7_ratio 71 = .ok (.iconst 2, 1) := by decide +kernel
theorem dX7_ratio_72 : decode cX7_ratio 72 = .ok (.if_icmp .ge 8, 3) := by decide +kernel
theorem dX7_ratio_75 : decode cX7_ratio 75 = .ok (.lload 4, 2) := by decide +kernel
theorem dX7_ratio_77 : decode cX7_ratio 77 = .ok (.goto 4, 3) := by decide +kernel
theorem dX7_ratio_80 : decode cX7_ratio 80 = .ok (.lload_n 2, 1) := by decide +kernel
theorem dX7_ratio_81 : decode cX7_ratio 81 = .ok (.lstore 8, 2) := by decide +kernel
theorem dX7_ratio_83 : decode cX7_ratio 83 = .ok (.iload_n 1, 1) := by decide +kernel
theorem dX7_ratio_84 : decode cX7_ratio 84 = .ok (.iconst 2, 1) := by decide +kernel
theorem dX7_ratio_85 : decode cX7_ratio 85 = .ok (.irem, 1) := by decide +kernel
theorem dX7_ratio_86 : decode cX7_ratio 86 = .ok (.ifCond .ne 8, 3) := by decide +kernel
theorem dX7_ratio_89 : decode cX7_ratio 89 = .ok (.lload 6, 2) := by decide +kernel
theorem dX7_ratio_91 : decode cX7_ratio 91 = .ok (.goto 5, 3) := by decide +kernel
theorem dX7_ratio_94 : decode cX7_ratio 94 = .ok (.lload 8, 2) := by decide +kernel
theorem dX7_ratio_96 : decode cX7_ratio 96 = .ok (.lstore 10, 2) := by decide +kernel
theorem dX7_ratio_98 : decode cX7_ratio 98 = .ok (.lload 10, 2) := by decide +kernel
theorem dX7_ratio_100 : decode cX7_ratio 100 = .ok (.lload 6, 2) := by decide +kernel
theorem dX7_ratio_102 : decode cX7_ratio 102 = .ok (.lload 8, 2) := by decide +kernel
theorem dX7_ratio_104 : decode cX7_ratio 104 = .ok (.invokestatic 261, 3) := by decide +kernel
theorem dX7_ratio_107 : decode cX7_ratio 107 = .ok (.ldiv, 1) := by decide +kernel
theorem dX7_ratio_108 : decode cX7_ratio 108 = .ok (.lreturn, 1) := by decide +kernel
theorem dX7_alike_0 : decode cX7_alike 0 = .ok (.iconst 0, 1) := by decide +kernel
theorem dX7_alike_1 : decode cX7_alike 1 = .ok (.istore_n 1, 1) := by decide +kernel
theorem dX7_alike_2 : decode cX7_alike 2 = .ok (.iload_n 1, 1) := by decide +kernel
theorem dX7_alike_3 : decode cX7_alike 3 = .ok (.aload_n 0, 1) := by decide +kernel
theorem dX7_alike_4 : decode cX7_alike 4 = .ok (.getfield 10, 3) := by decide +kernel
theorem dX7_alike_7 : decode cX7_alike 7 = .ok (.getfield 64, 3) := by decide +kernel
theorem dX7_alike_10 : decode cX7_alike 10 = .ok (.getfield 77, 3) := by decide +kernel
theorem dX7_alike_13 : decode cX7_alike 13 = .ok (.if_icmp .ge 23, 3) := by decide +kernel
theorem dX7_alike_16 : decode cX7_alike 16 = .ok (.aload_n 0, 1) := by decide +kernel
theorem dX7_alike_17 : decode cX7_alike 17 = .ok (.getfield 31, 3) := by decide +kernel
theorem dX7_alike_20 : decode cX7_alike 20 = .ok (.iload_n 1, 1) := by decide +kernel
theorem dX7_alike_21 : decode cX7_alike 21 = .ok (.aload_n 0, 1) := by decide +kernel
theorem dX7_alike_22 : decode cX7_alike 22 = .ok (.getfield 10, 3) := by decide +kernel
theorem dX7_alike_25 : decode cX7_alike 25 = .ok (.iload_n 1, 1) := by decide +kernel
theorem dX7_alike_26 : decode cX7_alike 26 = .ok (.invokevirtual 193, 3) := by decide +kernel
theorem dX7_alike_29 : decode cX7_alike 29 = .ok (.iastore, 1) := by decide +kernel
theorem dX7_alike_30 : decode cX7_alike 30 = .ok (.iinc 1 1, 3) := by decide +kernel
theorem dX7_alike_33 : decode cX7_alike 33 = .ok (.goto (-31), 3) := by decide +kernel
theorem dX7_alike_36 : decode cX7_alike 36 = .ok (.iconst 0, 1) := by decide +kernel
theorem dX7_alike_37 : decode cX7_alike 37 = .ok (.istore_n 1, 1) := by decide +kernel
theorem dX7_alike_38 : decode cX7_alike 38 = .ok (.iload_n 1, 1) := by decide +kernel
theorem dX7_alike_39 : decode cX7_alike 39 = .ok (.aload_n 0, 1) := by decide +kernel
theorem dX7_alike_40 : decode cX7_alike 40 = .ok (.getfield 10, 3) := by decide +kernel
theorem dX7_alike_43 : decode cX7_alike 43 = .ok (.getfield 64, 3) := by decide +kernel
theorem dX7_alike_46 : decode cX7_alike 46 = .ok (.getfield 77, 3) := by decide +kernel
theorem dX7_alike_49 : decode cX7_alike 49 = .ok (.if_icmp .ge 55, 3) := by decide +kernel
theorem dX7_alike_52 : decode cX7_alike 52 = .ok (.iload_n 1, 1) := by decide +kernel
theorem dX7_alike_53 : decode cX7_alike 53 = .ok (.iconst 1, 1) := by decide +kernel
theorem dX7_alike_54 : decode cX7_alike 54 = .ok (.iadd, 1) := by decide +kernel
theorem dX7_alike_55 : decode cX7_alike 55 = .ok (.istore_n 2, 1) := by decide +kernel
theorem dX7_alike_56 : decode cX7_alike 56 = .ok (.iload_n 2, 1) := by decide +kernel
theorem dX7_alike_57 : decode cX7_alike 57 = .ok (.aload_n 0, 1) := by decide +kernel
theorem dX7_alike_58 : decode cX7_alike 58 = .ok (.getfield 10, 3) := by decide +kernel
theorem dX7_alike_61 : decode cX7_alike 61 = .ok (.getfield 64, 3) := by decide +kernel
theorem dX7_alike_64 : decode cX7_alike 64 = .ok (.getfield 77, 3) := by decide +kernel
theorem dX7_alike_67 : decode cX7_alike 67 = .ok (.if_icmp .ge 31, 3) := by decide +kernel
theorem dX7_alike_70 : decode cX7_alike 70 = .ok (.aload_n 0, 1) := by decide +kernel
theorem dX7_alike_71 : decode cX7_alike 71 = .ok (.getfield 31, 3) := by decide +kernel
theorem dX7_alike_74 : decode cX7_alike 74 = .ok (.iload_n 2, 1) := by decide +kernel
theorem dX7_alike_75 : decode cX7_alike 75 = .ok (.iaload, 1) := by decide +kernel
theorem dX7_alike_76 : decode cX7_alike 76 = .ok (.aload_n 0, 1) := by decide +kernel
theorem dX7_alike_77 : decode cX7_alike 77 = .ok (.getfield 31, 3) := by decide +kernel
theorem dX7_alike_80 : decode cX7_alike 80 = .ok (.iload_n 1, 1) := by decide +kernel
theorem dX7_alike_81 : decode cX7_alike 81 = .ok (.iaload, 1) := by decide +kernel
theorem dX7_alike_82 : decode cX7_alike 82 = .ok (.if_icmp .ne 10, 3) := by decide +kernel
theorem dX7_alike_85 : decode cX7_alike 85 = .ok (.bipush 100, 2) := by decide +kernel
theorem dX7_alike_87 : decode cX7_alike 87 = .ok (.iload_n 1, 1) := by decide +kernel
theorem dX7_alike_88 : decode cX7_alike 88 = .ok (.imul, 1) := by decide +kernel
theorem dX7_alike_89 : decode cX7_alike 89 = .ok (.iload_n 2, 1) := by decide +kernel
theorem dX7_alike_90 : decode cX7_alike 90 = .ok (.iadd, 1) := by decide +kernel
theorem dX7_alike_91 : decode cX7_alike 91 = .ok (.ireturn, 1) := by decide +kernel
theorem dX7_alike_92 : decode cX7_alike 92 = .ok (.iinc 2 1, 3) := by decide +kernel
theorem dX7_alike_95 : decode cX7_alike 95 = .ok (.goto (-39), 3) := by decide +kernel
theorem dX7_alike_98 : decode cX7_alike 98 = .ok (.iinc 1 1, 3) := by decide +kernel
theorem dX7_alike_101 : decode cX7_alike 101 = .ok (.goto (-63), 3) := by decide +kernel
theorem dX7_alike_104 : decode cX7_alike 104 = .ok (.iconst (-1), 1) := by decide +kernel
theorem dX7_alike_105 : decode cX7_alike 105 = .ok (.ireturn, 1) := by decide +kernel
theorem dX7_load_0 : decode cX7_load 0 = .ok (.iload_n 1, 1) := by decide +kernel
theorem dX7_load_1 : decode cX7_load 1 = .ok (.tableswitch 67 0 2 #[27, 38, 49], 27) := by decide +kernel
theorem dX7_load_28 : decode cX7_load 28 = .ok (.aload_n 0, 1) := by decide +kernel
theorem dX7_load_29 : decode cX7_load 29 = .ok (.getfield 10, 3) := by decide +kernel
theorem dX7_load_32 : decode cX7_load 32 = .ok (.getfield 89, 3) := by decide +kernel
theorem dX7_load_35 : decode cX7_load 35 = .ok (.invokevirtual 265, 3) := by decide +kernel
theorem dX7_load_38 : decode cX7_load 38 = .ok (.ireturn, 1) := by decide +kernel
theorem dX7_load_39 : decode cX7_load 39 = .ok (.aload_n 0, 1) := by decide +kernel
theorem dX7_load_40 : decode cX7_load 40 = .ok (.getfield 10, 3) := by decide +kernel
theorem dX7_load_43 : decode cX7_load 43 = .ok (.getfield 89, 3) := by decide +kernel
theorem dX7_load_46 : decode cX7_load 46 = .ok (.invokevirtual 268, 3) := by decide +kernel
theorem dX7_load_49 : decode cX7_load 49 = .ok (.ireturn, 1) := by decide +kernel
theorem dX7_load_50 : decode cX7_load 50 = .ok (.aload_n 0, 1) := by decide +kernel
theorem dX7_load_51 : decode cX7_load 51 = .ok (.invokevirtual 271, 3) := by decide +kernel
theorem dX7_load_54 : decode cX7_load 54 = .ok (.getfield 89, 3) := by decide +kernel
theorem dX7_load_57 : decode cX7_load 57 = .ok (.astore_n 2, 1) := by decide +kernel
theorem dX7_load_58 : decode cX7_load 58 = .ok (.aload_n 2, 1) := by decide +kernel
theorem dX7_load_59 : decode cX7_load 59 = .ok (.invokevirtual 98, 3) := by decide +kernel
theorem dX7_load_62 : decode cX7_load 62 = .ok (.pop, 1) := by decide +kernel
theorem dX7_load_63 : decode cX7_load 63 = .ok (.aload_n 2, 1) := by decide +kernel
theorem dX7_load_64 : decode cX7_load 64 = .ok (.invokevirtual 265, 3) := by decide +kernel
theorem dX7_load_67 : decode cX7_load 67 = .ok (.ireturn, 1) := by decide +kernel
theorem dX7_load_68 : decode cX7_load 68 = .ok (.iconst (-1), 1) := by decide +kernel
theorem dX7_load_69 : decode cX7_load 69 = .ok (.ireturn, 1) := by decide +kernel
theorem dX7_would_0 : decode cX7_would 0 = .ok (.iload_n 1, 1) := by decide +kernel
theorem dX7_would_1 : decode cX7_would 1 = .ok (.iconst 1, 1) := by decide +kernel
theorem dX7_would_2 : decode cX7_would 2 = .ok (.if_icmp .lt 32, 3) := by decide +kernel
theorem dX7_would_5 : decode cX7_would 5 = .ok (.iload_n 1, 1) := by decide +kernel
theorem dX7_would_6 : decode cX7_would 6 = .ok (.bipush 100, 2) := by decide +kernel
theorem dX7_would_8 : decode cX7_would 8 = .ok (.if_icmp .gt 26, 3) := by decide +kernel
theorem dX7_would_11 : decode cX7_would 11 = .ok (.iload_n 2, 1) := by decide +kernel
theorem dX7_would_12 : decode cX7_would 12 = .ok (.ifCond .lt 22, 3) := by decide +kernel
theorem dX7_would_15 : decode cX7_would 15 = .ok (.iload_n 2, 1) := by decide +kernel
theorem dX7_would_16 : decode cX7_would 16 = .ok (.iconst 3, 1) := by decide +kernel
theorem dX7_would_17 : decode cX7_would 17 = .ok (.if_icmp .gt 17, 3) := by decide +kernel
theorem dX7_would_20 : decode cX7_would 20 = .ok (.aload_n 0, 1) := by decide +kernel
theorem dX7_would_21 : decode cX7_would 21 = .ok (.getfield 10, 3) := by decide +kernel
theorem dX7_would_24 : decode cX7_would 24 = .ok (.getfield 119, 3) := by decide +kernel
theorem dX7_would_27 : decode cX7_would 27 = .ok (.iload_n 1, 1) := by decide +kernel
theorem dX7_would_28 : decode cX7_would 28 = .ok (.iadd, 1) := by decide +kernel
theorem dX7_would_29 : decode cX7_would 29 = .ok (.ldc 153, 2) := by decide +kernel
theorem dX7_would_31 : decode cX7_would 31 = .ok (.if_icmp .le 5, 3) := by decide +kernel
theorem dX7_would_34 : decode cX7_would 34 = .ok (.iconst (-1), 1) := by decide +kernel
theorem dX7_would_35 : decode cX7_would 35 = .ok (.ireturn, 1) := by decide +kernel
theorem dX7_would_36 : decode cX7_would 36 = .ok (.aload_n 0, 1) := by decide +kernel
theorem dX7_would_37 : decode cX7_would 37 = .ok (.invokevirtual 271, 3) := by decide +kernel
theorem dX7_would_40 : decode cX7_would 40 = .ok (.astore_n 3, 1) := by decide +kernel
theorem dX7_would_41 : decode cX7_would 41 = .ok (.iconst 0, 1) := by decide +kernel
theorem dX7_would_42 : decode cX7_would 42 = .ok (.istore 4, 2) := by decide +kernel
theorem dX7_would_44 : decode cX7_would 44 = .ok (.iload 4, 2) := by decide +kernel
theorem dX7_would_46 : decode cX7_would 46 = .ok (.iload_n 1, 1) := by decide +kernel
theorem dX7_would_47 : decode cX7_would 47 = .ok (.if_icmp .ge 13, 3) := by decide +kernel
theorem dX7_would_50 : decode cX7_would 50 = .ok (.aload_n 3, 1) := by decide +kernel
theorem dX7_would_51 : decode cX7_would 51 = .ok (.invokevirtual 164, 3) := by decide +kernel
theorem dX7_would_54 : decode cX7_would 54 = .ok (.iinc 4 1, 3) := by decide +kernel
theorem dX7_would_57 : decode cX7_would 57 = .ok (.goto (-13), 3) := by decide +kernel
theorem dX7_would_60 : decode cX7_would 60 = .ok (.iload_n 2, 1) := by decide +kernel
theorem dX7_would_61 : decode cX7_would 61 = .ok (.tableswitch 69 0 2 #[27, 32, 56], 27) := by decide +kernel
theorem dX7_would_88 : decode cX7_would 88 = .ok (.aload_n 3, 1) := by decide +kernel
theorem dX7_would_89 : decode cX7_would 89 = .ok (.invokevirtual 275, 3) := by decide +kernel
theorem dX7_would_92 : decode cX7_would 92 = .ok (.ireturn, 1) := by decide +kernel
theorem dX7_would_93 : decode cX7_would 93 = .ok (.aload_n 3, 1) := by decide +kernel
theorem dX7_would_94 : decode cX7_would 94 = .ok (.getfield 154, 3) := by decide +kernel
theorem dX7_would_97 : decode cX7_would 97 = .ok (.getfield 158, 3) := by decide +kernel
theorem dX7_would_100 : decode cX7_would 100 = .ok (.iconst 0, 1) := by decide +kernel
theorem dX7_would_101 : decode cX7_would 101 = .ok (.laload, 1) := by decide +kernel
theorem dX7_would_102 : decode cX7_would 102 = .ok (.aload_n 0, 1) := by decide +kernel
theorem dX7_would_103 : decode cX7_would 103 = .ok (.getfield 10, 3) := by decide +kernel
theorem dX7_would_106 : decode cX7_would 106 = .ok (.getfield 154, 3) := by decide +kernel
theorem dX7_would_109 : decode cX7_would 109 = .ok (.getfield 158, 3) := by decide +kernel
theorem dX7_would_112 : decode cX7_would 112 = .ok (.iconst 0, 1) := by decide +kernel
theorem dX7_would_113 : decode cX7_would 113 = .ok (.laload, 1) := by decide +kernel
theorem dX7_would_114 : decode cX7_would 114 = .ok (.lsub, 1) := by decide +kernel
theorem dX7_would_115 : decode cX7_would 115 = .ok (.l2i, 1) := by decide +kernel
theorem dX7_would_116 : decode cX7_would 116 = .ok (.ireturn, 1) := by decide +kernel
theorem dX7_would_117 : decode cX7_would 117 = .ok (.aload_n 3, 1) := by decide +kernel
theorem dX7_would_118 : decode cX7_would 118 = .ok (.invokevirtual 278, 3) := by decide +kernel
theorem dX7_would_121 : decode cX7_would 121 = .ok (.aload_n 0, 1) := by decide +kernel
theorem dX7_would_122 : decode cX7_would 122 = .ok (.getfield 10, 3) := by decide +kernel
theorem dX7_would_125 : decode cX7_would 125 = .ok (.invokevirtual 278, 3) := by decide +kernel
theorem dX7_would_128 : decode cX7_would 128 = .ok (.isub, 1) := by decide +kernel
theorem dX7_would_129 : decode cX7_would 129 = .ok (.ireturn, 1) := by decide +kernel
theorem dX7_would_130 : decode cX7_would 130 = .ok (.aload_n 3, 1) := by decide +kernel
theorem dX7_would_131 : decode cX7_would 131 = .ok (.getfield 64, 3) := by decide +kernel
theorem dX7_would_134 : decode cX7_would 134 = .ok (.invokevirtual 281, 3) := by decide +kernel
theorem dX7_would_137 : decode cX7_would 137 = .ok (.ireturn, 1) := by decide +kernel
theorem dX7_drain_0 : decode cX7_drain 0 = .ok (.aload_n 0, 1) := by decide +kernel
theorem dX7_drain_1 : decode cX7_drain 1 = .ok (.invokevirtual 271, 3) := by decide +kernel
theorem dX7_drain_4 : decode cX7_drain 4 = .ok (.astore_n 1, 1) := by decide +kernel
theorem dX7_drain_5 : decode cX7_drain 5 = .ok (.iconst 0, 1) := by decide +kernel
theorem dX7_drain_6 : decode cX7_drain 6 = .ok (.istore_n 2, 1) := by decide +kernel
theorem dX7_drain_7 : decode cX7_drain 7 = .ok (.iload_n 2, 1) := by decide +kernel
theorem dX7_drain_8 : decode cX7_drain 8 = .ok (.sipush 200, 3) := by decide +kernel
theorem dX7_drain_11 : decode cX7_drain 11 = .ok (.if_icmp .gt 33, 3) := by decide +kernel
theorem dX7_drain_14 : decode cX7_drain 14 = .ok (.aload_n 1, 1) := by decide +kernel
theorem dX7_drain_15 : decode cX7_drain 15 = .ok (.invokevirtual 275, 3) := by decide +kernel
theorem dX7_drain_18 : decode cX7_drain 18 = .ok (.ifCond .ne 5, 3) := by decide +kernel
theorem dX7_drain_21 : decode cX7_drain 21 = .ok (.iload_n 2, 1) := by decide +kernel
theorem dX7_drain_22 : decode cX7_drain 22 = .ok (.ireturn, 1) := by decide +kernel
theorem dX7_drain_23 : decode cX7_drain 23 = .ok (.aload_n 1, 1) := by decide +kernel
theorem dX7_drain_24 : decode cX7_drain 24 = .ok (.getfield 119, 3) := by decide +kernel
theorem dX7_drain_27 : decode cX7_drain 27 = .ok (.ldc 153, 2) := by decide +kernel
theorem dX7_drain_29 : decode cX7_drain 29 = .ok (.if_icmp .lt 5, 3) := by decide +kernel
theorem dX7_drain_32 : decode cX7_drain 32 = .ok (.iconst (-1), 1) := by decide +kernel
theorem dX7_drain_33 : decode cX7_drain 33 = .ok (.ireturn, 1) := by decide +kernel
theorem dX7_drain_34 : decode cX7_drain 34 = .ok (.aload_n 1, 1) := by decide +kernel
theorem dX7_drain_35 : decode cX7_drain 35 = .ok (.invokevirtual 164, 3) := by decide +kernel
theorem dX7_drain_38 : decode cX7_drain 38 = .ok (.iinc 2 1, 3) := by decide +kernel
theorem dX7_drain_41 : decode cX7_drain 41 = .ok (.goto (-34), 3) := by decide +kernel
theorem dX7_drain_44 : decode cX7_drain 44 = .ok (.iconst (-1), 1) := by decide +kernel
theorem dX7_drain_45 : decode cX7_drain 45 = .ok (.ireturn, 1) := by decide +kernel
theorem dX7_nextCall_0 : decode cX7_nextCall 0 = .ok (.iload_n 1, 1) := by decide +kernel
theorem dX7_nextCall_1 : decode cX7_nextCall 1 = .ok (.invokestatic 86, 3) := by decide +kernel
theorem dX7_nextCall_4 : decode cX7_nextCall 4 = .ok (.ifCond .eq 18, 3) := by decide +kernel
theorem dX7_nextCall_7 : decode cX7_nextCall 7 = .ok (.aload_n 0, 1) := by decide +kernel
theorem dX7_nextCall_8 : decode cX7_nextCall 8 = .ok (.getfield 10, 3) := by decide +kernel
theorem dX7_nextCall_11 : decode cX7_nextCall 11 = .ok (.getfield 167, 3) := by decide +kernel
theorem dX7_nextCall_14 : decode cX7_nextCall 14 = .ok (.iload_n 1, 1) := by decide +kernel
theorem dX7_nextCall_15 : decode cX7_nextCall 15 = .ok (.aaload, 1) := by decide +kernel
theorem dX7_nextCall_16 : decode cX7_nextCall 16 = .ok (.getfield 171, 3) := by decide +kernel
theorem dX7_nextCall_19 : decode cX7_nextCall 19 = .ok (.ifCond .ne 5, 3) := by decide +kernel
theorem dX7_nextCall_22 : decode cX7_nextCall 22 = .ok (.iconst (-1), 1) := by decide +kernel
theorem dX7_nextCall_23 : decode cX7_nextCall 23 = .ok (.ireturn, 1) := by decide +kernel
theorem dX7_nextCall_24 : decode cX7_nextCall 24 = .ok (.aload_n 0, 1) := by decide +kernel
theorem dX7_nextCall_25 : decode cX7_nextCall 25 = .ok (.invokevirtual 271, 3) := by decide +kernel
theorem dX7_nextCall_28 : decode cX7_nextCall 28 = .ok (.astore_n 2, 1) := by decide +kernel
theorem dX7_nextCall_29 : decode cX7_nextCall 29 = .ok (.aload_n 0, 1) := by decide +kernel
theorem dX7_nextCall_30 : decode cX7_nextCall 30 = .ok (.getfield 10, 3) := by decide +kernel
theorem dX7_nextCall_33 : decode cX7_nextCall 33 = .ok (.getfield 167, 3) := by decide +kernel
theorem dX7_nextCall_36 : decode cX7_nextCall 36 = .ok (.iload_n 1, 1) := by decide +kernel
theorem dX7_nextCall_37 : decode cX7_nextCall 37 = .ok (.aaload, 1) := by decide +kernel
theorem dX7_nextCall_38 : decode cX7_nextCall 38 = .ok (.getfield 284, 3) := by decide +kernel
theorem dX7_nextCall_41 : decode cX7_nextCall 41 = .ok (.istore_n 3, 1) := by decide +kernel
theorem dX7_nextCall_42 : decode cX7_nextCall 42 = .ok (.iconst 1, 1) := by decide +kernel
theorem dX7_nextCall_43 : decode cX7_nextCall 43 = .ok (.istore 4, 2) := by decide +kernel
theorem dX7_nextCall_45 : decode cX7_nextCall 45 = .ok (.iload 4, 2) := by decide +kernel
theorem dX7_nextCall_47 : decode cX7_nextCall 47 = .ok (.ldc 153, 2) := by decide +kernel
theorem dX7_nextCall_49 : decode cX7_nextCall 49 = .ok (.aload_n 0, 1) := by decide +kernel
theorem dX7_nextCall_50 : decode cX7_nextCall 50 = .ok (.getfield 10, 3) := by decide +kernel
theorem dX7_nextCall_53 : decode cX7_nextCall 53 = .ok (.getfield 119, 3) := by decide +kernel
theorem dX7_nextCall_56 : decode cX7_nextCall 56 = .ok (.isub, 1) := by decide +kernel
theorem dX7_nextCall_57 : decode cX7_nextCall 57 = .ok (.if_icmp .gt 29, 3) := by decide +kernel
theorem dX7_nextCall_60 : decode cX7_nextCall 60 = .ok (.aload_n 2, 1) := by decide +kernel
theorem dX7_nextCall_61 : decode cX7_nextCall 61 = .ok (.invokevirtual 164, 3) := by decide +kernel
theorem dX7_nextCall_64 : decode cX7_nextCall 64 = .ok (.aload_n 2, 1) := by decide +kernel
theorem dX7_nextCall_65 : decode cX7_nextCall 65 = .ok (.getfield 167, 3) := by decide +kernel
theorem dX7_nextCall_68 : decode cX7_nextCall 68 = .ok (.iload_n 1, 1) := by decide +kernel
theorem dX7_nextCall_69 : decode cX7_nextCall 69 = .ok (.aaload, 1) := by decide +kernel
theorem dX7_nextCall_70 : decode cX7_nextCall 70 = .ok (.getfield 284, 3) := by decide +kernel
theorem dX7_nextCall_73 : decode cX7_nextCall 73 = .ok (.iload_n 3, 1) := by decide +kernel
theorem dX7_nextCall_74 : decode cX7_nextCall 74 = .ok (.if_icmp .eq 6, 3) := by decide +kernel
theorem dX7_nextCall_77 : decode cX7_nextCall 77 = .ok (.iload 4, 2) := by decide +kernel
theorem dX7_nextCall_79 : decode cX7_nextCall 79 = .ok (.ireturn, 1) := by decide +kernel
theorem dX7_nextCall_80 : decode cX7_nextCall 80 = .ok (.iinc 4 1, 3) := by decide +kernel
theorem dX7_nextCall_83 : decode cX7_nextCall 83 = .ok (.goto (-38), 3) := by decide +kernel
theorem dX7_nextCall_86 : decode cX7_nextCall 86 = .ok (.iconst (-1), 1) := by decide +kernel
theorem dX7_nextCall_87 : decode cX7_nextCall 87 = .ok (.ireturn, 1) := by decide +kernel
theorem dX7_joined_0 : decode cX7_joined 0 = .ok (.iload_n 1, 1) := by decide +kernel
theorem dX7_joined_1 : decode cX7_joined 1 = .ok (.invokestatic 86, 3) := by decide +kernel
theorem dX7_joined_4 : decode cX7_joined 4 = .ok (.ifCond .eq 12, 3) := by decide +kernel
theorem dX7_joined_7 : decode cX7_joined 7 = .ok (.iload_n 2, 1) := by decide +kernel
theorem dX7_joined_8 : decode cX7_joined 8 = .ok (.ifCond .lt 8, 3) := by decide +kernel
theorem dX7_joined_11 : decode cX7_joined 11 = .ok (.iload_n 2, 1) := by decide +kernel
theorem dX7_joined_12 : decode cX7_joined 12 = .ok (.iconst 2, 1) := by decide +kernel
theorem dX7_joined_13 : decode cX7_joined 13 = .ok (.if_icmp .le 5, 3) := by decide +kernel
theorem dX7_joined_16 : decode cX7_joined 16 = .ok (.iconst (-1), 1) := by decide +kernel
theorem dX7_joined_17 : decode cX7_joined 17 = .ok (.ireturn, 1) := by decide +kernel
theorem dX7_joined_18 : decode cX7_joined 18 = .ok (.aload_n 0, 1) := by decide +kernel
theorem dX7_joined_19 : decode cX7_joined 19 = .ok (.invokevirtual 271, 3) := by decide +kernel
theorem dX7_joined_22 : decode cX7_joined 22 = .ok (.astore_n 3, 1) := by decide +kernel
theorem dX7_joined_23 : decode cX7_joined 23 = .ok (.iload_n 2, 1) := by decide +kernel
theorem dX7_joined_24 : decode cX7_joined 24 = .ok (.ifCond .eq 27, 3) := by decide +kernel
theorem dX7_joined_27 : decode cX7_joined 27 = .ok (.aload_n 3, 1) := by decide +kernel
theorem dX7_joined_28 : decode cX7_joined 28 = .ok (.getfield 135, 3) := by decide +kernel
theorem dX7_joined_31 : decode cX7_joined 31 = .ok (.iconst 3, 1) := by decide +kernel
theorem dX7_joined_32 : decode cX7_joined 32 = .ok (.iload_n 2, 1) := by decide +kernel
theorem dX7_joined_33 : decode cX7_joined 33 = .ok (.iconst 1, 1) := by decide +kernel
theorem dX7_joined_34 : decode cX7_joined 34 = .ok (.if_icmp .ne 11, 3) := by decide +kernel
theorem dX7_joined_37 : decode cX7_joined 37 = .ok (.getstatic 132, 3) := by decide +kernel
theorem dX7_joined_40 : decode cX7_joined 40 = .ok (.iconst 3, 1) := by decide +kernel
theorem dX7_joined_41 : decode cX7_joined 41 = .ok (.iaload, 1) := by decide +kernel
theorem dX7_joined_42 : decode cX7_joined 42 = .ok (.goto 8, 3) := by decide +kernel
theorem dX7_joined_45 : decode cX7_joined 45 = .ok (.getstatic 129, 3) := by decide +kernel
theorem dX7_joined_48 : decode cX7_joined 48 = .ok (.iconst 3, 1) := by decide +kernel
theorem dX7_joined_49 : decode cX7_joined 49 = .ok (.iaload, 1) := by decide +kernel
theorem dX7_joined_50 : decode cX7_joined 50 = .ok (.iastore, 1) := by decide +kernel
theorem dX7_joined_51 : decode cX7_joined 51 = .ok (.iconst 0, 1) := by decide +kernel
theorem dX7_joined_52 : decode cX7_joined 52 = .ok (.istore 4, 2) := by decide +kernel
theorem dX7_joined_54 : decode cX7_joined 54 = .ok (.iload 4, 2) := by decide +kernel
theorem dX7_joined_56 : decode cX7_joined 56 = .ok (.aload_n 0, 1) := by decide +kernel
theorem dX7_joined_57 : decode cX7_joined 57 = .ok (.getfield 10, 3) := by decide +kernel
theorem dX7_joined_60 : decode cX7_joined 60 = .ok (.getfield 167, 3) := by decide +kernel
theorem dX7_joined_63 : decode cX7_joined 63 = .ok (.iload_n 1, 1) := by decide +kernel
theorem dX7_joined_64 : decode cX7_joined 64 = .ok (.aaload, 1) := by decide +kernel
theorem dX7_joined_65 : decode cX7_joined 65 = .ok (.getfield 171, 3) := by decide +kernel
theorem dX7_joined_68 : decode cX7_joined 68 = .ok (.if_icmp .ge 15, 3) := by decide +kernel
theorem dX7_joined_71 : decode cX7_joined 71 = .ok (.aload_n 3, 1) := by decide +kernel
theorem dX7_joined_72 : decode cX7_joined 72 = .ok (.iload_n 1, 1) := by decide +kernel
theorem dX7_joined_73 : decode cX7_joined 73 = .ok (.invokevirtual 174, 3) := by decide +kernel
theorem dX7_joined_76 : decode cX7_joined 76 = .ok (.pop, 1) := by decide +kernel
theorem dX7_joined_77 : decode cX7_joined 77 = .ok (.iinc 4 16, 3) := by decide +kernel
theorem dX7_joined_80 : decode cX7_joined 80 = .ok (.goto (-26), 3) := by decide +kernel
theorem dX7_joined_83 : decode cX7_joined 83 = .ok (.aload_n 3, 1) := by decide +kernel
theorem dX7_joined_84 : decode cX7_joined 84 = .ok (.getfield 154, 3) := by decide +kernel
theorem dX7_joined_87 : decode cX7_joined 87 = .ok (.getfield 158, 3) := by decide +kernel
theorem dX7_joined_90 : decode cX7_joined 90 = .ok (.iconst 0, 1) := by decide +kernel
theorem dX7_joined_91 : decode cX7_joined 91 = .ok (.laload, 1) := by decide +kernel
theorem dX7_joined_92 : decode cX7_joined 92 = .ok (.aload_n 0, 1) := by decide +kernel
theorem dX7_joined_93 : decode cX7_joined 93 = .ok (.getfield 10, 3) := by decide +kernel
theorem dX7_joined_96 : decode cX7_joined 96 = .ok (.getfield 154, 3) := by decide +kernel
theorem dX7_joined_99 : decode cX7_joined 99 = .ok (.getfield 158, 3) := by decide +kernel
theorem dX7_joined_102 : decode cX7_joined 102 = .ok (.iconst 0, 1) := by decide +kernel
theorem dX7_joined_103 : decode cX7_joined 103 = .ok (.laload, 1) := by decide +kernel
theorem dX7_joined_104 : decode cX7_joined 104 = .ok (.lsub, 1) := by decide +kernel
theorem dX7_joined_105 : decode cX7_joined 105 = .ok (.l2i, 1) := by decide +kernel
theorem dX7_joined_106 : decode cX7_joined 106 = .ok (.ireturn, 1) := by decide +kernel
theorem dX7_count_0 : decode cX7_count 0 = .ok (.iload_n 1, 1) := by decide +kernel
theorem dX7_count_1 : decode cX7_count 1 = .ok (.bipush 10, 2) := by decide +kernel
theorem dX7_count_3 : decode cX7_count 3 = .ok (.if_icmp .lt 15, 3) := by decide +kernel
theorem dX7_count_6 : decode cX7_count 6 = .ok (.iload_n 1, 1) := by decide +kernel
theorem dX7_count_7 : decode cX7_count 7 = .ok (.bipush 13, 2) := by decide +kernel
theorem dX7_count_9 : decode cX7_count 9 = .ok (.if_icmp .gt 9, 3) := by decide +kernel
theorem dX7_count_12 : decode cX7_count 12 = .ok (.aload_n 0, 1) := by decide +kernel
theorem dX7_count_13 : decode cX7_count 13 = .ok (.iload_n 1, 1) := by decide +kernel
theorem dX7_count_14 : decode cX7_count 14 = .ok (.invokevirtual 287, 3) := by decide +kernel
theorem dX7_count_17 : decode cX7_count 17 = .ok (.ireturn, 1) := by decide +kernel
theorem dX7_count_18 : decode cX7_count 18 = .ok (.iload_n 1, 1) := by decide +kernel
theorem dX7_count_19 : decode cX7_count 19 = .ok (.bipush 14, 2) := by decide +kernel
theorem dX7_count_21 : decode cX7_count 21 = .ok (.if_icmp .lt 22, 3) := by decide +kernel
theorem dX7_count_24 : decode cX7_count 24 = .ok (.iload_n 1, 1) := by decide +kernel
theorem dX7_count_25 : decode cX7_count 25 = .ok (.bipush 23, 2) := by decide +kernel
theorem dX7_count_27 : decode cX7_count 27 = .ok (.if_icmp .ge 16, 3) := by decide +kernel
theorem dX7_count_30 : decode cX7_count 30 = .ok (.aload_n 0, 1) := by decide +kernel
theorem dX7_count_31 : decode cX7_count 31 = .ok (.getfield 10, 3) := by decide +kernel
theorem dX7_count_34 : decode cX7_count 34 = .ok (.getfield 135, 3) := by decide +kernel
theorem dX7_count_37 : decode cX7_count 37 = .ok (.iload_n 1, 1) := by decide +kernel
theorem dX7_count_38 : decode cX7_count 38 = .ok (.bipush 14, 2) := by decide +kernel
theorem dX7_count_40 : decode cX7_count 40 = .ok (.isub, 1) := by decide +kernel
theorem dX7_count_41 : decode cX7_count 41 = .ok (.iaload, 1) := by decide +kernel
theorem dX7_count_42 : decode cX7_count 42 = .ok (.ireturn, 1) := by decide +kernel
theorem dX7_count_43 : decode cX7_count 43 = .ok (.iload_n 1, 1) := by decide +kernel
theorem dX7_count_44 : decode cX7_count 44 = .ok (.tableswitch 241 0 24 #[116, 124, 135, 146, 157, 165, 178, 191, 204, 212, 241, 241, 241, 241, 241, 241, 241, 241, 241, 241, 241, 241, 241, 220, 228], 116) := by decide +kernel
theorem dX7_count_160 : decode cX7_count 160 = .ok (.aload_n 0, 1) := by decide +kernel
theorem dX7_count_161 : decode cX7_count 161 = .ok (.getfield 10, 3) := by decide +kernel
theorem dX7_count_164 : decode cX7_count 164 = .ok (.getfield 119, 3) := by decide +kernel
theorem dX7_count_167 : decode cX7_count 167 = .ok (.ireturn, 1) := by decide +kernel
theorem dX7_count_168 : decode cX7_count 168 = .ok (.aload_n 0, 1) := by decide +kernel
theorem dX7_count_169 : decode cX7_count 169 = .ok (.getfield 10, 3) := by decide +kernel
theorem dX7_count_172 : decode cX7_count 172 = .ok (.getfield 64, 3) := by decide +kernel
theorem dX7_count_175 : decode cX7_count 175 = .ok (.getfield 77, 3) := by decide +kernel
theorem dX7_count_178 : decode cX7_count 178 = .ok (.ireturn, 1) := by decide +kernel
theorem dX7_count_179 : decode cX7_count 179 = .ok (.aload_n 0, 1) := by decide +kernel
theorem dX7_count_180 : decode cX7_count 180 = .ok (.getfield 10, 3) := by decide +kernel
theorem dX7_count_183 : decode cX7_count 183 = .ok (.getfield 64, 3) := by decide +kernel
theorem dX7_count_186 : decode cX7_count 186 = .ok (.invokevirtual 281, 3) := by decide +kernel
theorem dX7_count_189 : decode cX7_count 189 = .ok (.ireturn, 1) := by decide +kernel
theorem dX7_count_190 : decode cX7_count 190 = .ok (.aload_n 0, 1) := by decide +kernel
theorem dX7_count_191 : decode cX7_count 191 = .ok (.getfield 10, 3) := by decide +kernel
theorem dX7_count_194 : decode cX7_count 194 = .ok (.getfield 46, 3) := by decide +kernel
theorem dX7_count_197 : decode cX7_count 197 = .ok (.getfield 56, 3) := by decide +kernel
theorem dX7_count_200 : decode cX7_count 200 = .ok (.ireturn, 1) := by decide +kernel
theorem dX7_count_201 : decode cX7_count 201 = .ok (.aload_n 0, 1) := by decide +kernel
theorem dX7_count_202 : decode cX7_count 202 = .ok (.getfield 10, 3) := by decide +kernel
theorem dX7_count_205 : decode cX7_count 205 = .ok (.invokevirtual 275, 3) := by decide +kernel
theorem dX7_count_208 : decode cX7_count 208 = .ok (.ireturn, 1) := by decide +kernel
theorem dX7_count_209 : decode cX7_count 209 = .ok (.aload_n 0, 1) := by decide +kernel
theorem dX7_count_210 : decode cX7_count 210 = .ok (.getfield 10, 3) := by decide +kernel
theorem dX7_count_213 : decode cX7_count 213 = .ok (.getfield 64, 3) := by decide +kernel
theorem dX7_count_216 : decode cX7_count 216 = .ok (.bipush 10, 2) := by decide +kernel
theorem dX7_count_218 : decode cX7_count 218 = .ok (.invokevirtual 290, 3) := by decide +kernel
theorem dX7_count_221 : decode cX7_count 221 = .ok (.ireturn, 1) := by decide +kernel
theorem dX7_count_222 : decode cX7_count 222 = .ok (.aload_n 0, 1) := by decide +kernel
theorem dX7_count_223 : decode cX7_count 223 = .ok (.getfield 10, 3) := by decide +kernel
theorem dX7_count_226 : decode cX7_count 226 = .ok (.getfield 64, 3) := by decide +kernel
theorem dX7_count_229 : decode cX7_count 229 = .ok (.bipush 11, 2) := by decide +kernel
theorem dX7_count_231 : decode cX7_count 231 = .ok (.invokevirtual 290, 3) := by decide +kernel
theorem dX7_count_234 : decode cX7_count 234 = .ok (.ireturn, 1) := by decide +kernel
theorem dX7_count_235 : decode cX7_count 235 = .ok (.aload_n 0, 1) := by decide +kernel
theorem dX7_count_236 : decode cX7_count 236 = .ok (.getfield 10, 3) := by decide +kernel
theorem dX7_count_239 : decode cX7_count 239 = .ok (.getfield 64, 3) := by decide +kernel
theorem dX7_count_242 : decode cX7_count 242 = .ok (.bipush 12, 2) := by decide +kernel
theorem dX7_count_244 : decode cX7_count 244 = .ok (.invokevirtual 290, 3) := by decide +kernel
theorem dX7_count_247 : decode cX7_count 247 = .ok (.ireturn, 1) := by decide +kernel
theorem dX7_count_248 : decode cX7_count 248 = .ok (.aload_n 0, 1) := by decide +kernel
theorem dX7_count_249 : decode cX7_count 249 = .ok (.getfield 10, 3) := by decide +kernel
theorem dX7_count_252 : decode cX7_count 252 = .ok (.invokevirtual 278, 3) := by decide +kernel
theorem dX7_count_255 : decode cX7_count 255 = .ok (.ireturn, 1) := by decide +kernel
theorem dX7_count_256 : decode cX7_count 256 = .ok (.aload_n 0, 1) := by decide +kernel
theorem dX7_count_257 : decode cX7_count 257 = .ok (.getfield 19, 3) := by decide +kernel
theorem dX7_count_260 : decode cX7_count 260 = .ok (.getfield 177, 3) := by decide +kernel
theorem dX7_count_263 : decode cX7_count 263 = .ok (.ireturn, 1) := by decide +kernel
theorem dX7_count_264 : decode cX7_count 264 = .ok (.aload_n 0, 1) := by decide +kernel
theorem dX7_count_265 : decode cX7_count 265 = .ok (.getfield 10, 3) := by decide +kernel
theorem dX7_count_268 : decode cX7_count 268 = .ok (.getfield 293, 3) := by decide +kernel
theorem dX7_count_271 : decode cX7_count 271 = .ok (.ireturn, 1) := by decide +kernel
theorem dX7_count_272 : decode cX7_count 272 = .ok (.aload_n 0, 1) := by decide +kernel
theorem dX7_count_273 : decode cX7_count 273 = .ok (.getfield 10, 3) := by decide +kernel
theorem dX7_count_276 : decode cX7_count 276 = .ok (.getfield 64, 3) := by decide +kernel
theorem dX7_count_279 : decode cX7_count 279 = .ok (.bipush 18, 2) := by decide +kernel
theorem dX7_count_281 : decode cX7_count 281 = .ok (.invokevirtual 290, 3) := by decide +kernel
theorem dX7_count_284 : decode cX7_count 284 = .ok (.ireturn, 1) := by decide +kernel
theorem dX7_count_285 : decode cX7_count 285 = .ok (.iconst (-1), 1) := by decide +kernel
theorem dX7_count_286 : decode cX7_count 286 = .ok (.ireturn, 1) := by decide +kernel
theorem dX7_status_0 : decode cX7_status 0 = .ok (.aload_n 0, 1) := by decide +kernel
theorem dX7_status_1 : decode cX7_status 1 = .ok (.getfield 74, 3) := by decide +kernel
theorem dX7_status_4 : decode cX7_status 4 = .ok (.ireturn, 1) := by decide +kernel
theorem dX7_refuse_0 : decode cX7_refuse 0 = .ok (.aload_n 0, 1) := by decide +kernel
theorem dX7_refuse_1 : decode cX7_refuse 1 = .ok (.iload_n 1, 1) := by decide +kernel
theorem dX7_refuse_2 : decode cX7_refuse 2 = .ok (.putfield 74, 3) := by decide +kernel
theorem dX7_refuse_5 : decode cX7_refuse 5 = .ok (.aload_n 0, 1) := by decide +kernel
theorem dX7_refuse_6 : decode cX7_refuse 6 = .ok (.getfield 27, 3) := by decide +kernel
theorem dX7_refuse_9 : decode cX7_refuse 9 = .ok (.iload_n 1, 1) := by decide +kernel
theorem dX7_refuse_10 : decode cX7_refuse 10 = .ok (.ineg, 1) := by decide +kernel
theorem dX7_refuse_11 : decode cX7_refuse 11 = .ok (.dup2, 1) := by decide +kernel
theorem dX7_refuse_12 : decode cX7_refuse 12 = .ok (.iaload, 1) := by decide +kernel
theorem dX7_refuse_13 : decode cX7_refuse 13 = .ok (.iconst 1, 1) := by decide +kernel
theorem dX7_refuse_14 : decode cX7_refuse 14 = .ok (.iadd, 1) := by decide +kernel
theorem dX7_refuse_15 : decode cX7_refuse 15 = .ok (.iastore, 1) := by decide +kernel
theorem dX7_refuse_16 : decode cX7_refuse 16 = .ok (.iload_n 1, 1) := by decide +kernel
theorem dX7_refuse_17 : decode cX7_refuse 17 = .ok (.ireturn, 1) := by decide +kernel
theorem dX7_refusals_0 : decode cX7_refusals 0 = .ok (.iload_n 1, 1) := by decide +kernel
theorem dX7_refusals_1 : decode cX7_refusals 1 = .ok (.tableswitch 48 10 12 #[27, 34, 41], 27) := by decide +kernel
theorem dX7_refusals_28 : decode cX7_refusals 28 = .ok (.aload_n 0, 1) := by decide +kernel
theorem dX7_refusals_29 : decode cX7_refusals 29 = .ok (.getfield 27, 3) := by decide +kernel
theorem dX7_refusals_32 : decode cX7_refusals 32 = .ok (.iconst 1, 1) := by decide +kernel
theorem dX7_refusals_33 : decode cX7_refusals 33 = .ok (.iaload, 1) := by decide +kernel
theorem dX7_refusals_34 : decode cX7_refusals 34 = .ok (.ireturn, 1) := by decide +kernel
theorem dX7_refusals_35 : decode cX7_refusals 35 = .ok (.aload_n 0, 1) := by decide +kernel
theorem dX7_refusals_36 : decode cX7_refusals 36 = .ok (.getfield 27, 3) := by decide +kernel
theorem dX7_refusals_39 : decode cX7_refusals 39 = .ok (.iconst 2, 1) := by decide +kernel
theorem dX7_refusals_40 : decode cX7_refusals 40 = .ok (.iaload, 1) := by decide +kernel
theorem dX7_refusals_41 : decode cX7_refusals 41 = .ok (.ireturn, 1) := by decide +kernel
theorem dX7_refusals_42 : decode cX7_refusals 42 = .ok (.aload_n 0, 1) := by decide +kernel
theorem dX7_refusals_43 : decode cX7_refusals 43 = .ok (.getfield 27, 3) := by decide +kernel
theorem dX7_refusals_46 : decode cX7_refusals 46 = .ok (.iconst 4, 1) := by decide +kernel
theorem dX7_refusals_47 : decode cX7_refusals 47 = .ok (.iaload, 1) := by decide +kernel
theorem dX7_refusals_48 : decode cX7_refusals 48 = .ok (.ireturn, 1) := by decide +kernel
theorem dX7_refusals_49 : decode cX7_refusals 49 = .ok (.aload_n 0, 1) := by decide +kernel
theorem dX7_refusals_50 : decode cX7_refusals 50 = .ok (.getfield 27, 3) := by decide +kernel
theorem dX7_refusals_53 : decode cX7_refusals 53 = .ok (.iconst 5, 1) := by decide +kernel
theorem dX7_refusals_54 : decode cX7_refusals 54 = .ok (.iaload, 1) := by decide +kernel
theorem dX7_refusals_55 : decode cX7_refusals 55 = .ok (.ireturn, 1) := by decide +kernel
theorem dX7_begin_0 : decode cX7_begin 0 = .ok (.aload_n 0, 1) := by decide +kernel
theorem dX7_begin_1 : decode cX7_begin 1 = .ok (.iconst 0, 1) := by decide +kernel
theorem dX7_begin_2 : decode cX7_begin 2 = .ok (.putfield 74, 3) := by decide +kernel
theorem dX7_begin_5 : decode cX7_begin 5 = .ok (.aload_n 0, 1) := by decide +kernel
theorem dX7_begin_6 : decode cX7_begin 6 = .ok (.getfield 19, 3) := by decide +kernel
theorem dX7_begin_9 : decode cX7_begin 9 = .ok (.iload_n 1, 1) := by decide +kernel
theorem dX7_begin_10 : decode cX7_begin 10 = .ok (.aload_n 0, 1) := by decide +kernel
theorem dX7_begin_11 : decode cX7_begin 11 = .ok (.getfield 10, 3) := by decide +kernel
theorem dX7_begin_14 : decode cX7_begin 14 = .ok (.invokevirtual 296, 3) := by decide +kernel
theorem dX7_begin_17 : decode cX7_begin 17 = .ok (.return_, 1) := by decide +kernel
theorem dX7_paperOfNow_0 : decode cX7_paperOfNow 0 = .ok (.aload_n 0, 1) := by decide +kernel
theorem dX7_paperOfNow_1 : decode cX7_paperOfNow 1 = .ok (.aload_n 0, 1) := by decide +kernel
theorem dX7_paperOfNow_2 : decode cX7_paperOfNow 2 = .ok (.getfield 300, 3) := by decide +kernel
theorem dX7_paperOfNow_5 : decode cX7_paperOfNow 5 = .ok (.aload_n 0, 1) := by decide +kernel
theorem dX7_paperOfNow_6 : decode cX7_paperOfNow 6 = .ok (.getfield 10, 3) := by decide +kernel
theorem dX7_paperOfNow_9 : decode cX7_paperOfNow 9 = .ok (.invokestatic 182, 3) := by decide +kernel
theorem dX7_paperOfNow_12 : decode cX7_paperOfNow 12 = .ok (.putfield 300, 3) := by decide +kernel
theorem dX7_paperOfNow_15 : decode cX7_paperOfNow 15 = .ok (.aload_n 0, 1) := by decide +kernel
theorem dX7_paperOfNow_16 : decode cX7_paperOfNow 16 = .ok (.getfield 300, 3) := by decide +kernel
theorem dX7_paperOfNow_19 : decode cX7_paperOfNow 19 = .ok (.areturn, 1) := by decide +kernel
theorem dX7_copied_0 : decode cX7_copied 0 = .ok (.aload_n 0, 1) := by decide +kernel
theorem dX7_copied_1 : decode cX7_copied 1 = .ok (.ifnonnull 13, 3) := by decide +kernel
theorem dX7_copied_4 : decode cX7_copied 4 = .ok (.new 7, 3) := by decide +kernel
theorem dX7_copied_7 : decode cX7_copied 7 = .ok (.dup, 1) := by decide +kernel
theorem dX7_copied_8 : decode cX7_copied 8 = .ok (.invokespecial 9, 3) := by decide +kernel
theorem dX7_copied_11 : decode cX7_copied 11 = .ok (.goto 4, 3) := by decide +kernel
theorem dX7_copied_14 : decode cX7_copied 14 = .ok (.aload_n 0, 1) := by decide +kernel
theorem dX7_copied_15 : decode cX7_copied 15 = .ok (.astore_n 2, 1) := by decide +kernel
theorem dX7_copied_16 : decode cX7_copied 16 = .ok (.aload_n 2, 1) := by decide +kernel
theorem dX7_copied_17 : decode cX7_copied 17 = .ok (.aload_n 1, 1) := by decide +kernel
theorem dX7_copied_18 : decode cX7_copied 18 = .ok (.invokevirtual 186, 3) := by decide +kernel
theorem dX7_copied_21 : decode cX7_copied 21 = .ok (.aload_n 2, 1) := by decide +kernel
theorem dX7_copied_22 : decode cX7_copied 22 = .ok (.areturn, 1) := by decide +kernel
theorem dX7_isFlow_0 : decode cX7_isFlow 0 = .ok (.iload_n 1, 1) := by decide +kernel
theorem dX7_isFlow_1 : decode cX7_isFlow 1 = .ok (.ifCond .lt 21, 3) := by decide +kernel
theorem dX7_isFlow_4 : decode cX7_isFlow 4 = .ok (.iload_n 1, 1) := by decide +kernel
theorem dX7_isFlow_5 : decode cX7_isFlow 5 = .ok (.aload_n 0, 1) := by decide +kernel
theorem dX7_isFlow_6 : decode cX7_isFlow 6 = .ok (.getfield 10, 3) := by decide +kernel
theorem dX7_isFlow_9 : decode cX7_isFlow 9 = .ok (.getfield 64, 3) := by decide +kernel
theorem dX7_isFlow_12 : decode cX7_isFlow 12 = .ok (.getfield 77, 3) := by decide +kernel
theorem dX7_isFlow_15 : decode cX7_isFlow 15 = .ok (.if_icmp .ge 7, 3) := by decide +kernel
theorem dX7_isFlow_18 : decode cX7_isFlow 18 = .ok (.iconst 1, 1) := by decide +kernel
theorem dX7_isFlow_19 : decode cX7_isFlow 19 = .ok (.goto 4, 3) := by decide +kernel
theorem dX7_isFlow_22 : decode cX7_isFlow 22 = .ok (.iconst 0, 1) := by decide +kernel
theorem dX7_isFlow_23 : decode cX7_isFlow 23 = .ok (.ireturn, 1) := by decide +kernel
theorem dX7_isQueue_0 : decode cX7_isQueue 0 = .ok (.iload_n 0, 1) := by decide +kernel
theorem dX7_isQueue_1 : decode cX7_isQueue 1 = .ok (.ifCond .lt 12, 3) := by decide +kernel
theorem dX7_isQueue_4 : decode cX7_isQueue 4 = .ok (.iload_n 0, 1) := by decide +kernel
theorem dX7_isQueue_5 : decode cX7_isQueue 5 = .ok (.iconst 4, 1) := by decide +kernel
theorem dX7_isQueue_6 : decode cX7_isQueue 6 = .ok (.if_icmp .ge 7, 3) := by decide +kernel
theorem dX7_isQueue_9 : decode cX7_isQueue 9 = .ok (.iconst 1, 1) := by decide +kernel
theorem dX7_isQueue_10 : decode cX7_isQueue 10 = .ok (.goto 4, 3) := by decide +kernel
theorem dX7_isQueue_13 : decode cX7_isQueue 13 = .ok (.iconst 0, 1) := by decide +kernel
theorem dX7_isQueue_14 : decode cX7_isQueue 14 = .ok (.ireturn, 1) := by decide +kernel
theorem dX7_isEntry_0 : decode cX7_isEntry 0 = .ok (.iload_n 0, 1) := by decide +kernel
theorem dX7_isEntry_1 : decode cX7_isEntry 1 = .ok (.ifCond .lt 13, 3) := by decide +kernel
theorem dX7_isEntry_4 : decode cX7_isEntry 4 = .ok (.iload_n 0, 1) := by decide +kernel
theorem dX7_isEntry_5 : decode cX7_isEntry 5 = .ok (.bipush 16, 2) := by decide +kernel
theorem dX7_isEntry_7 : decode cX7_isEntry 7 = .ok (.if_icmp .ge 7, 3) := by decide +kernel
theorem dX7_isEntry_10 : decode cX7_isEntry 10 = .ok (.iconst 1, 1) := by decide +kernel
theorem dX7_isEntry_11 : decode cX7_isEntry 11 = .ok (.goto 4, 3) := by decide +kernel
theorem dX7_isEntry_14 : decode cX7_isEntry 14 = .ok (.iconst 0, 1) := by decide +kernel
theorem dX7_isEntry_15 : decode cX7_isEntry 15 = .ok (.ireturn, 1) := by decide +kernel
theorem dX7_isByte_0 : decode cX7_isByte 0 = .ok (.iload_n 0, 1) := by decide +kernel
theorem dX7_isByte_1 : decode cX7_isByte 1 = .ok (.ifCond .lt 14, 3) := by decide +kernel
theorem dX7_isByte_4 : decode cX7_isByte 4 = .ok (.iload_n 0, 1) := by decide +kernel
theorem dX7_isByte_5 : decode cX7_isByte 5 = .ok (.sipush 255, 3) := by decide +kernel
theorem dX7_isByte_8 : decode cX7_isByte 8 = .ok (.if_icmp .gt 7, 3) := by decide +kernel
theorem dX7_isByte_11 : decode cX7_isByte 11 = .ok (.iconst 1, 1) := by decide +kernel
theorem dX7_isByte_12 : decode cX7_isByte 12 = .ok (.goto 4, 3) := by decide +kernel
theorem dX7_isByte_15 : decode cX7_isByte 15 = .ok (.iconst 0, 1) := by decide +kernel
theorem dX7_isByte_16 : decode cX7_isByte 16 = .ok (.ireturn, 1) := by decide +kernel
theorem dX7_isSize_0 : decode cX7_isSize 0 = .ok (.iload_n 0, 1) := by decide +kernel
theorem dX7_isSize_1 : decode cX7_isSize 1 = .ok (.iconst 1, 1) := by decide +kernel
theorem dX7_isSize_2 : decode cX7_isSize 2 = .ok (.if_icmp .lt 14, 3) := by decide +kernel
theorem dX7_isSize_5 : decode cX7_isSize 5 = .ok (.iload_n 0, 1) := by decide +kernel
theorem dX7_isSize_6 : decode cX7_isSize 6 = .ok (.sipush 1500, 3) := by decide +kernel
theorem dX7_isSize_9 : decode cX7_isSize 9 = .ok (.if_icmp .gt 7, 3) := by decide +kernel
theorem dX7_isSize_12 : decode cX7_isSize 12 = .ok (.iconst 1, 1) := by decide +kernel
theorem dX7_isSize_13 : decode cX7_isSize 13 = .ok (.goto 4, 3) := by decide +kernel
theorem dX7_isSize_16 : decode cX7_isSize 16 = .ok (.iconst 0, 1) := by decide +kernel
theorem dX7_isSize_17 : decode cX7_isSize 17 = .ok (.ireturn, 1) := by decide +kernel
theorem dX7_areFields_0 : decode cX7_areFields 0 = .ok (.iload_n 0, 1) := by decide +kernel
theorem dX7_areFields_1 : decode cX7_areFields 1 = .ok (.invokestatic 34, 3) := by decide +kernel
theorem dX7_areFields_4 : decode cX7_areFields 4 = .ok (.ifCond .eq 39, 3) := by decide +kernel
theorem dX7_areFields_7 : decode cX7_areFields 7 = .ok (.iload_n 1, 1) := by decide +kernel
theorem dX7_areFields_8 : decode cX7_areFields 8 = .ok (.invokestatic 34, 3) := by decide +kernel
theorem dX7_areFields_11 : decode cX7_areFields 11 = .ok (.ifCond .eq 32, 3) := by decide +kernel
theorem dX7_areFields_14 : decode cX7_areFields 14 = .ok (.iload_n 2, 1) := by decide +kernel
theorem dX7_areFields_15 : decode cX7_areFields 15 = .ok (.invokestatic 34, 3) := by decide +kernel
theorem dX7_areFields_18 : decode cX7_areFields 18 = .ok (.ifCond .eq 25, 3) := by decide +kernel
theorem dX7_areFields_21 : decode cX7_areFields 21 = .ok (.iload_n 3, 1) := by decide +kernel
theorem dX7_areFields_22 : decode cX7_areFields 22 = .ok (.invokestatic 34, 3) := by decide +kernel
theorem dX7_areFields_25 : decode cX7_areFields 25 = .ok (.ifCond .eq 18, 3) := by decide +kernel
theorem dX7_areFields_28 : decode cX7_areFields 28 = .ok (.iload 4, 2) := by decide +kernel
theorem dX7_areFields_30 : decode cX7_areFields 30 = .ok (.ifCond .eq 9, 3) := by decide +kernel
theorem dX7_areFields_33 : decode cX7_areFields 33 = .ok (.iload 4, 2) := by decide +kernel
theorem dX7_areFields_35 : decode cX7_areFields 35 = .ok (.iconst 1, 1) := by decide +kernel
theorem dX7_areFields_36 : decode cX7_areFields 36 = .ok (.if_icmp .ne 7, 3) := by decide +kernel
theorem dX7_areFields_39 : decode cX7_areFields 39 = .ok (.iconst 1, 1) := by decide +kernel
theorem dX7_areFields_40 : decode cX7_areFields 40 = .ok (.goto 4, 3) := by decide +kernel
theorem dX7_areFields_43 : decode cX7_areFields 43 = .ok (.iconst 0, 1) := by decide +kernel
theorem dX7_areFields_44 : decode cX7_areFields 44 = .ok (.ireturn, 1) := by decide +kernel
theorem dX7_entryOfHash_0 : decode cX7_entryOfHash 0 = .ok (.iload_n 0, 1) := by decide +kernel
theorem dX7_entryOfHash_1 : decode cX7_entryOfHash 1 = .ok (.bipush 15, 2) := by decide +kernel
theorem dX7_entryOfHash_3 : decode cX7_entryOfHash 3 = .ok (.iand, 1) := by decide +kernel
theorem dX7_entryOfHash_4 : decode cX7_entryOfHash 4 = .ok (.ireturn, 1) := by decide +kernel
theorem dX7_burstFits_0 : decode cX7_burstFits 0 = .ok (.aload_n 0, 1) := by decide +kernel
theorem dX7_burstFits_1 : decode cX7_burstFits 1 = .ok (.getfield 10, 3) := by decide +kernel
theorem dX7_burstFits_4 : decode cX7_burstFits 4 = .ok (.getfield 64, 3) := by decide +kernel
theorem dX7_burstFits_7 : decode cX7_burstFits 7 = .ok (.getfield 77, 3) := by decide +kernel
theorem dX7_burstFits_10 : decode cX7_burstFits 10 = .ok (.istore 4, 2) := by decide +kernel
theorem dX7_burstFits_12 : decode cX7_burstFits 12 = .ok (.iconst 0, 1) := by decide +kernel
theorem dX7_burstFits_13 : decode cX7_burstFits 13 = .ok (.istore 5, 2) := by decide +kernel
theorem dX7_burstFits_15 : decode cX7_burstFits 15 = .ok (.iload 5, 2) := by decide +kernel
theorem dX7_burstFits_17 : decode cX7_burstFits 17 = .ok (.iload_n 2, 1) := by decide +kernel
theorem dX7_burstFits_18 : decode cX7_burstFits 18 = .ok (.if_icmp .ge 81, 3) := by decide +kernel
theorem dX7_burstFits_21 : decode cX7_burstFits 21 = .ok (.iload 5, 2) := by decide +kernel
theorem dX7_burstFits_23 : decode cX7_burstFits 23 = .ok (.iload 4, 2) := by decide +kernel
theorem dX7_burstFits_25 : decode cX7_burstFits 25 = .ok (.if_icmp .ge 74, 3) := by decide +kernel
theorem dX7_burstFits_28 : decode cX7_burstFits 28 = .ok (.iload_n 1, 1) := by decide +kernel
theorem dX7_burstFits_29 : decode cX7_burstFits 29 = .ok (.iload 5, 2) := by decide +kernel
theorem dX7_burstFits_31 : decode cX7_burstFits 31 = .ok (.iadd, 1) := by decide +kernel
theorem dX7_burstFits_32 : decode cX7_burstFits 32 = .ok (.iload 4, 2) := by decide +kernel
theorem dX7_burstFits_34 : decode cX7_burstFits 34 = .ok (.if_icmp .ge 10, 3) := by decide +kernel
theorem dX7_burstFits_37 : decode cX7_burstFits 37 = .ok (.iload_n 1, 1) := by decide +kernel
theorem dX7_burstFits_38 : decode cX7_burstFits 38 = .ok (.iload 5, 2) := by decide +kernel
theorem dX7_burstFits_40 : decode cX7_burstFits 40 = .ok (.iadd, 1) := by decide +kernel
theorem dX7_burstFits_41 : decode cX7_burstFits 41 = .ok (.goto 10, 3) := by decide +kernel
theorem dX7_burstFits_44 : decode cX7_burstFits 44 = .ok (.iload_n 1, 1) := by decide +kernel
theorem dX7_burstFits_45 : decode cX7_burstFits 45 = .ok (.iload 5, 2) := by decide +kernel
theorem dX7_burstFits_47 : decode cX7_burstFits 47 = .ok (.iadd, 1) := by decide +kernel
theorem dX7_burstFits_48 : decode cX7_burstFits 48 = .ok (.iload 4, 2) := by decide +kernel
theorem dX7_burstFits_50 : decode cX7_burstFits 50 = .ok (.isub, 1) := by decide +kernel
theorem dX7_burstFits_51 : decode cX7_burstFits 51 = .ok (.istore 6, 2) := by decide +kernel
theorem dX7_burstFits_53 : decode cX7_burstFits 53 = .ok (.iload_n 2, 1) := by decide +kernel
theorem dX7_burstFits_54 : decode cX7_burstFits 54 = .ok (.iload 5, 2) := by decide +kernel
theorem dX7_burstFits_56 : decode cX7_burstFits 56 = .ok (.isub, 1) := by decide +kernel
theorem dX7_burstFits_57 : decode cX7_burstFits 57 = .ok (.iload 4, 2) := by decide +kernel
theorem dX7_burstFits_59 : decode cX7_burstFits 59 = .ok (.iadd, 1) := by decide +kernel
theorem dX7_burstFits_60 : decode cX7_burstFits 60 = .ok (.iconst 1, 1) := by decide +kernel
theorem dX7_burstFits_61 : decode cX7_burstFits 61 = .ok (.isub, 1) := by decide +kernel
theorem dX7_burstFits_62 : decode cX7_burstFits 62 = .ok (.iload 4, 2) := by decide +kernel
theorem dX7_burstFits_64 : decode cX7_burstFits 64 = .ok (.idiv, 1) := by decide +kernel
theorem dX7_burstFits_65 : decode cX7_burstFits 65 = .ok (.istore 7, 2) := by decide +kernel
theorem dX7_burstFits_67 : decode cX7_burstFits 67 = .ok (.aload_n 0, 1) := by decide +kernel
theorem dX7_burstFits_68 : decode cX7_burstFits 68 = .ok (.getfield 10, 3) := by decide +kernel
theorem dX7_burstFits_71 : decode cX7_burstFits 71 = .ok (.getfield 64, 3) := by decide +kernel
theorem dX7_burstFits_74 : decode cX7_burstFits 74 = .ok (.bipush 9, 2) := by decide +kernel
theorem dX7_burstFits_76 : decode cX7_burstFits 76 = .ok (.iload 6, 2) := by decide +kernel
theorem dX7_burstFits_78 : decode cX7_burstFits 78 = .ok (.invokevirtual 108, 3) := by decide +kernel
theorem dX7_burstFits_81 : decode cX7_burstFits 81 = .ok (.iload 7, 2) := by decide +kernel
theorem dX7_burstFits_83 : decode cX7_burstFits 83 = .ok (.iload_n 3, 1) := by decide +kernel
theorem dX7_burstFits_84 : decode cX7_burstFits 84 = .ok (.imul, 1) := by decide +kernel
theorem dX7_burstFits_85 : decode cX7_burstFits 85 = .ok (.iadd, 1) := by decide +kernel
theorem dX7_burstFits_86 : decode cX7_burstFits 86 = .ok (.ldc 141, 2) := by decide +kernel
theorem dX7_burstFits_88 : decode cX7_burstFits 88 = .ok (.if_icmp .le 5, 3) := by decide +kernel
theorem dX7_burstFits_91 : decode cX7_burstFits 91 = .ok (.iconst 0, 1) := by decide +kernel
theorem dX7_burstFits_92 : decode cX7_burstFits 92 = .ok (.ireturn, 1) := by decide +kernel
theorem dX7_burstFits_93 : decode cX7_burstFits 93 = .ok (.iinc 5 1, 3) := by decide +kernel
theorem dX7_burstFits_96 : decode cX7_burstFits 96 = .ok (.goto (-81), 3) := by decide +kernel
theorem dX7_burstFits_99 : decode cX7_burstFits 99 = .ok (.iconst 1, 1) := by decide +kernel
theorem dX7_burstFits_100 : decode cX7_burstFits 100 = .ok (.ireturn, 1) := by decide +kernel
theorem dX7_unlikeEntries_0 : decode cX7_unlikeEntries 0 = .ok (.iconst 0, 1) := by decide +kernel
theorem dX7_unlikeEntries_1 : decode cX7_unlikeEntries 1 = .ok (.istore_n 2, 1) := by decide +kernel
theorem dX7_unlikeEntries_2 : decode cX7_unlikeEntries 2 = .ok (.iconst 0, 1) := by decide +kernel
theorem dX7_unlikeEntries_3 : decode cX7_unlikeEntries 3 = .ok (.istore_n 3, 1) := by decide +kernel
theorem dX7_unlikeEntries_4 : decode cX7_unlikeEntries 4 = .ok (.iload_n 3, 1) := by decide +kernel
theorem dX7_unlikeEntries_5 : decode cX7_unlikeEntries 5 = .ok (.aload_n 0, 1) := by decide +kernel
theorem dX7_unlikeEntries_6 : decode cX7_unlikeEntries 6 = .ok (.getfield 10, 3) := by decide +kernel
theorem dX7_unlikeEntries_9 : decode cX7_unlikeEntries 9 = .ok (.getfield 64, 3) := by decide +kernel
theorem dX7_unlikeEntries_12 : decode cX7_unlikeEntries 12 = .ok (.getfield 77, 3) := by decide +kernel
theorem dX7_unlikeEntries_15 : decode cX7_unlikeEntries 15 = .ok (.if_icmp .ge 24, 3) := by decide +kernel
theorem dX7_unlikeEntries_18 : decode cX7_unlikeEntries 18 = .ok (.iload_n 2, 1) := by decide +kernel
theorem dX7_unlikeEntries_19 : decode cX7_unlikeEntries 19 = .ok (.iconst 1, 1) := by decide +kernel
theorem dX7_unlikeEntries_20 : decode cX7_unlikeEntries 20 = .ok (.iload_n 1, 1) := by decide +kernel
theorem dX7_unlikeEntries_21 : decode cX7_unlikeEntries 21 = .ok (.aload_n 0, 1) := by decide +kernel
theorem dX7_unlikeEntries_22 : decode cX7_unlikeEntries 22 = .ok (.getfield 31, 3) := by decide +kernel
theorem dX7_unlikeEntries_25 : decode cX7_unlikeEntries 25 = .ok (.iload_n 3, 1) := by decide +kernel
theorem dX7_unlikeEntries_26 : decode cX7_unlikeEntries 26 = .ok (.iaload, 1) := by decide +kernel
theorem dX7_unlikeEntries_27 : decode cX7_unlikeEntries 27 = .ok (.invokestatic 303, 3) := by decide +kernel
theorem dX7_unlikeEntries_30 : decode cX7_unlikeEntries 30 = .ok (.ishl, 1) := by decide +kernel
theorem dX7_unlikeEntries_31 : decode cX7_unlikeEntries 31 = .ok (.ior, 1) := by decide +kernel
theorem dX7_unlikeEntries_32 : decode cX7_unlikeEntries 32 = .ok (.istore_n 2, 1) := by decide +kernel
theorem dX7_unlikeEntries_33 : decode cX7_unlikeEntries 33 = .ok (.iinc 3 1, 3) := by decide +kernel
theorem dX7_unlikeEntries_36 : decode cX7_unlikeEntries 36 = .ok (.goto (-32), 3) := by decide +kernel
theorem dX7_unlikeEntries_39 : decode cX7_unlikeEntries 39 = .ok (.iload_n 2, 1) := by decide +kernel
theorem dX7_unlikeEntries_40 : decode cX7_unlikeEntries 40 = .ok (.invokestatic 244, 3) := by decide +kernel
theorem dX7_unlikeEntries_43 : decode cX7_unlikeEntries 43 = .ok (.ireturn, 1) := by decide +kernel
theorem dX7_entryByRepeated_0 : decode cX7_entryByRepeated 0 = .ok (.iload_n 0, 1) := by decide +kernel
theorem dX7_entryByRepeated_1 : decode cX7_entryByRepeated 1 = .ok (.bipush 8, 2) := by decide +kernel
theorem dX7_entryByRepeated_3 : decode cX7_entryByRepeated 3 = .ok (.ishl, 1) := by decide +kernel
theorem dX7_entryByRepeated_4 : decode cX7_entryByRepeated 4 = .ok (.iload_n 0, 1) := by decide +kernel
theorem dX7_entryByRepeated_5 : decode cX7_entryByRepeated 5 = .ok (.ior, 1) := by decide +kernel
theorem dX7_entryByRepeated_6 : decode cX7_entryByRepeated 6 = .ok (.istore_n 2, 1) := by decide +kernel
theorem dX7_entryByRepeated_7 : decode cX7_entryByRepeated 7 = .ok (.iconst 0, 1) := by decide +kernel
theorem dX7_entryByRepeated_8 : decode cX7_entryByRepeated 8 = .ok (.istore_n 3, 1) := by decide +kernel
theorem dX7_entryByRepeated_9 : decode cX7_entryByRepeated 9 = .ok (.iconst 0, 1) := by decide +kernel
theorem dX7_entryByRepeated_10 : decode cX7_entryByRepeated 10 = .ok (.istore 4, 2) := by decide +kernel
theorem dX7_entryByRepeated_12 : decode cX7_entryByRepeated 12 = .ok (.iload 4, 2) := by decide +kernel
theorem dX7_entryByRepeated_14 : decode cX7_entryByRepeated 14 = .ok (.bipush 8, 2) := by decide +kernel
theorem dX7_entryByRepeated_16 : decode cX7_entryByRepeated 16 = .ok (.if_icmp .ge 30, 3) := by decide +kernel
theorem dX7_entryByRepeated_19 : decode cX7_entryByRepeated 19 = .ok (.iload_n 1, 1) := by decide +kernel
theorem dX7_entryByRepeated_20 : decode cX7_entryByRepeated 20 = .ok (.iload 4, 2) := by decide +kernel
theorem dX7_entryByRepeated_22 : decode cX7_entryByRepeated 22 = .ok (.ishl, 1) := by decide +kernel
theorem dX7_entryByRepeated_23 : decode cX7_entryByRepeated 23 = .ok (.sipush 128, 3) := by decide +kernel
theorem dX7_entryByRepeated_26 : decode cX7_entryByRepeated 26 = .ok (.iand, 1) := by decide +kernel
theorem dX7_entryByRepeated_27 : decode cX7_entryByRepeated 27 = .ok (.ifCond .eq 13, 3) := by decide +kernel
theorem dX7_entryByRepeated_30 : decode cX7_entryByRepeated 30 = .ok (.iload_n 3, 1) := by decide +kernel
theorem dX7_entryByRepeated_31 : decode cX7_entryByRepeated 31 = .ok (.iload_n 2, 1) := by decide +kernel
theorem dX7_entryByRepeated_32 : decode cX7_entryByRepeated 32 = .ok (.bipush 8, 2) := by decide +kernel
theorem dX7_entryByRepeated_34 : decode cX7_entryByRepeated 34 = .ok (.iload 4, 2) := by decide +kernel
theorem dX7_entryByRepeated_36 : decode cX7_entryByRepeated 36 = .ok (.isub, 1) := by decide +kernel
theorem dX7_entryByRepeated_37 : decode cX7_entryByRepeated 37 = .ok (.ishr, 1) := by decide +kernel
theorem dX7_entryByRepeated_38 : decode cX7_entryByRepeated 38 = .ok (.ixor, 1) := by decide +kernel
theorem dX7_entryByRepeated_39 : decode cX7_entryByRepeated 39 = .ok (.istore_n 3, 1) := by decide +kernel
theorem dX7_entryByRepeated_40 : decode cX7_entryByRepeated 40 = .ok (.iinc 4 1, 3) := by decide +kernel
theorem dX7_entryByRepeated_43 : decode cX7_entryByRepeated 43 = .ok (.goto (-31), 3) := by decide +kernel
theorem dX7_entryByRepeated_46 : decode cX7_entryByRepeated 46 = .ok (.iload_n 3, 1) := by decide +kernel
theorem dX7_entryByRepeated_47 : decode cX7_entryByRepeated 47 = .ok (.invokestatic 252, 3) := by decide +kernel
theorem dX7_entryByRepeated_50 : decode cX7_entryByRepeated 50 = .ok (.ireturn, 1) := by decide +kernel
theorem dX7_commonDivisor_0 : decode cX7_commonDivisor 0 = .ok (.lload_n 0, 1) := by decide +kernel
theorem dX7_commonDivisor_1 : decode cX7_commonDivisor 1 = .ok (.lstore 4, 2) := by decide +kernel
theorem dX7_commonDivisor_3 : decode cX7_commonDivisor 3 = .ok (.lload_n 2, 1) := by decide +kernel
theorem dX7_commonDivisor_4 : decode cX7_commonDivisor 4 = .ok (.lstore 6, 2) := by decide +kernel
theorem dX7_commonDivisor_6 : decode cX7_commonDivisor 6 = .ok (.iconst 0, 1) := by decide +kernel
theorem dX7_commonDivisor_7 : decode cX7_commonDivisor 7 = .ok (.istore 8, 2) := by decide +kernel
theorem dX7_commonDivisor_9 : decode cX7_commonDivisor 9 = .ok (.iload 8, 2) := by decide +kernel
theorem dX7_commonDivisor_11 : decode cX7_commonDivisor 11 = .ok (.bipush 100, 2) := by decide +kernel
theorem dX7_commonDivisor_13 : decode cX7_commonDivisor 13 = .ok (.if_icmp .ge 31, 3) := by decide +kernel
theorem dX7_commonDivisor_16 : decode cX7_commonDivisor 16 = .ok (.lload 6, 2) := by decide +kernel
theorem dX7_commonDivisor_18 : decode cX7_commonDivisor 18 = .ok (.lconst 0, 1) := by decide +kernel
theorem dX7_commonDivisor_19 : decode cX7_commonDivisor 19 = .ok (.lcmp, 1) := by decide +kernel
theorem dX7_commonDivisor_20 : decode cX7_commonDivisor 20 = .ok (.ifCond .eq 24, 3) := by decide +kernel
theorem dX7_commonDivisor_23 : decode cX7_commonDivisor 23 = .ok (.lload 4, 2) := by decide +kernel
theorem dX7_commonDivisor_25 : decode cX7_commonDivisor 25 = .ok (.lload 6, 2) := by decide +kernel
theorem dX7_commonDivisor_27 : decode cX7_commonDivisor 27 = .ok (.lrem, 1) := by decide +kernel
theorem dX7_commonDivisor_28 : decode cX7_commonDivisor 28 = .ok (.lstore 9, 2) := by decide +kernel
theorem dX7_commonDivisor_30 : decode cX7_commonDivisor 30 = .ok (.lload 6, 2) := by decide +kernel
theorem dX7_commonDivisor_32 : decode cX7_commonDivisor 32 = .ok (.lstore 4, 2) := by decide +kernel
theorem dX7_commonDivisor_34 : decode cX7_commonDivisor 34 = .ok (.lload 9, 2) := by decide +kernel
theorem dX7_commonDivisor_36 : decode cX7_commonDivisor 36 = .ok (.lstore 6, 2) := by decide +kernel
theorem dX7_commonDivisor_38 : decode cX7_commonDivisor 38 = .ok (.iinc 8 1, 3) := by decide +kernel
theorem dX7_commonDivisor_41 : decode cX7_commonDivisor 41 = .ok (.goto (-32), 3) := by decide +kernel
theorem dX7_commonDivisor_44 : decode cX7_commonDivisor 44 = .ok (.lload 4, 2) := by decide +kernel
theorem dX7_commonDivisor_46 : decode cX7_commonDivisor 46 = .ok (.lconst 0, 1) := by decide +kernel
theorem dX7_commonDivisor_47 : decode cX7_commonDivisor 47 = .ok (.lcmp, 1) := by decide +kernel
theorem dX7_commonDivisor_48 : decode cX7_commonDivisor 48 = .ok (.ifCond .le 8, 3) := by decide +kernel
theorem dX7_commonDivisor_51 : decode cX7_commonDivisor 51 = .ok (.lload 4, 2) := by decide +kernel
theorem dX7_commonDivisor_53 : decode cX7_commonDivisor 53 = .ok (.goto 4, 3) := by decide +kernel
theorem dX7_commonDivisor_56 : decode cX7_commonDivisor 56 = .ok (.lconst 1, 1) := by decide +kernel
theorem dX7_commonDivisor_57 : decode cX7_commonDivisor 57 = .ok (.lreturn, 1) := by decide +kernel
theorem dJ6_bitCount_0f7a4_0 : decode cJ6_bitCount_0f7a4 0 = .ok (.iload_n 0, 1) := by decide +kernel
theorem dJ6_bitCount_0f7a4_1 : decode cJ6_bitCount_0f7a4 1 = .ok (.iload_n 0, 1) := by decide +kernel
theorem dJ6_bitCount_0f7a4_2 : decode cJ6_bitCount_0f7a4 2 = .ok (.iconst 1, 1) := by decide +kernel
theorem dJ6_bitCount_0f7a4_3 : decode cJ6_bitCount_0f7a4 3 = .ok (.iushr, 1) := by decide +kernel
theorem dJ6_bitCount_0f7a4_4 : decode cJ6_bitCount_0f7a4 4 = .ok (.ldc_w 265, 3) := by decide +kernel
theorem dJ6_bitCount_0f7a4_7 : decode cJ6_bitCount_0f7a4 7 = .ok (.iand, 1) := by decide +kernel
theorem dJ6_bitCount_0f7a4_8 : decode cJ6_bitCount_0f7a4 8 = .ok (.isub, 1) := by decide +kernel
theorem dJ6_bitCount_0f7a4_9 : decode cJ6_bitCount_0f7a4 9 = .ok (.istore_n 0, 1) := by decide +kernel
theorem dJ6_bitCount_0f7a4_10 : decode cJ6_bitCount_0f7a4 10 = .ok (.iload_n 0, 1) := by decide +kernel
theorem dJ6_bitCount_0f7a4_11 : decode cJ6_bitCount_0f7a4 11 = .ok (.ldc_w 266, 3) := by decide +kernel
theorem dJ6_bitCount_0f7a4_14 : decode cJ6_bitCount_0f7a4 14 = .ok (.iand, 1) := by decide +kernel
theorem dJ6_bitCount_0f7a4_15 : decode cJ6_bitCount_0f7a4 15 = .ok (.iload_n 0, 1) := by decide +kernel
theorem dJ6_bitCount_0f7a4_16 : decode cJ6_bitCount_0f7a4 16 = .ok (.iconst 2, 1) := by decide +kernel
theorem dJ6_bitCount_0f7a4_17 : decode cJ6_bitCount_0f7a4 17 = .ok (.iushr, 1) := by decide +kernel
theorem dJ6_bitCount_0f7a4_18 : decode cJ6_bitCount_0f7a4 18 = .ok (.ldc_w 266, 3) := by decide +kernel
theorem dJ6_bitCount_0f7a4_21 : decode cJ6_bitCount_0f7a4 21 = .ok (.iand, 1) := by decide +kernel
theorem dJ6_bitCount_0f7a4_22 : decode cJ6_bitCount_0f7a4 22 = .ok (.iadd, 1) := by decide +kernel
theorem dJ6_bitCount_0f7a4_23 : decode cJ6_bitCount_0f7a4 23 = .ok (.istore_n 0, 1) := by decide +kernel
theorem dJ6_bitCount_0f7a4_24 : decode cJ6_bitCount_0f7a4 24 = .ok (.iload_n 0, 1) := by decide +kernel
theorem dJ6_bitCount_0f7a4_25 : decode cJ6_bitCount_0f7a4 25 = .ok (.iload_n 0, 1) := by decide +kernel
theorem dJ6_bitCount_0f7a4_26 : decode cJ6_bitCount_0f7a4 26 = .ok (.iconst 4, 1) := by decide +kernel
theorem dJ6_bitCount_0f7a4_27 : decode cJ6_bitCount_0f7a4 27 = .ok (.iushr, 1) := by decide +kernel
theorem dJ6_bitCount_0f7a4_28 : decode cJ6_bitCount_0f7a4 28 = .ok (.iadd, 1) := by decide +kernel
theorem dJ6_bitCount_0f7a4_29 : decode cJ6_bitCount_0f7a4 29 = .ok (.ldc_w 267, 3) := by decide +kernel
theorem dJ6_bitCount_0f7a4_32 : decode cJ6_bitCount_0f7a4 32 = .ok (.iand, 1) := by decide +kernel
theorem dJ6_bitCount_0f7a4_33 : decode cJ6_bitCount_0f7a4 33 = .ok (.istore_n 0, 1) := by decide +kernel
theorem dJ6_bitCount_0f7a4_34 : decode cJ6_bitCount_0f7a4 34 = .ok (.iload_n 0, 1) := by decide +kernel
theorem dJ6_bitCount_0f7a4_35 : decode cJ6_bitCount_0f7a4 35 = .ok (.iload_n 0, 1) := by decide +kernel
theorem dJ6_bitCount_0f7a4_36 : decode cJ6_bitCount_0f7a4 36 = .ok (.bipush 8, 2) := by decide +kernel
theorem dJ6_bitCount_0f7a4_38 : decode cJ6_bitCount_0f7a4 38 = .ok (.iushr, 1) := by decide +kernel
theorem dJ6_bitCount_0f7a4_39 : decode cJ6_bitCount_0f7a4 39 = .ok (.iadd, 1) := by decide +kernel
theorem dJ6_bitCount_0f7a4_40 : decode cJ6_bitCount_0f7a4 40 = .ok (.istore_n 0, 1) := by decide +kernel
theorem dJ6_bitCount_0f7a4_41 : decode cJ6_bitCount_0f7a4 41 = .ok (.iload_n 0, 1) := by decide +kernel
theorem dJ6_bitCount_0f7a4_42 : decode cJ6_bitCount_0f7a4 42 = .ok (.iload_n 0, 1) := by decide +kernel
theorem dJ6_bitCount_0f7a4_43 : decode cJ6_bitCount_0f7a4 43 = .ok (.bipush 16, 2) := by decide +kernel
theorem dJ6_bitCount_0f7a4_45 : decode cJ6_bitCount_0f7a4 45 = .ok (.iushr, 1) := by decide +kernel
theorem dJ6_bitCount_0f7a4_46 : decode cJ6_bitCount_0f7a4 46 = .ok (.iadd, 1) := by decide +kernel
theorem dJ6_bitCount_0f7a4_47 : decode cJ6_bitCount_0f7a4 47 = .ok (.istore_n 0, 1) := by decide +kernel
theorem dJ6_bitCount_0f7a4_48 : decode cJ6_bitCount_0f7a4 48 = .ok (.iload_n 0, 1) := by decide +kernel
theorem dJ6_bitCount_0f7a4_49 : decode cJ6_bitCount_0f7a4 49 = .ok (.bipush 63, 2) := by decide +kernel
theorem dJ6_bitCount_0f7a4_51 : decode cJ6_bitCount_0f7a4 51 = .ok (.iand, 1) := by decide +kernel
theorem dJ6_bitCount_0f7a4_52 : decode cJ6_bitCount_0f7a4 52 = .ok (.ireturn, 1) := by decide +kernel
