theorem dX7_judgeLine_7 : decode cX7_judgeLine 7 = .ok (.if_icmp .eq 5, 3) := by decide +kernel
theorem dX7_judgeLine_10 : decode cX7_judgeLine 10 = .ok (.iconst 1, 1) := by decide +kernel
theorem dX7_judgeLine_11 : decode cX7_judgeLine 11 = .ok (.ireturn, 1) := by decide +kernel
theorem dX7_judgeLine_12 : decode cX7_judgeLine 12 = .ok (.aload_n 0, 1) := by decide +kernel
theorem dX7_judgeLine_13 : decode cX7_judgeLine 13 = .ok (.getfield 56, 3) := by decide +kernel
theorem dX7_judgeLine_16 : decode cX7_judgeLine 16 = .ok (.bipush 16, 2) := by decide +kernel
theorem dX7_judgeLine_18 : decode cX7_judgeLine 18 = .ok (.if_icmp .lt 5, 3) := by decide +kernel
theorem dX7_judgeLine_21 : decode cX7_judgeLine 21 = .ok (.iconst 3, 1) := by decide +kernel
theorem dX7_judgeLine_22 : decode cX7_judgeLine 22 = .ok (.ireturn, 1) := by decide +kernel
theorem dX7_judgeLine_23 : decode cX7_judgeLine 23 = .ok (.aload_n 0, 1) := by decide +kernel
theorem dX7_judgeLine_24 : decode cX7_judgeLine 24 = .ok (.dup, 1) := by decide +kernel
theorem dX7_judgeLine_25 : decode cX7_judgeLine 25 = .ok (.getfield 56, 3) := by decide +kernel
theorem dX7_judgeLine_28 : decode cX7_judgeLine 28 = .ok (.iconst 1, 1) := by decide +kernel
theorem dX7_judgeLine_29 : decode cX7_judgeLine 29 = .ok (.iadd, 1) := by decide +kernel
theorem dX7_judgeLine_30 : decode cX7_judgeLine 30 = .ok (.putfield 56, 3) := by decide +kernel
theorem dX7_judgeLine_33 : decode cX7_judgeLine 33 = .ok (.aload_n 0, 1) := by decide +kernel
theorem dX7_judgeLine_34 : decode cX7_judgeLine 34 = .ok (.iconst 4, 1) := by decide +kernel
theorem dX7_judgeLine_35 : decode cX7_judgeLine 35 = .ok (.putfield 62, 3) := by decide +kernel
theorem dX7_judgeLine_38 : decode cX7_judgeLine 38 = .ok (.aload_n 0, 1) := by decide +kernel
theorem dX7_judgeLine_39 : decode cX7_judgeLine 39 = .ok (.iconst 2, 1) := by decide +kernel
theorem dX7_judgeLine_40 : decode cX7_judgeLine 40 = .ok (.putfield 40, 3) := by decide +kernel
theorem dX7_judgeLine_43 : decode cX7_judgeLine 43 = .ok (.iconst 0, 1) := by decide +kernel
theorem dX7_judgeLine_44 : decode cX7_judgeLine 44 = .ok (.ireturn, 1) := by decide +kernel
theorem dX7_judgeOperand_0 : decode cX7_judgeOperand 0 = .ok (.aload_n 0, 1) := by decide +kernel
theorem dX7_judgeOperand_1 : decode cX7_judgeOperand 1 = .ok (.getfield 37, 3) := by decide +kernel
theorem dX7_judgeOperand_4 : decode cX7_judgeOperand 4 = .ok (.sipush 300, 3) := by decide +kernel
theorem dX7_judgeOperand_7 : decode cX7_judgeOperand 7 = .ok (.if_icmp .ne 14, 3) := by decide +kernel
theorem dX7_judgeOperand_10 : decode cX7_judgeOperand 10 = .ok (.aload_n 0, 1) := by decide +kernel
theorem dX7_judgeOperand_11 : decode cX7_judgeOperand 11 = .ok (.aload_n 0, 1) := by decide +kernel
theorem dX7_judgeOperand_12 : decode cX7_judgeOperand 12 = .ok (.getfield 114, 3) := by decide +kernel
theorem dX7_judgeOperand_15 : decode cX7_judgeOperand 15 = .ok (.invokevirtual 142, 3) := by decide +kernel
theorem dX7_judgeOperand_18 : decode cX7_judgeOperand 18 = .ok (.goto 40, 3) := by decide +kernel
theorem dX7_judgeOperand_21 : decode cX7_judgeOperand 21 = .ok (.aload_n 0, 1) := by decide +kernel
theorem dX7_judgeOperand_22 : decode cX7_judgeOperand 22 = .ok (.getfield 37, 3) := by decide +kernel
theorem dX7_judgeOperand_25 : decode cX7_judgeOperand 25 = .ok (.sipush 261, 3) := by decide +kernel
theorem dX7_judgeOperand_28 : decode cX7_judgeOperand 28 = .ok (.sipush 270, 3) := by decide +kernel
theorem dX7_judgeOperand_31 : decode cX7_judgeOperand 31 = .ok (.invokestatic 101, 3) := by decide +kernel
theorem dX7_judgeOperand_34 : decode cX7_judgeOperand 34 = .ok (.ifCond .eq 22, 3) := by decide +kernel
theorem dX7_judgeOperand_37 : decode cX7_judgeOperand 37 = .ok (.aload_n 0, 1) := by decide +kernel
theorem dX7_judgeOperand_38 : decode cX7_judgeOperand 38 = .ok (.sipush 10000, 3) := by decide +kernel
theorem dX7_judgeOperand_41 : decode cX7_judgeOperand 41 = .ok (.aload_n 0, 1) := by decide +kernel
theorem dX7_judgeOperand_42 : decode cX7_judgeOperand 42 = .ok (.getfield 37, 3) := by decide +kernel
theorem dX7_judgeOperand_45 : decode cX7_judgeOperand 45 = .ok (.iadd, 1) := by decide +kernel
theorem dX7_judgeOperand_46 : decode cX7_judgeOperand 46 = .ok (.sipush 261, 3) := by decide +kernel
theorem dX7_judgeOperand_49 : decode cX7_judgeOperand 49 = .ok (.isub, 1) := by decide +kernel
theorem dX7_judgeOperand_50 : decode cX7_judgeOperand 50 = .ok (.invokevirtual 142, 3) := by decide +kernel
theorem dX7_judgeOperand_53 : decode cX7_judgeOperand 53 = .ok (.goto 5, 3) := by decide +kernel
theorem dX7_judgeOperand_56 : decode cX7_judgeOperand 56 = .ok (.iconst 1, 1) := by decide +kernel
theorem dX7_judgeOperand_57 : decode cX7_judgeOperand 57 = .ok (.ireturn, 1) := by decide +kernel
theorem dX7_judgeOperand_58 : decode cX7_judgeOperand 58 = .ok (.aload_n 0, 1) := by decide +kernel
theorem dX7_judgeOperand_59 : decode cX7_judgeOperand 59 = .ok (.aload_n 0, 1) := by decide +kernel
theorem dX7_judgeOperand_60 : decode cX7_judgeOperand 60 = .ok (.getfield 62, 3) := by decide +kernel
theorem dX7_judgeOperand_63 : decode cX7_judgeOperand 63 = .ok (.putfield 40, 3) := by decide +kernel
theorem dX7_judgeOperand_66 : decode cX7_judgeOperand 66 = .ok (.iconst 0, 1) := by decide +kernel
theorem dX7_judgeOperand_67 : decode cX7_judgeOperand 67 = .ok (.ireturn, 1) := by decide +kernel
theorem dX7_judgeDivisor_0 : decode cX7_judgeDivisor 0 = .ok (.aload_n 0, 1) := by decide +kernel
theorem dX7_judgeDivisor_1 : decode cX7_judgeDivisor 1 = .ok (.getfield 37, 3) := by decide +kernel
theorem dX7_judgeDivisor_4 : decode cX7_judgeDivisor 4 = .ok (.sipush 300, 3) := by decide +kernel
theorem dX7_judgeDivisor_7 : decode cX7_judgeDivisor 7 = .ok (.if_icmp .eq 5, 3) := by decide +kernel
theorem dX7_judgeDivisor_10 : decode cX7_judgeDivisor 10 = .ok (.iconst 1, 1) := by decide +kernel
theorem dX7_judgeDivisor_11 : decode cX7_judgeDivisor 11 = .ok (.ireturn, 1) := by decide +kernel
theorem dX7_judgeDivisor_12 : decode cX7_judgeDivisor 12 = .ok (.aload_n 0, 1) := by decide +kernel
theorem dX7_judgeDivisor_13 : decode cX7_judgeDivisor 13 = .ok (.getfield 114, 3) := by decide +kernel
theorem dX7_judgeDivisor_16 : decode cX7_judgeDivisor 16 = .ok (.ifCond .ne 7, 3) := by decide +kernel
theorem dX7_judgeDivisor_19 : decode cX7_judgeDivisor 19 = .ok (.iconst 2, 1) := by decide +kernel
theorem dX7_judgeDivisor_20 : decode cX7_judgeDivisor 20 = .ok (.goto 7, 3) := by decide +kernel
theorem dX7_judgeDivisor_23 : decode cX7_judgeDivisor 23 = .ok (.aload_n 0, 1) := by decide +kernel
theorem dX7_judgeDivisor_24 : decode cX7_judgeDivisor 24 = .ok (.invokevirtual 123, 3) := by decide +kernel
theorem dX7_judgeDivisor_27 : decode cX7_judgeDivisor 27 = .ok (.ireturn, 1) := by decide +kernel
theorem dX7_judgeAfterWorth_0 : decode cX7_judgeAfterWorth 0 = .ok (.aload_n 0, 1) := by decide +kernel
theorem dX7_judgeAfterWorth_1 : decode cX7_judgeAfterWorth 1 = .ok (.getfield 37, 3) := by decide +kernel
theorem dX7_judgeAfterWorth_4 : decode cX7_judgeAfterWorth 4 = .ok (.sipush 257, 3) := by decide +kernel
theorem dX7_judgeAfterWorth_7 : decode cX7_judgeAfterWorth 7 = .ok (.if_icmp .ne 15, 3) := by decide +kernel
theorem dX7_judgeAfterWorth_10 : decode cX7_judgeAfterWorth 10 = .ok (.aload_n 0, 1) := by decide +kernel
theorem dX7_judgeAfterWorth_11 : decode cX7_judgeAfterWorth 11 = .ok (.iconst 0, 1) := by decide +kernel
theorem dX7_judgeAfterWorth_12 : decode cX7_judgeAfterWorth 12 = .ok (.invokevirtual 145, 3) := by decide +kernel
theorem dX7_judgeAfterWorth_15 : decode cX7_judgeAfterWorth 15 = .ok (.aload_n 0, 1) := by decide +kernel
theorem dX7_judgeAfterWorth_16 : decode cX7_judgeAfterWorth 16 = .ok (.iconst 1, 1) := by decide +kernel
theorem dX7_judgeAfterWorth_17 : decode cX7_judgeAfterWorth 17 = .ok (.putfield 40, 3) := by decide +kernel
theorem dX7_judgeAfterWorth_20 : decode cX7_judgeAfterWorth 20 = .ok (.iconst 0, 1) := by decide +kernel
theorem dX7_judgeAfterWorth_21 : decode cX7_judgeAfterWorth 21 = .ok (.ireturn, 1) := by decide +kernel
theorem dX7_judgeAfterWorth_22 : decode cX7_judgeAfterWorth 22 = .ok (.aload_n 0, 1) := by decide +kernel
theorem dX7_judgeAfterWorth_23 : decode cX7_judgeAfterWorth 23 = .ok (.getfield 37, 3) := by decide +kernel
theorem dX7_judgeAfterWorth_26 : decode cX7_judgeAfterWorth 26 = .ok (.bipush 59, 2) := by decide +kernel
theorem dX7_judgeAfterWorth_28 : decode cX7_judgeAfterWorth 28 = .ok (.if_icmp .ne 12, 3) := by decide +kernel
theorem dX7_judgeAfterWorth_31 : decode cX7_judgeAfterWorth 31 = .ok (.aload_n 0, 1) := by decide +kernel
theorem dX7_judgeAfterWorth_32 : decode cX7_judgeAfterWorth 32 = .ok (.bipush (-59), 2) := by decide +kernel
theorem dX7_judgeAfterWorth_34 : decode cX7_judgeAfterWorth 34 = .ok (.invokevirtual 148, 3) := by decide +kernel
theorem dX7_judgeAfterWorth_37 : decode cX7_judgeAfterWorth 37 = .ok (.goto 4, 3) := by decide +kernel
theorem dX7_judgeAfterWorth_40 : decode cX7_judgeAfterWorth 40 = .ok (.iconst 1, 1) := by decide +kernel
theorem dX7_judgeAfterWorth_41 : decode cX7_judgeAfterWorth 41 = .ok (.ireturn, 1) := by decide +kernel
theorem dX7_judgeComparison_0 : decode cX7_judgeComparison 0 = .ok (.aload_n 0, 1) := by decide +kernel
theorem dX7_judgeComparison_1 : decode cX7_judgeComparison 1 = .ok (.getfield 37, 3) := by decide +kernel
theorem dX7_judgeComparison_4 : decode cX7_judgeComparison 4 = .ok (.bipush 60, 2) := by decide +kernel
theorem dX7_judgeComparison_6 : decode cX7_judgeComparison 6 = .ok (.if_icmp .eq 23, 3) := by decide +kernel
theorem dX7_judgeComparison_9 : decode cX7_judgeComparison 9 = .ok (.aload_n 0, 1) := by decide +kernel
theorem dX7_judgeComparison_10 : decode cX7_judgeComparison 10 = .ok (.getfield 37, 3) := by decide +kernel
theorem dX7_judgeComparison_13 : decode cX7_judgeComparison 13 = .ok (.bipush 61, 2) := by decide +kernel
theorem dX7_judgeComparison_15 : decode cX7_judgeComparison 15 = .ok (.if_icmp .eq 14, 3) := by decide +kernel
theorem dX7_judgeComparison_18 : decode cX7_judgeComparison 18 = .ok (.aload_n 0, 1) := by decide +kernel
theorem dX7_judgeComparison_19 : decode cX7_judgeComparison 19 = .ok (.getfield 37, 3) := by decide +kernel
theorem dX7_judgeComparison_22 : decode cX7_judgeComparison 22 = .ok (.bipush 62, 2) := by decide +kernel
theorem dX7_judgeComparison_24 : decode cX7_judgeComparison 24 = .ok (.if_icmp .eq 5, 3) := by decide +kernel
theorem dX7_judgeComparison_27 : decode cX7_judgeComparison 27 = .ok (.iconst 1, 1) := by decide +kernel
theorem dX7_judgeComparison_28 : decode cX7_judgeComparison 28 = .ok (.ireturn, 1) := by decide +kernel
theorem dX7_judgeComparison_29 : decode cX7_judgeComparison 29 = .ok (.aload_n 0, 1) := by decide +kernel
theorem dX7_judgeComparison_30 : decode cX7_judgeComparison 30 = .ok (.iconst 2, 1) := by decide +kernel
theorem dX7_judgeComparison_31 : decode cX7_judgeComparison 31 = .ok (.invokevirtual 132, 3) := by decide +kernel
theorem dX7_judgeComparison_34 : decode cX7_judgeComparison 34 = .ok (.aload_n 0, 1) := by decide +kernel
theorem dX7_judgeComparison_35 : decode cX7_judgeComparison 35 = .ok (.bipush 6, 2) := by decide +kernel
theorem dX7_judgeComparison_37 : decode cX7_judgeComparison 37 = .ok (.putfield 62, 3) := by decide +kernel
theorem dX7_judgeComparison_40 : decode cX7_judgeComparison 40 = .ok (.iconst 0, 1) := by decide +kernel
theorem dX7_judgeComparison_41 : decode cX7_judgeComparison 41 = .ok (.ireturn, 1) := by decide +kernel
theorem dX7_judgeCondition_0 : decode cX7_judgeCondition 0 = .ok (.aload_n 0, 1) := by decide +kernel
theorem dX7_judgeCondition_1 : decode cX7_judgeCondition 1 = .ok (.getfield 37, 3) := by decide +kernel
theorem dX7_judgeCondition_4 : decode cX7_judgeCondition 4 = .ok (.sipush 260, 3) := by decide +kernel
theorem dX7_judgeCondition_7 : decode cX7_judgeCondition 7 = .ok (.if_icmp .eq 22, 3) := by decide +kernel
theorem dX7_judgeCondition_10 : decode cX7_judgeCondition 10 = .ok (.aload_n 0, 1) := by decide +kernel
theorem dX7_judgeCondition_11 : decode cX7_judgeCondition 11 = .ok (.getfield 37, 3) := by decide +kernel
theorem dX7_judgeCondition_14 : decode cX7_judgeCondition 14 = .ok (.bipush 40, 2) := by decide +kernel
theorem dX7_judgeCondition_16 : decode cX7_judgeCondition 16 = .ok (.if_icmp .eq 13, 3) := by decide +kernel
theorem dX7_judgeCondition_19 : decode cX7_judgeCondition 19 = .ok (.aload_n 0, 1) := by decide +kernel
theorem dX7_judgeCondition_20 : decode cX7_judgeCondition 20 = .ok (.iconst 5, 1) := by decide +kernel
theorem dX7_judgeCondition_21 : decode cX7_judgeCondition 21 = .ok (.putfield 62, 3) := by decide +kernel
theorem dX7_judgeCondition_24 : decode cX7_judgeCondition 24 = .ok (.aload_n 0, 1) := by decide +kernel
theorem dX7_judgeCondition_25 : decode cX7_judgeCondition 25 = .ok (.invokevirtual 123, 3) := by decide +kernel
theorem dX7_judgeCondition_28 : decode cX7_judgeCondition 28 = .ok (.ireturn, 1) := by decide +kernel
theorem dX7_judgeCondition_29 : decode cX7_judgeCondition 29 = .ok (.aload_n 0, 1) := by decide +kernel
theorem dX7_judgeCondition_30 : decode cX7_judgeCondition 30 = .ok (.getfield 65, 3) := by decide +kernel
theorem dX7_judgeCondition_33 : decode cX7_judgeCondition 33 = .ok (.bipush 8, 2) := by decide +kernel
theorem dX7_judgeCondition_35 : decode cX7_judgeCondition 35 = .ok (.if_icmp .lt 5, 3) := by decide +kernel
theorem dX7_judgeCondition_38 : decode cX7_judgeCondition 38 = .ok (.iconst 3, 1) := by decide +kernel
theorem dX7_judgeCondition_39 : decode cX7_judgeCondition 39 = .ok (.ireturn, 1) := by decide +kernel
theorem dX7_judgeCondition_40 : decode cX7_judgeCondition 40 = .ok (.aload_n 0, 1) := by decide +kernel
theorem dX7_judgeCondition_41 : decode cX7_judgeCondition 41 = .ok (.dup, 1) := by decide +kernel
theorem dX7_judgeCondition_42 : decode cX7_judgeCondition 42 = .ok (.getfield 65, 3) := by decide +kernel
theorem dX7_judgeCondition_45 : decode cX7_judgeCondition 45 = .ok (.iconst 1, 1) := by decide +kernel
theorem dX7_judgeCondition_46 : decode cX7_judgeCondition 46 = .ok (.iadd, 1) := by decide +kernel
theorem dX7_judgeCondition_47 : decode cX7_judgeCondition 47 = .ok (.putfield 65, 3) := by decide +kernel
theorem dX7_judgeCondition_50 : decode cX7_judgeCondition 50 = .ok (.aload_n 0, 1) := by decide +kernel
theorem dX7_judgeCondition_51 : decode cX7_judgeCondition 51 = .ok (.getfield 37, 3) := by decide +kernel
theorem dX7_judgeCondition_54 : decode cX7_judgeCondition 54 = .ok (.bipush 40, 2) := by decide +kernel
theorem dX7_judgeCondition_56 : decode cX7_judgeCondition 56 = .ok (.if_icmp .ne 13, 3) := by decide +kernel
theorem dX7_judgeCondition_59 : decode cX7_judgeCondition 59 = .ok (.aload_n 0, 1) := by decide +kernel
theorem dX7_judgeCondition_60 : decode cX7_judgeCondition 60 = .ok (.dup, 1) := by decide +kernel
theorem dX7_judgeCondition_61 : decode cX7_judgeCondition 61 = .ok (.getfield 68, 3) := by decide +kernel
theorem dX7_judgeCondition_64 : decode cX7_judgeCondition 64 = .ok (.iconst 1, 1) := by decide +kernel
theorem dX7_judgeCondition_65 : decode cX7_judgeCondition 65 = .ok (.iadd, 1) := by decide +kernel
theorem dX7_judgeCondition_66 : decode cX7_judgeCondition 66 = .ok (.putfield 68, 3) := by decide +kernel
theorem dX7_judgeCondition_69 : decode cX7_judgeCondition 69 = .ok (.aload_n 0, 1) := by decide +kernel
theorem dX7_judgeCondition_70 : decode cX7_judgeCondition 70 = .ok (.aload_n 0, 1) := by decide +kernel
theorem dX7_judgeCondition_71 : decode cX7_judgeCondition 71 = .ok (.getfield 37, 3) := by decide +kernel
theorem dX7_judgeCondition_74 : decode cX7_judgeCondition 74 = .ok (.invokevirtual 151, 3) := by decide +kernel
theorem dX7_judgeCondition_77 : decode cX7_judgeCondition 77 = .ok (.iconst 0, 1) := by decide +kernel
theorem dX7_judgeCondition_78 : decode cX7_judgeCondition 78 = .ok (.ireturn, 1) := by decide +kernel
theorem dX7_judgeAfterCondition_0 : decode cX7_judgeAfterCondition 0 = .ok (.aload_n 0, 1) := by decide +kernel
theorem dX7_judgeAfterCondition_1 : decode cX7_judgeAfterCondition 1 = .ok (.getfield 37, 3) := by decide +kernel
theorem dX7_judgeAfterCondition_4 : decode cX7_judgeAfterCondition 4 = .ok (.sipush 259, 3) := by decide +kernel
theorem dX7_judgeAfterCondition_7 : decode cX7_judgeAfterCondition 7 = .ok (.if_icmp .eq 13, 3) := by decide +kernel
theorem dX7_judgeAfterCondition_10 : decode cX7_judgeAfterCondition 10 = .ok (.aload_n 0, 1) := by decide +kernel
theorem dX7_judgeAfterCondition_11 : decode cX7_judgeAfterCondition 11 = .ok (.getfield 37, 3) := by decide +kernel
theorem dX7_judgeAfterCondition_14 : decode cX7_judgeAfterCondition 14 = .ok (.sipush 258, 3) := by decide +kernel
theorem dX7_judgeAfterCondition_17 : decode cX7_judgeAfterCondition 17 = .ok (.if_icmp .ne 10, 3) := by decide +kernel
theorem dX7_judgeAfterCondition_20 : decode cX7_judgeAfterCondition 20 = .ok (.aload_n 0, 1) := by decide +kernel
theorem dX7_judgeAfterCondition_21 : decode cX7_judgeAfterCondition 21 = .ok (.iconst 1, 1) := by decide +kernel
theorem dX7_judgeAfterCondition_22 : decode cX7_judgeAfterCondition 22 = .ok (.invokevirtual 132, 3) := by decide +kernel
theorem dX7_judgeAfterCondition_25 : decode cX7_judgeAfterCondition 25 = .ok (.iconst 0, 1) := by decide +kernel
theorem dX7_judgeAfterCondition_26 : decode cX7_judgeAfterCondition 26 = .ok (.ireturn, 1) := by decide +kernel
theorem dX7_judgeAfterCondition_27 : decode cX7_judgeAfterCondition 27 = .ok (.aload_n 0, 1) := by decide +kernel
theorem dX7_judgeAfterCondition_28 : decode cX7_judgeAfterCondition 28 = .ok (.getfield 37, 3) := by decide +kernel
theorem dX7_judgeAfterCondition_31 : decode cX7_judgeAfterCondition 31 = .ok (.bipush 41, 2) := by decide +kernel
theorem dX7_judgeAfterCondition_33 : decode cX7_judgeAfterCondition 33 = .ok (.if_icmp .ne 16, 3) := by decide +kernel
theorem dX7_judgeAfterCondition_36 : decode cX7_judgeAfterCondition 36 = .ok (.aload_n 0, 1) := by decide +kernel
theorem dX7_judgeAfterCondition_37 : decode cX7_judgeAfterCondition 37 = .ok (.getfield 68, 3) := by decide +kernel
theorem dX7_judgeAfterCondition_40 : decode cX7_judgeAfterCondition 40 = .ok (.ifCond .le 9, 3) := by decide +kernel
theorem dX7_judgeAfterCondition_43 : decode cX7_judgeAfterCondition 43 = .ok (.aload_n 0, 1) := by decide +kernel
theorem dX7_judgeAfterCondition_44 : decode cX7_judgeAfterCondition 44 = .ok (.invokevirtual 154, 3) := by decide +kernel
theorem dX7_judgeAfterCondition_47 : decode cX7_judgeAfterCondition 47 = .ok (.iconst 0, 1) := by decide +kernel
theorem dX7_judgeAfterCondition_48 : decode cX7_judgeAfterCondition 48 = .ok (.ireturn, 1) := by decide +kernel
theorem dX7_judgeAfterCondition_49 : decode cX7_judgeAfterCondition 49 = .ok (.aload_n 0, 1) := by decide +kernel
theorem dX7_judgeAfterCondition_50 : decode cX7_judgeAfterCondition 50 = .ok (.getfield 37, 3) := by decide +kernel
theorem dX7_judgeAfterCondition_53 : decode cX7_judgeAfterCondition 53 = .ok (.bipush 59, 2) := by decide +kernel
theorem dX7_judgeAfterCondition_55 : decode cX7_judgeAfterCondition 55 = .ok (.if_icmp .ne 20, 3) := by decide +kernel
theorem dX7_judgeAfterCondition_58 : decode cX7_judgeAfterCondition 58 = .ok (.aload_n 0, 1) := by decide +kernel
theorem dX7_judgeAfterCondition_59 : decode cX7_judgeAfterCondition 59 = .ok (.getfield 68, 3) := by decide +kernel
theorem dX7_judgeAfterCondition_62 : decode cX7_judgeAfterCondition 62 = .ok (.ifCond .ne 13, 3) := by decide +kernel
theorem dX7_judgeAfterCondition_65 : decode cX7_judgeAfterCondition 65 = .ok (.aload_n 0, 1) := by decide +kernel
theorem dX7_judgeAfterCondition_66 : decode cX7_judgeAfterCondition 66 = .ok (.sipush (-257), 3) := by decide +kernel
theorem dX7_judgeAfterCondition_69 : decode cX7_judgeAfterCondition 69 = .ok (.invokevirtual 148, 3) := by decide +kernel
theorem dX7_judgeAfterCondition_72 : decode cX7_judgeAfterCondition 72 = .ok (.goto 4, 3) := by decide +kernel
theorem dX7_judgeAfterCondition_75 : decode cX7_judgeAfterCondition 75 = .ok (.iconst 1, 1) := by decide +kernel
theorem dX7_judgeAfterCondition_76 : decode cX7_judgeAfterCondition 76 = .ok (.ireturn, 1) := by decide +kernel
theorem dX7_closeBracket_0 : decode cX7_closeBracket 0 = .ok (.aload_n 0, 1) := by decide +kernel
theorem dX7_closeBracket_1 : decode cX7_closeBracket 1 = .ok (.iconst 0, 1) := by decide +kernel
theorem dX7_closeBracket_2 : decode cX7_closeBracket 2 = .ok (.invokevirtual 145, 3) := by decide +kernel
theorem dX7_closeBracket_5 : decode cX7_closeBracket 5 = .ok (.aload_n 0, 1) := by decide +kernel
theorem dX7_closeBracket_6 : decode cX7_closeBracket 6 = .ok (.dup, 1) := by decide +kernel
theorem dX7_closeBracket_7 : decode cX7_closeBracket 7 = .ok (.getfield 68, 3) := by decide +kernel
theorem dX7_closeBracket_10 : decode cX7_closeBracket 10 = .ok (.iconst 1, 1) := by decide +kernel
theorem dX7_closeBracket_11 : decode cX7_closeBracket 11 = .ok (.isub, 1) := by decide +kernel
theorem dX7_closeBracket_12 : decode cX7_closeBracket 12 = .ok (.putfield 68, 3) := by decide +kernel
theorem dX7_closeBracket_15 : decode cX7_closeBracket 15 = .ok (.aload_n 0, 1) := by decide +kernel
theorem dX7_closeBracket_16 : decode cX7_closeBracket 16 = .ok (.dup, 1) := by decide +kernel
theorem dX7_closeBracket_17 : decode cX7_closeBracket 17 = .ok (.getfield 65, 3) := by decide +kernel
theorem dX7_closeBracket_20 : decode cX7_closeBracket 20 = .ok (.iconst 1, 1) := by decide +kernel
theorem dX7_closeBracket_21 : decode cX7_closeBracket 21 = .ok (.isub, 1) := by decide +kernel
theorem dX7_closeBracket_22 : decode cX7_closeBracket 22 = .ok (.putfield 65, 3) := by decide +kernel
theorem dX7_closeBracket_25 : decode cX7_closeBracket 25 = .ok (.aload_n 0, 1) := by decide +kernel
theorem dX7_closeBracket_26 : decode cX7_closeBracket 26 = .ok (.iconst 0, 1) := by decide +kernel
theorem dX7_closeBracket_27 : decode cX7_closeBracket 27 = .ok (.aload_n 0, 1) := by decide +kernel
theorem dX7_closeBracket_28 : decode cX7_closeBracket 28 = .ok (.getfield 59, 3) := by decide +kernel
theorem dX7_closeBracket_31 : decode cX7_closeBracket 31 = .ok (.iconst 1, 1) := by decide +kernel
theorem dX7_closeBracket_32 : decode cX7_closeBracket 32 = .ok (.isub, 1) := by decide +kernel
theorem dX7_closeBracket_33 : decode cX7_closeBracket 33 = .ok (.invokestatic 157, 3) := by decide +kernel
theorem dX7_closeBracket_36 : decode cX7_closeBracket 36 = .ok (.putfield 59, 3) := by decide +kernel
theorem dX7_closeBracket_39 : decode cX7_closeBracket 39 = .ok (.aload_n 0, 1) := by decide +kernel
theorem dX7_closeBracket_40 : decode cX7_closeBracket 40 = .ok (.bipush 7, 2) := by decide +kernel
theorem dX7_closeBracket_42 : decode cX7_closeBracket 42 = .ok (.putfield 40, 3) := by decide +kernel
theorem dX7_closeBracket_45 : decode cX7_closeBracket 45 = .ok (.return_, 1) := by decide +kernel
theorem dX7_endLine_0 : decode cX7_endLine 0 = .ok (.aload_n 0, 1) := by decide +kernel
theorem dX7_endLine_1 : decode cX7_endLine 1 = .ok (.iconst 0, 1) := by decide +kernel
theorem dX7_endLine_2 : decode cX7_endLine 2 = .ok (.invokevirtual 145, 3) := by decide +kernel
theorem dX7_endLine_5 : decode cX7_endLine 5 = .ok (.aload_n 0, 1) := by decide +kernel
theorem dX7_endLine_6 : decode cX7_endLine 6 = .ok (.iload_n 1, 1) := by decide +kernel
theorem dX7_endLine_7 : decode cX7_endLine 7 = .ok (.invokevirtual 142, 3) := by decide +kernel
theorem dX7_endLine_10 : decode cX7_endLine 10 = .ok (.aload_n 0, 1) := by decide +kernel
theorem dX7_endLine_11 : decode cX7_endLine 11 = .ok (.iconst 0, 1) := by decide +kernel
theorem dX7_endLine_12 : decode cX7_endLine 12 = .ok (.putfield 40, 3) := by decide +kernel
theorem dX7_endLine_15 : decode cX7_endLine 15 = .ok (.iconst 0, 1) := by decide +kernel
theorem dX7_endLine_16 : decode cX7_endLine 16 = .ok (.ireturn, 1) := by decide +kernel
theorem dX7_takeOperator_0 : decode cX7_takeOperator 0 = .ok (.aload_n 0, 1) := by decide +kernel
theorem dX7_takeOperator_1 : decode cX7_takeOperator 1 = .ok (.aload_n 0, 1) := by decide +kernel
theorem dX7_takeOperator_2 : decode cX7_takeOperator 2 = .ok (.getfield 37, 3) := by decide +kernel
theorem dX7_takeOperator_5 : decode cX7_takeOperator 5 = .ok (.invokestatic 163, 3) := by decide +kernel
theorem dX7_takeOperator_8 : decode cX7_takeOperator 8 = .ok (.invokevirtual 145, 3) := by decide +kernel
theorem dX7_takeOperator_11 : decode cX7_takeOperator 11 = .ok (.aload_n 0, 1) := by decide +kernel
theorem dX7_takeOperator_12 : decode cX7_takeOperator 12 = .ok (.aload_n 0, 1) := by decide +kernel
theorem dX7_takeOperator_13 : decode cX7_takeOperator 13 = .ok (.getfield 37, 3) := by decide +kernel
theorem dX7_takeOperator_16 : decode cX7_takeOperator 16 = .ok (.invokevirtual 151, 3) := by decide +kernel
theorem dX7_takeOperator_19 : decode cX7_takeOperator 19 = .ok (.aload_n 0, 1) := by decide +kernel
theorem dX7_takeOperator_20 : decode cX7_takeOperator 20 = .ok (.iload_n 1, 1) := by decide +kernel
theorem dX7_takeOperator_21 : decode cX7_takeOperator 21 = .ok (.putfield 40, 3) := by decide +kernel
theorem dX7_takeOperator_24 : decode cX7_takeOperator 24 = .ok (.return_, 1) := by decide +kernel
theorem dX7_emitWaiting_0 : decode cX7_emitWaiting 0 = .ok (.aload_n 0, 1) := by decide +kernel
theorem dX7_emitWaiting_1 : decode cX7_emitWaiting 1 = .ok (.getfield 59, 3) := by decide +kernel
theorem dX7_emitWaiting_4 : decode cX7_emitWaiting 4 = .ok (.ifCond .le 89, 3) := by decide +kernel
theorem dX7_emitWaiting_7 : decode cX7_emitWaiting 7 = .ok (.aload_n 0, 1) := by decide +kernel
theorem dX7_emitWaiting_8 : decode cX7_emitWaiting 8 = .ok (.getfield 19, 3) := by decide +kernel
theorem dX7_emitWaiting_11 : decode cX7_emitWaiting 11 = .ok (.aload_n 0, 1) := by decide +kernel
theorem dX7_emitWaiting_12 : decode cX7_emitWaiting 12 = .ok (.getfield 59, 3) := by decide +kernel
theorem dX7_emitWaiting_15 : decode cX7_emitWaiting 15 = .ok (.iconst 1, 1) := by decide +kernel
theorem dX7_emitWaiting_16 : decode cX7_emitWaiting 16 = .ok (.isub, 1) := by decide +kernel
theorem dX7_emitWaiting_17 : decode cX7_emitWaiting 17 = .ok (.iaload, 1) := by decide +kernel
theorem dX7_emitWaiting_18 : decode cX7_emitWaiting 18 = .ok (.bipush 40, 2) := by decide +kernel
theorem dX7_emitWaiting_20 : decode cX7_emitWaiting 20 = .ok (.if_icmp .eq 73, 3) := by decide +kernel
theorem dX7_emitWaiting_23 : decode cX7_emitWaiting 23 = .ok (.aload_n 0, 1) := by decide +kernel
theorem dX7_emitWaiting_24 : decode cX7_emitWaiting 24 = .ok (.getfield 19, 3) := by decide +kernel
theorem dX7_emitWaiting_27 : decode cX7_emitWaiting 27 = .ok (.aload_n 0, 1) := by decide +kernel
theorem dX7_emitWaiting_28 : decode cX7_emitWaiting 28 = .ok (.getfield 59, 3) := by decide +kernel
theorem dX7_emitWaiting_31 : decode cX7_emitWaiting 31 = .ok (.iconst 1, 1) := by decide +kernel
theorem dX7_emitWaiting_32 : decode cX7_emitWaiting 32 = .ok (.isub, 1) := by decide +kernel
theorem dX7_emitWaiting_33 : decode cX7_emitWaiting 33 = .ok (.iaload, 1) := by decide +kernel
theorem dX7_emitWaiting_34 : decode cX7_emitWaiting 34 = .ok (.invokestatic 163, 3) := by decide +kernel
theorem dX7_emitWaiting_37 : decode cX7_emitWaiting 37 = .ok (.iload_n 1, 1) := by decide +kernel
theorem dX7_emitWaiting_38 : decode cX7_emitWaiting 38 = .ok (.if_icmp .lt 55, 3) := by decide +kernel
theorem dX7_emitWaiting_41 : decode cX7_emitWaiting 41 = .ok (.aload_n 0, 1) := by decide +kernel
theorem dX7_emitWaiting_42 : decode cX7_emitWaiting 42 = .ok (.dup, 1) := by decide +kernel
theorem dX7_emitWaiting_43 : decode cX7_emitWaiting 43 = .ok (.getfield 59, 3) := by decide +kernel
theorem dX7_emitWaiting_46 : decode cX7_emitWaiting 46 = .ok (.iconst 1, 1) := by decide +kernel
theorem dX7_emitWaiting_47 : decode cX7_emitWaiting 47 = .ok (.isub, 1) := by decide +kernel
theorem dX7_emitWaiting_48 : decode cX7_emitWaiting 48 = .ok (.putfield 59, 3) := by decide +kernel
theorem dX7_emitWaiting_51 : decode cX7_emitWaiting 51 = .ok (.aload_n 0, 1) := by decide +kernel
theorem dX7_emitWaiting_52 : decode cX7_emitWaiting 52 = .ok (.getfield 19, 3) := by decide +kernel
theorem dX7_emitWaiting_55 : decode cX7_emitWaiting 55 = .ok (.aload_n 0, 1) := by decide +kernel
theorem dX7_emitWaiting_56 : decode cX7_emitWaiting 56 = .ok (.getfield 59, 3) := by decide +kernel
theorem dX7_emitWaiting_59 : decode cX7_emitWaiting 59 = .ok (.iaload, 1) := by decide +kernel
theorem dX7_emitWaiting_60 : decode cX7_emitWaiting 60 = .ok (.sipush 260, 3) := by decide +kernel
theorem dX7_emitWaiting_63 : decode cX7_emitWaiting 63 = .ok (.if_icmp .ne 13, 3) := by decide +kernel
theorem dX7_emitWaiting_66 : decode cX7_emitWaiting 66 = .ok (.aload_n 0, 1) := by decide +kernel
theorem dX7_emitWaiting_67 : decode cX7_emitWaiting 67 = .ok (.dup, 1) := by decide +kernel
theorem dX7_emitWaiting_68 : decode cX7_emitWaiting 68 = .ok (.getfield 65, 3) := by decide +kernel
theorem dX7_emitWaiting_71 : decode cX7_emitWaiting 71 = .ok (.iconst 1, 1) := by decide +kernel
theorem dX7_emitWaiting_72 : decode cX7_emitWaiting 72 = .ok (.isub, 1) := by decide +kernel
theorem dX7_emitWaiting_73 : decode cX7_emitWaiting 73 = .ok (.putfield 65, 3) := by decide +kernel
theorem dX7_emitWaiting_76 : decode cX7_emitWaiting 76 = .ok (.aload_n 0, 1) := by decide +kernel
theorem dX7_emitWaiting_77 : decode cX7_emitWaiting 77 = .ok (.aload_n 0, 1) := by decide +kernel
theorem dX7_emitWaiting_78 : decode cX7_emitWaiting 78 = .ok (.getfield 19, 3) := by decide +kernel
theorem dX7_emitWaiting_81 : decode cX7_emitWaiting 81 = .ok (.aload_n 0, 1) := by decide +kernel
theorem dX7_emitWaiting_82 : decode cX7_emitWaiting 82 = .ok (.getfield 59, 3) := by decide +kernel
theorem dX7_emitWaiting_85 : decode cX7_emitWaiting 85 = .ok (.iaload, 1) := by decide +kernel
theorem dX7_emitWaiting_86 : decode cX7_emitWaiting 86 = .ok (.ineg, 1) := by decide +kernel
theorem dX7_emitWaiting_87 : decode cX7_emitWaiting 87 = .ok (.invokevirtual 142, 3) := by decide +kernel
theorem dX7_emitWaiting_90 : decode cX7_emitWaiting 90 = .ok (.goto (-90), 3) := by decide +kernel
theorem dX7_emitWaiting_93 : decode cX7_emitWaiting 93 = .ok (.return_, 1) := by decide +kernel
theorem dX7_bindingOf_0 : decode cX7_bindingOf 0 = .ok (.iload_n 0, 1) := by decide +kernel
theorem dX7_bindingOf_1 : decode cX7_bindingOf 1 = .ok (.lookupswitch 85 #[(43, 83), (45, 83), (60, 81), (61, 81), (62, 81), (258, 75), (259, 77), (260, 79)], 75) := by decide +kernel
theorem dX7_bindingOf_76 : decode cX7_bindingOf 76 = .ok (.iconst 1, 1) := by decide +kernel
theorem dX7_bindingOf_77 : decode cX7_bindingOf 77 = .ok (.ireturn, 1) := by decide +kernel
theorem dX7_bindingOf_78 : decode cX7_bindingOf 78 = .ok (.iconst 2, 1) := by decide +kernel
theorem dX7_bindingOf_79 : decode cX7_bindingOf 79 = .ok (.ireturn, 1) := by decide +kernel
theorem dX7_bindingOf_80 : decode cX7_bindingOf 80 = .ok (.iconst 3, 1) := by decide +kernel
theorem dX7_bindingOf_81 : decode cX7_bindingOf 81 = .ok (.ireturn, 1) := by decide +kernel
theorem dX7_bindingOf_82 : decode cX7_bindingOf 82 = .ok (.iconst 4, 1) := by decide +kernel
theorem dX7_bindingOf_83 : decode cX7_bindingOf 83 = .ok (.ireturn, 1) := by decide +kernel
theorem dX7_bindingOf_84 : decode cX7_bindingOf 84 = .ok (.iconst 5, 1) := by decide +kernel
theorem dX7_bindingOf_85 : decode cX7_bindingOf 85 = .ok (.ireturn, 1) := by decide +kernel
theorem dX7_bindingOf_86 : decode cX7_bindingOf 86 = .ok (.bipush 6, 2) := by decide +kernel
theorem dX7_bindingOf_88 : decode cX7_bindingOf 88 = .ok (.ireturn, 1) := by decide +kernel
theorem dX7_push_0 : decode cX7_push 0 = .ok (.aload_n 0, 1) := by decide +kernel
theorem dX7_push_1 : decode cX7_push 1 = .ok (.getfield 59, 3) := by decide +kernel
theorem dX7_push_4 : decode cX7_push 4 = .ok (.bipush 64, 2) := by decide +kernel
theorem dX7_push_6 : decode cX7_push 6 = .ok (.if_icmp .ge 23, 3) := by decide +kernel
theorem dX7_push_9 : decode cX7_push 9 = .ok (.aload_n 0, 1) := by decide +kernel
theorem dX7_push_10 : decode cX7_push 10 = .ok (.getfield 19, 3) := by decide +kernel
theorem dX7_push_13 : decode cX7_push 13 = .ok (.aload_n 0, 1) := by decide +kernel
theorem dX7_push_14 : decode cX7_push 14 = .ok (.getfield 59, 3) := by decide +kernel
theorem dX7_push_17 : decode cX7_push 17 = .ok (.iload_n 1, 1) := by decide +kernel
theorem dX7_push_18 : decode cX7_push 18 = .ok (.iastore, 1) := by decide +kernel
theorem dX7_push_19 : decode cX7_push 19 = .ok (.aload_n 0, 1) := by decide +kernel
theorem dX7_push_20 : decode cX7_push 20 = .ok (.dup, 1) := by decide +kernel
theorem dX7_push_21 : decode cX7_push 21 = .ok (.getfield 59, 3) := by decide +kernel
theorem dX7_push_24 : decode cX7_push 24 = .ok (.iconst 1, 1) := by decide +kernel
theorem dX7_push_25 : decode cX7_push 25 = .ok (.iadd, 1) := by decide +kernel
theorem dX7_push_26 : decode cX7_push 26 = .ok (.putfield 59, 3) := by decide +kernel
theorem dX7_push_29 : decode cX7_push 29 = .ok (.return_, 1) := by decide +kernel
theorem dX7_emit_0 : decode cX7_emit 0 = .ok (.aload_n 0, 1) := by decide +kernel
theorem dX7_emit_1 : decode cX7_emit 1 = .ok (.getfield 53, 3) := by decide +kernel
theorem dX7_emit_4 : decode cX7_emit 4 = .ok (.sipush 400, 3) := by decide +kernel
theorem dX7_emit_7 : decode cX7_emit 7 = .ok (.if_icmp .ge 23, 3) := by decide +kernel
theorem dX7_emit_10 : decode cX7_emit 10 = .ok (.aload_n 0, 1) := by decide +kernel
theorem dX7_emit_11 : decode cX7_emit 11 = .ok (.getfield 9, 3) := by decide +kernel
theorem dX7_emit_14 : decode cX7_emit 14 = .ok (.aload_n 0, 1) := by decide +kernel
theorem dX7_emit_15 : decode cX7_emit 15 = .ok (.getfield 53, 3) := by decide +kernel
theorem dX7_emit_18 : decode cX7_emit 18 = .ok (.iload_n 1, 1) := by decide +kernel
theorem dX7_emit_19 : decode cX7_emit 19 = .ok (.iastore, 1) := by decide +kernel
theorem dX7_emit_20 : decode cX7_emit 20 = .ok (.aload_n 0, 1) := by decide +kernel
theorem dX7_emit_21 : decode cX7_emit 21 = .ok (.dup, 1) := by decide +kernel
theorem dX7_emit_22 : decode cX7_emit 22 = .ok (.getfield 53, 3) := by decide +kernel
theorem dX7_emit_25 : decode cX7_emit 25 = .ok (.iconst 1, 1) := by decide +kernel
theorem dX7_emit_26 : decode cX7_emit 26 = .ok (.iadd, 1) := by decide +kernel
theorem dX7_emit_27 : decode cX7_emit 27 = .ok (.putfield 53, 3) := by decide +kernel
theorem dX7_emit_30 : decode cX7_emit 30 = .ok (.return_, 1) := by decide +kernel
theorem dX8_init_0 : decode cX8_init 0 = .ok (.aload_n 0, 1) := by decide +kernel
theorem dX8_init_1 : decode cX8_init 1 = .ok (.invokespecial 3, 3) := by decide +kernel
theorem dX8_init_4 : decode cX8_init 4 = .ok (.aload_n 0, 1) := by decide +kernel
theorem dX8_init_5 : decode cX8_init 5 = .ok (.bipush 9, 2) := by decide +kernel
theorem dX8_init_7 : decode cX8_init 7 = .ok (.newarray .int, 2) := by decide +kernel
theorem dX8_init_9 : decode cX8_init 9 = .ok (.putfield 9, 3) := by decide +kernel
theorem dX8_init_12 : decode cX8_init 12 = .ok (.aload_n 0, 1) := by decide +kernel
theorem dX8_init_13 : decode cX8_init 13 = .ok (.sipush 512, 3) := by decide +kernel
theorem dX8_init_16 : decode cX8_init 16 = .ok (.newarray .int, 2) := by decide +kernel
theorem dX8_init_18 : decode cX8_init 18 = .ok (.putfield 15, 3) := by decide +kernel
theorem dX8_init_21 : decode cX8_init 21 = .ok (.aload_n 0, 1) := by decide +kernel
theorem dX8_init_22 : decode cX8_init 22 = .ok (.sipush 512, 3) := by decide +kernel
theorem dX8_init_25 : decode cX8_init 25 = .ok (.newarray .int, 2) := by decide +kernel
theorem dX8_init_27 : decode cX8_init 27 = .ok (.putfield 18, 3) := by decide +kernel
theorem dX8_init_30 : decode cX8_init 30 = .ok (.return_, 1) := by decide +kernel
theorem dX8_fewest_0 : decode cX8_fewest 0 = .ok (.iconst 0, 1) := by decide +kernel
theorem dX8_fewest_1 : decode cX8_fewest 1 = .ok (.istore_n 2, 1) := by decide +kernel
theorem dX8_fewest_2 : decode cX8_fewest 2 = .ok (.iconst 0, 1) := by decide +kernel
theorem dX8_fewest_3 : decode cX8_fewest 3 = .ok (.istore_n 3, 1) := by decide +kernel
theorem dX8_fewest_4 : decode cX8_fewest 4 = .ok (.iload_n 3, 1) := by decide +kernel
theorem dX8_fewest_5 : decode cX8_fewest 5 = .ok (.aload_n 1, 1) := by decide +kernel
theorem dX8_fewest_6 : decode cX8_fewest 6 = .ok (.getfield 21, 3) := by decide +kernel
theorem dX8_fewest_9 : decode cX8_fewest 9 = .ok (.if_icmp .ge 33, 3) := by decide +kernel
theorem dX8_fewest_12 : decode cX8_fewest 12 = .ok (.aload_n 1, 1) := by decide +kernel
theorem dX8_fewest_13 : decode cX8_fewest 13 = .ok (.getfield 27, 3) := by decide +kernel
theorem dX8_fewest_16 : decode cX8_fewest 16 = .ok (.iload_n 3, 1) := by decide +kernel
theorem dX8_fewest_17 : decode cX8_fewest 17 = .ok (.iaload, 1) := by decide +kernel
theorem dX8_fewest_18 : decode cX8_fewest 18 = .ok (.ifCond .eq 18, 3) := by decide +kernel
theorem dX8_fewest_21 : decode cX8_fewest 21 = .ok (.aload_n 0, 1) := by decide +kernel
theorem dX8_fewest_22 : decode cX8_fewest 22 = .ok (.getfield 9, 3) := by decide +kernel
theorem dX8_fewest_25 : decode cX8_fewest 25 = .ok (.iload_n 2, 1) := by decide +kernel
theorem dX8_fewest_26 : decode cX8_fewest 26 = .ok (.aload_n 1, 1) := by decide +kernel
theorem dX8_fewest_27 : decode cX8_fewest 27 = .ok (.getfield 27, 3) := by decide +kernel
theorem dX8_fewest_30 : decode cX8_fewest 30 = .ok (.iload_n 3, 1) := by decide +kernel
theorem dX8_fewest_31 : decode cX8_fewest 31 = .ok (.iaload, 1) := by decide +kernel
theorem dX8_fewest_32 : decode cX8_fewest 32 = .ok (.iastore, 1) := by decide +kernel
theorem dX8_fewest_33 : decode cX8_fewest 33 = .ok (.iinc 2 1, 3) := by decide +kernel
theorem dX8_fewest_36 : decode cX8_fewest 36 = .ok (.iinc 3 1, 3) := by decide +kernel
theorem dX8_fewest_39 : decode cX8_fewest 39 = .ok (.goto (-35), 3) := by decide +kernel
theorem dX8_fewest_42 : decode cX8_fewest 42 = .ok (.iconst 1, 1) := by decide +kernel
theorem dX8_fewest_43 : decode cX8_fewest 43 = .ok (.iload_n 2, 1) := by decide +kernel
theorem dX8_fewest_44 : decode cX8_fewest 44 = .ok (.ishl, 1) := by decide +kernel
theorem dX8_fewest_45 : decode cX8_fewest 45 = .ok (.istore_n 3, 1) := by decide +kernel
theorem dX8_fewest_46 : decode cX8_fewest 46 = .ok (.iconst 1, 1) := by decide +kernel
theorem dX8_fewest_47 : decode cX8_fewest 47 = .ok (.istore 4, 2) := by decide +kernel
theorem dX8_fewest_49 : decode cX8_fewest 49 = .ok (.iload 4, 2) := by decide +kernel
theorem dX8_fewest_51 : decode cX8_fewest 51 = .ok (.iload_n 3, 1) := by decide +kernel
theorem dX8_fewest_52 : decode cX8_fewest 52 = .ok (.if_icmp .ge 126, 3) := by decide +kernel
theorem dX8_fewest_55 : decode cX8_fewest 55 = .ok (.aload_n 0, 1) := by decide +kernel
theorem dX8_fewest_56 : decode cX8_fewest 56 = .ok (.getfield 15, 3) := by decide +kernel
theorem dX8_fewest_59 : decode cX8_fewest 59 = .ok (.iload 4, 2) := by decide +kernel
theorem dX8_fewest_61 : decode cX8_fewest 61 = .ok (.iconst 0, 1) := by decide +kernel
theorem dX8_fewest_62 : decode cX8_fewest 62 = .ok (.iastore, 1) := by decide +kernel
theorem dX8_fewest_63 : decode cX8_fewest 63 = .ok (.aload_n 0, 1) := by decide +kernel
theorem dX8_fewest_64 : decode cX8_fewest 64 = .ok (.getfield 18, 3) := by decide +kernel
theorem dX8_fewest_67 : decode cX8_fewest 67 = .ok (.iload 4, 2) := by decide +kernel
theorem dX8_fewest_69 : decode cX8_fewest 69 = .ok (.iconst 0, 1) := by decide +kernel
theorem dX8_fewest_70 : decode cX8_fewest 70 = .ok (.iastore, 1) := by decide +kernel
theorem dX8_fewest_71 : decode cX8_fewest 71 = .ok (.iconst 0, 1) := by decide +kernel
theorem dX8_fewest_72 : decode cX8_fewest 72 = .ok (.istore 5, 2) := by decide +kernel
theorem dX8_fewest_74 : decode cX8_fewest 74 = .ok (.iload 5, 2) := by decide +kernel
theorem dX8_fewest_76 : decode cX8_fewest 76 = .ok (.iload_n 2, 1) := by decide +kernel
theorem dX8_fewest_77 : decode cX8_fewest 77 = .ok (.if_icmp .ge 74, 3) := by decide +kernel
theorem dX8_fewest_80 : decode cX8_fewest 80 = .ok (.iload 4, 2) := by decide +kernel
theorem dX8_fewest_82 : decode cX8_fewest 82 = .ok (.iconst 1, 1) := by decide +kernel
theorem dX8_fewest_83 : decode cX8_fewest 83 = .ok (.iload 5, 2) := by decide +kernel
theorem dX8_fewest_85 : decode cX8_fewest 85 = .ok (.ishl, 1) := by decide +kernel
theorem dX8_fewest_86 : decode cX8_fewest 86 = .ok (.iand, 1) := by decide +kernel
theorem dX8_fewest_87 : decode cX8_fewest 87 = .ok (.ifCond .eq 58, 3) := by decide +kernel
theorem dX8_fewest_90 : decode cX8_fewest 90 = .ok (.iload 4, 2) := by decide +kernel
theorem dX8_fewest_92 : decode cX8_fewest 92 = .ok (.iconst 1, 1) := by decide +kernel
theorem dX8_fewest_93 : decode cX8_fewest 93 = .ok (.iload 5, 2) := by decide +kernel
theorem dX8_fewest_95 : decode cX8_fewest 95 = .ok (.ishl, 1) := by decide +kernel
theorem dX8_fewest_96 : decode cX8_fewest 96 = .ok (.ixor, 1) := by decide +kernel
theorem dX8_fewest_97 : decode cX8_fewest 97 = .ok (.istore 6, 2) := by decide +kernel
theorem dX8_fewest_99 : decode cX8_fewest 99 = .ok (.aload_n 0, 1) := by decide +kernel
theorem dX8_fewest_100 : decode cX8_fewest 100 = .ok (.getfield 15, 3) := by decide +kernel
theorem dX8_fewest_103 : decode cX8_fewest 103 = .ok (.iload 4, 2) := by decide +kernel
theorem dX8_fewest_105 : decode cX8_fewest 105 = .ok (.aload_n 0, 1) := by decide +kernel
theorem dX8_fewest_106 : decode cX8_fewest 106 = .ok (.getfield 15, 3) := by decide +kernel
theorem dX8_fewest_109 : decode cX8_fewest 109 = .ok (.iload 6, 2) := by decide +kernel
theorem dX8_fewest_111 : decode cX8_fewest 111 = .ok (.iaload, 1) := by decide +kernel
theorem dX8_fewest_112 : decode cX8_fewest 112 = .ok (.aload_n 0, 1) := by decide +kernel
theorem dX8_fewest_113 : decode cX8_fewest 113 = .ok (.getfield 9, 3) := by decide +kernel
theorem dX8_fewest_116 : decode cX8_fewest 116 = .ok (.iload 5, 2) := by decide +kernel
theorem dX8_fewest_118 : decode cX8_fewest 118 = .ok (.iaload, 1) := by decide +kernel
theorem dX8_fewest_119 : decode cX8_fewest 119 = .ok (.iadd, 1) := by decide +kernel
theorem dX8_fewest_120 : decode cX8_fewest 120 = .ok (.iastore, 1) := by decide +kernel
theorem dX8_fewest_121 : decode cX8_fewest 121 = .ok (.aload_n 0, 1) := by decide +kernel
theorem dX8_fewest_122 : decode cX8_fewest 122 = .ok (.getfield 18, 3) := by decide +kernel
theorem dX8_fewest_125 : decode cX8_fewest 125 = .ok (.iload 4, 2) := by decide +kernel
theorem dX8_fewest_127 : decode cX8_fewest 127 = .ok (.aload_n 0, 1) := by decide +kernel
theorem dX8_fewest_128 : decode cX8_fewest 128 = .ok (.getfield 18, 3) := by decide +kernel
theorem dX8_fewest_131 : decode cX8_fewest 131 = .ok (.iload 4, 2) := by decide +kernel
theorem dX8_fewest_133 : decode cX8_fewest 133 = .ok (.iaload, 1) := by decide +kernel
theorem dX8_fewest_134 : decode cX8_fewest 134 = .ok (.aload_n 0, 1) := by decide +kernel
theorem dX8_fewest_135 : decode cX8_fewest 135 = .ok (.getfield 18, 3) := by decide +kernel
theorem dX8_fewest_138 : decode cX8_fewest 138 = .ok (.iload 6, 2) := by decide +kernel
theorem dX8_fewest_140 : decode cX8_fewest 140 = .ok (.iaload, 1) := by decide +kernel
theorem dX8_fewest_141 : decode cX8_fewest 141 = .ok (.invokestatic 30, 3) := by decide +kernel
theorem dX8_fewest_144 : decode cX8_fewest 144 = .ok (.iastore, 1) := by decide +kernel
theorem dX8_fewest_145 : decode cX8_fewest 145 = .ok (.iinc 5 1, 3) := by decide +kernel
theorem dX8_fewest_148 : decode cX8_fewest 148 = .ok (.goto (-74), 3) := by decide +kernel
theorem dX8_fewest_151 : decode cX8_fewest 151 = .ok (.aload_n 0, 1) := by decide +kernel
theorem dX8_fewest_152 : decode cX8_fewest 152 = .ok (.getfield 15, 3) := by decide +kernel
theorem dX8_fewest_155 : decode cX8_fewest 155 = .ok (.iload 4, 2) := by decide +kernel
theorem dX8_fewest_157 : decode cX8_fewest 157 = .ok (.iaload, 1) := by decide +kernel
theorem dX8_fewest_158 : decode cX8_fewest 158 = .ok (.ifCond .ne 14, 3) := by decide +kernel
theorem dX8_fewest_161 : decode cX8_fewest 161 = .ok (.aload_n 0, 1) := by decide +kernel
theorem dX8_fewest_162 : decode cX8_fewest 162 = .ok (.getfield 18, 3) := by decide +kernel
theorem dX8_fewest_165 : decode cX8_fewest 165 = .ok (.iload 4, 2) := by decide +kernel
theorem dX8_fewest_167 : decode cX8_fewest 167 = .ok (.dup2, 1) := by decide +kernel
theorem dX8_fewest_168 : decode cX8_fewest 168 = .ok (.iaload, 1) := by decide +kernel
theorem dX8_fewest_169 : decode cX8_fewest 169 = .ok (.iconst 1, 1) := by decide +kernel
theorem dX8_fewest_170 : decode cX8_fewest 170 = .ok (.iadd, 1) := by decide +kernel
theorem dX8_fewest_171 : decode cX8_fewest 171 = .ok (.iastore, 1) := by decide +kernel
theorem dX8_fewest_172 : decode cX8_fewest 172 = .ok (.iinc 4 1, 3) := by decide +kernel
theorem dX8_fewest_175 : decode cX8_fewest 175 = .ok (.goto (-126), 3) := by decide +kernel
theorem dX8_fewest_178 : decode cX8_fewest 178 = .ok (.iload_n 2, 1) := by decide +kernel
theorem dX8_fewest_179 : decode cX8_fewest 179 = .ok (.aload_n 0, 1) := by decide +kernel
theorem dX8_fewest_180 : decode cX8_fewest 180 = .ok (.getfield 18, 3) := by decide +kernel
theorem dX8_fewest_183 : decode cX8_fewest 183 = .ok (.iload_n 3, 1) := by decide +kernel
theorem dX8_fewest_184 : decode cX8_fewest 184 = .ok (.iconst 1, 1) := by decide +kernel
theorem dX8_fewest_185 : decode cX8_fewest 185 = .ok (.isub, 1) := by decide +kernel
theorem dX8_fewest_186 : decode cX8_fewest 186 = .ok (.iaload, 1) := by decide +kernel
theorem dX8_fewest_187 : decode cX8_fewest 187 = .ok (.isub, 1) := by decide +kernel
theorem dX8_fewest_188 : decode cX8_fewest 188 = .ok (.ireturn, 1) := by decide +kernel
theorem dX9_init_0 : decode cX9_init 0 = .ok (.aload_n 0, 1) := by decide +kernel
theorem dX9_init_1 : decode cX9_init 1 = .ok (.invokespecial 3, 3) := by decide +kernel
theorem dX9_init_4 : decode cX9_init 4 = .ok (.aload_n 0, 1) := by decide +kernel
theorem dX9_init_5 : decode cX9_init 5 = .ok (.sipush 400, 3) := by decide +kernel
theorem dX9_init_8 : decode cX9_init 8 = .ok (.newarray .int, 2) := by decide +kernel
theorem dX9_init_10 : decode cX9_init 10 = .ok (.putfield 9, 3) := by decide +kernel
theorem dX9_init_13 : decode cX9_init 13 = .ok (.return_, 1) := by decide +kernel
theorem dX9_add_0 : decode cX9_add 0 = .ok (.bipush 24, 2) := by decide +kernel
theorem dX9_add_2 : decode cX9_add 2 = .ok (.istore_n 2, 1) := by decide +kernel
theorem dX9_add_3 : decode cX9_add 3 = .ok (.iload_n 2, 1) := by decide +kernel
theorem dX9_add_4 : decode cX9_add 4 = .ok (.ifCond .lt 45, 3) := by decide +kernel
theorem dX9_add_7 : decode cX9_add 7 = .ok (.aload_n 0, 1) := by decide +kernel
theorem dX9_add_8 : decode cX9_add 8 = .ok (.getfield 15, 3) := by decide +kernel
theorem dX9_add_11 : decode cX9_add 11 = .ok (.sipush 400, 3) := by decide +kernel
theorem dX9_add_14 : decode cX9_add 14 = .ok (.if_icmp .ge 35, 3) := by decide +kernel
theorem dX9_add_17 : decode cX9_add 17 = .ok (.aload_n 0, 1) := by decide +kernel
theorem dX9_add_18 : decode cX9_add 18 = .ok (.getfield 9, 3) := by decide +kernel
theorem dX9_add_21 : decode cX9_add 21 = .ok (.aload_n 0, 1) := by decide +kernel
theorem dX9_add_22 : decode cX9_add 22 = .ok (.getfield 15, 3) := by decide +kernel
theorem dX9_add_25 : decode cX9_add 25 = .ok (.iload_n 1, 1) := by decide +kernel
theorem dX9_add_26 : decode cX9_add 26 = .ok (.iload_n 2, 1) := by decide +kernel
theorem dX9_add_27 : decode cX9_add 27 = .ok (.iushr, 1) := by decide +kernel
theorem dX9_add_28 : decode cX9_add 28 = .ok (.sipush 255, 3) := by decide +kernel
theorem dX9_add_31 : decode cX9_add 31 = .ok (.iand, 1) := by decide +kernel
theorem dX9_add_32 : decode cX9_add 32 = .ok (.iastore, 1) := by decide +kernel
theorem dX9_add_33 : decode cX9_add 33 = .ok (.aload_n 0, 1) := by decide +kernel
theorem dX9_add_34 : decode cX9_add 34 = .ok (.dup, 1) := by decide +kernel
theorem dX9_add_35 : decode cX9_add 35 = .ok (.getfield 15, 3) := by decide +kernel
theorem dX9_add_38 : decode cX9_add 38 = .ok (.iconst 1, 1) := by decide +kernel
theorem dX9_add_39 : decode cX9_add 39 = .ok (.iadd, 1) := by decide +kernel
theorem dX9_add_40 : decode cX9_add 40 = .ok (.putfield 15, 3) := by decide +kernel
theorem dX9_add_43 : decode cX9_add 43 = .ok (.iinc 2 (-8), 3) := by decide +kernel
theorem dX9_add_46 : decode cX9_add 46 = .ok (.goto (-43), 3) := by decide +kernel
theorem dX9_add_49 : decode cX9_add 49 = .ok (.return_, 1) := by decide +kernel
theorem dX9_isMark_0 : decode cX9_isMark 0 = .ok (.aload_n 0, 1) := by decide +kernel
theorem dX9_isMark_1 : decode cX9_isMark 1 = .ok (.getfield 15, 3) := by decide +kernel
theorem dX9_isMark_4 : decode cX9_isMark 4 = .ok (.iconst 1, 1) := by decide +kernel
theorem dX9_isMark_5 : decode cX9_isMark 5 = .ok (.if_icmp .lt 11, 3) := by decide +kernel
theorem dX9_isMark_8 : decode cX9_isMark 8 = .ok (.aload_n 0, 1) := by decide +kernel
theorem dX9_isMark_9 : decode cX9_isMark 9 = .ok (.getfield 15, 3) := by decide +kernel
theorem dX9_isMark_12 : decode cX9_isMark 12 = .ok (.iconst 5, 1) := by decide +kernel
theorem dX9_isMark_13 : decode cX9_isMark 13 = .ok (.if_icmp .le 5, 3) := by decide +kernel
theorem dX9_isMark_16 : decode cX9_isMark 16 = .ok (.iconst 0, 1) := by decide +kernel
theorem dX9_isMark_17 : decode cX9_isMark 17 = .ok (.ireturn, 1) := by decide +kernel
theorem dX9_isMark_18 : decode cX9_isMark 18 = .ok (.iconst 0, 1) := by decide +kernel
theorem dX9_isMark_19 : decode cX9_isMark 19 = .ok (.istore_n 1, 1) := by decide +kernel
theorem dX9_isMark_20 : decode cX9_isMark 20 = .ok (.iload_n 1, 1) := by decide +kernel
theorem dX9_isMark_21 : decode cX9_isMark 21 = .ok (.aload_n 0, 1) := by decide +kernel
theorem dX9_isMark_22 : decode cX9_isMark 22 = .ok (.getfield 15, 3) := by decide +kernel
theorem dX9_isMark_25 : decode cX9_isMark 25 = .ok (.if_icmp .ge 29, 3) := by decide +kernel
theorem dX9_isMark_28 : decode cX9_isMark 28 = .ok (.aload_n 0, 1) := by decide +kernel
theorem dX9_isMark_29 : decode cX9_isMark 29 = .ok (.iload_n 1, 1) := by decide +kernel
theorem dX9_isMark_30 : decode cX9_isMark 30 = .ok (.invokevirtual 19, 3) := by decide +kernel
theorem dX9_isMark_33 : decode cX9_isMark 33 = .ok (.ifCond .lt 13, 3) := by decide +kernel
theorem dX9_isMark_36 : decode cX9_isMark 36 = .ok (.aload_n 0, 1) := by decide +kernel
theorem dX9_isMark_37 : decode cX9_isMark 37 = .ok (.iload_n 1, 1) := by decide +kernel
theorem dX9_isMark_38 : decode cX9_isMark 38 = .ok (.invokevirtual 19, 3) := by decide +kernel
theorem dX9_isMark_41 : decode cX9_isMark 41 = .ok (.bipush 8, 2) := by decide +kernel
theorem dX9_isMark_43 : decode cX9_isMark 43 = .ok (.if_icmp .lt 5, 3) := by decide +kernel
theorem dX9_isMark_46 : decode cX9_isMark 46 = .ok (.iconst 0, 1) := by decide +kernel
theorem dX9_isMark_47 : decode cX9_isMark 47 = .ok (.ireturn, 1) := by decide +kernel
theorem dX9_isMark_48 : decode cX9_isMark 48 = .ok (.iinc 1 1, 3) := by decide +kernel
theorem dX9_isMark_51 : decode cX9_isMark 51 = .ok (.goto (-31), 3) := by decide +kernel
theorem dX9_isMark_54 : decode cX9_isMark 54 = .ok (.iconst 1, 1) := by decide +kernel
theorem dX9_isMark_55 : decode cX9_isMark 55 = .ok (.ireturn, 1) := by decide +kernel
theorem dX9_letterAt_0 : decode cX9_letterAt 0 = .ok (.aload_n 0, 1) := by decide +kernel
theorem dX9_letterAt_1 : decode cX9_letterAt 1 = .ok (.getfield 9, 3) := by decide +kernel
theorem dX9_letterAt_4 : decode cX9_letterAt 4 = .ok (.iload_n 1, 1) := by decide +kernel
theorem dX9_letterAt_5 : decode cX9_letterAt 5 = .ok (.iaload, 1) := by decide +kernel
theorem dX9_letterAt_6 : decode cX9_letterAt 6 = .ok (.bipush 97, 2) := by decide +kernel
theorem dX9_letterAt_8 : decode cX9_letterAt 8 = .ok (.isub, 1) := by decide +kernel
theorem dX9_letterAt_9 : decode cX9_letterAt 9 = .ok (.ireturn, 1) := by decide +kernel
theorem dX10_init_0 : decode cX10_init 0 = .ok (.aload_n 0, 1) := by decide +kernel
theorem dX10_init_1 : decode cX10_init 1 = .ok (.invokespecial 3, 3) := by decide +kernel
theorem dX10_init_4 : decode cX10_init 4 = .ok (.aload_n 0, 1) := by decide +kernel
theorem dX10_init_5 : decode cX10_init 5 = .ok (.bipush 9, 2) := by decide +kernel
theorem dX10_init_7 : decode cX10_init 7 = .ok (.newarray .int, 2) := by decide +kernel
theorem dX10_init_9 : decode cX10_init 9 = .ok (.putfield 9, 3) := by decide +kernel
theorem dX10_init_12 : decode cX10_init 12 = .ok (.aload_n 0, 1) := by decide +kernel
theorem dX10_init_13 : decode cX10_init 13 = .ok (.bipush 9, 2) := by decide +kernel
theorem dX10_init_15 : decode cX10_init 15 = .ok (.newarray .int, 2) := by decide +kernel
theorem dX10_init_17 : decode cX10_init 17 = .ok (.putfield 15, 3) := by decide +kernel
theorem dX10_init_20 : decode cX10_init 20 = .ok (.aload_n 0, 1) := by decide +kernel
theorem dX10_init_21 : decode cX10_init 21 = .ok (.bipush 9, 2) := by decide +kernel
theorem dX10_init_23 : decode cX10_init 23 = .ok (.newarray .int, 2) := by decide +kernel
theorem dX10_init_25 : decode cX10_init 25 = .ok (.putfield 18, 3) := by decide +kernel
theorem dX10_init_28 : decode cX10_init 28 = .ok (.aload_n 0, 1) := by decide +kernel
theorem dX10_init_29 : decode cX10_init 29 = .ok (.bipush 9, 2) := by decide +kernel
theorem dX10_init_31 : decode cX10_init 31 = .ok (.newarray .int, 2) := by decide +kernel
theorem dX10_init_33 : decode cX10_init 33 = .ok (.putfield 21, 3) := by decide +kernel
theorem dX10_init_36 : decode cX10_init 36 = .ok (.aload_n 0, 1) := by decide +kernel
theorem dX10_init_37 : decode cX10_init 37 = .ok (.bipush 9, 2) := by decide +kernel
theorem dX10_init_39 : decode cX10_init 39 = .ok (.newarray .int, 2) := by decide +kernel
theorem dX10_init_41 : decode cX10_init 41 = .ok (.putfield 24, 3) := by decide +kernel
theorem dX10_init_44 : decode cX10_init 44 = .ok (.aload_n 0, 1) := by decide +kernel
theorem dX10_init_45 : decode cX10_init 45 = .ok (.bipush 9, 2) := by decide +kernel
theorem dX10_init_47 : decode cX10_init 47 = .ok (.newarray .int, 2) := by decide +kernel
theorem dX10_init_49 : decode cX10_init 49 = .ok (.putfield 27, 3) := by decide +kernel
theorem dX10_init_52 : decode cX10_init 52 = .ok (.aload_n 0, 1) := by decide +kernel
theorem dX10_init_53 : decode cX10_init 53 = .ok (.bipush 9, 2) := by decide +kernel
theorem dX10_init_55 : decode cX10_init 55 = .ok (.newarray .int, 2) := by decide +kernel
theorem dX10_init_57 : decode cX10_init 57 = .ok (.putfield 30, 3) := by decide +kernel
theorem dX10_init_60 : decode cX10_init 60 = .ok (.aload_n 0, 1) := by decide +kernel
theorem dX10_init_61 : decode cX10_init 61 = .ok (.iconst (-1), 1) := by decide +kernel
theorem dX10_init_62 : decode cX10_init 62 = .ok (.putfield 33, 3) := by decide +kernel
theorem dX10_init_65 : decode cX10_init 65 = .ok (.return_, 1) := by decide +kernel
theorem dX10_draw_0 : decode cX10_draw 0 = .ok (.aload_n 0, 1) := by decide +kernel
theorem dX10_draw_1 : decode cX10_draw 1 = .ok (.ldc 37, 2) := by decide +kernel
theorem dX10_draw_3 : decode cX10_draw 3 = .ok (.aload_n 0, 1) := by decide +kernel
theorem dX10_draw_4 : decode cX10_draw 4 = .ok (.getfield 38, 3) := by decide +kernel
theorem dX10_draw_7 : decode cX10_draw 7 = .ok (.imul, 1) := by decide +kernel
theorem dX10_draw_8 : decode cX10_draw 8 = .ok (.ldc 41, 2) := by decide +kernel
theorem dX10_draw_10 : decode cX10_draw 10 = .ok (.iadd, 1) := by decide +kernel
theorem dX10_draw_11 : decode cX10_draw 11 = .ok (.putfield 38, 3) := by decide +kernel
theorem dX10_draw_14 : decode cX10_draw 14 = .ok (.iload_n 1, 1) := by decide +kernel
theorem dX10_draw_15 : decode cX10_draw 15 = .ok (.ifCond .le 15, 3) := by decide +kernel
theorem dX10_draw_18 : decode cX10_draw 18 = .ok (.aload_n 0, 1) := by decide +kernel
theorem dX10_draw_19 : decode cX10_draw 19 = .ok (.getfield 38, 3) := by decide +kernel
theorem dX10_draw_22 : decode cX10_draw 22 = .ok (.bipush 8, 2) := by decide +kernel
theorem dX10_draw_24 : decode cX10_draw 24 = .ok (.iushr, 1) := by decide +kernel
theorem dX10_draw_25 : decode cX10_draw 25 = .ok (.iload_n 1, 1) := by decide +kernel
theorem dX10_draw_26 : decode cX10_draw 26 = .ok (.irem, 1) := by decide +kernel
theorem dX10_draw_27 : decode cX10_draw 27 = .ok (.goto 4, 3) := by decide +kernel
theorem dX10_draw_30 : decode cX10_draw 30 = .ok (.iconst 0, 1) := by decide +kernel
theorem dX10_draw_31 : decode cX10_draw 31 = .ok (.ireturn, 1) := by decide +kernel
theorem dX10_isMonday_0 : decode cX10_isMonday 0 = .ok (.aload_n 0, 1) := by decide +kernel
theorem dX10_isMonday_1 : decode cX10_isMonday 1 = .ok (.getfield 42, 3) := by decide +kernel
theorem dX10_isMonday_4 : decode cX10_isMonday 4 = .ok (.bipush 7, 2) := by decide +kernel
theorem dX10_isMonday_6 : decode cX10_isMonday 6 = .ok (.irem, 1) := by decide +kernel
theorem dX10_isMonday_7 : decode cX10_isMonday 7 = .ok (.ifCond .ne 7, 3) := by decide +kernel
theorem dX10_isMonday_10 : decode cX10_isMonday 10 = .ok (.iconst 1, 1) := by decide +kernel
theorem dX10_isMonday_11 : decode cX10_isMonday 11 = .ok (.goto 4, 3) := by decide +kernel
theorem dX10_isMonday_14 : decode cX10_isMonday 14 = .ok (.iconst 0, 1) := by decide +kernel
theorem dX10_isMonday_15 : decode cX10_isMonday 15 = .ok (.ireturn, 1) := by decide +kernel
theorem dX10_copyFrom_0 : decode cX10_copyFrom 0 = .ok (.aload_n 0, 1) := by decide +kernel
theorem dX10_copyFrom_1 : decode cX10_copyFrom 1 = .ok (.aload_n 1, 1) := by decide +kernel
theorem dX10_copyFrom_2 : decode cX10_copyFrom 2 = .ok (.getfield 38, 3) := by decide +kernel
theorem dX10_copyFrom_5 : decode cX10_copyFrom 5 = .ok (.putfield 38, 3) := by decide +kernel
theorem dX10_copyFrom_8 : decode cX10_copyFrom 8 = .ok (.aload_n 0, 1) := by decide +kernel
theorem dX10_copyFrom_9 : decode cX10_copyFrom 9 = .ok (.aload_n 1, 1) := by decide +kernel
theorem dX10_copyFrom_10 : decode cX10_copyFrom 10 = .ok (.getfield 42, 3) := by decide +kernel
theorem dX10_copyFrom_13 : decode cX10_copyFrom 13 = .ok (.putfield 42, 3) := by decide +kernel
theorem dX10_copyFrom_16 : decode cX10_copyFrom 16 = .ok (.aload_n 0, 1) := by decide +kernel
theorem dX10_copyFrom_17 : decode cX10_copyFrom 17 = .ok (.aload_n 1, 1) := by decide +kernel
theorem dX10_copyFrom_18 : decode cX10_copyFrom 18 = .ok (.getfield 45, 3) := by decide +kernel
theorem dX10_copyFrom_21 : decode cX10_copyFrom 21 = .ok (.putfield 45, 3) := by decide +kernel
theorem dX10_copyFrom_24 : decode cX10_copyFrom 24 = .ok (.aload_n 1, 1) := by decide +kernel
theorem dX10_copyFrom_25 : decode cX10_copyFrom 25 = .ok (.getfield 9, 3) := by decide +kernel
theorem dX10_copyFrom_28 : decode cX10_copyFrom 28 = .ok (.iconst 0, 1) := by decide +kernel
theorem dX10_copyFrom_29 : decode cX10_copyFrom 29 = .ok (.aload_n 0, 1) := by decide +kernel
theorem dX10_copyFrom_30 : decode cX10_copyFrom 30 = .ok (.getfield 9, 3) := by decide +kernel
theorem dX10_copyFrom_33 : decode cX10_copyFrom 33 = .ok (.iconst 0, 1) := by decide +kernel
theorem dX10_copyFrom_34 : decode cX10_copyFrom 34 = .ok (.bipush 9, 2) := by decide +kernel
theorem dX10_copyFrom_36 : decode cX10_copyFrom 36 = .ok (.invokestatic 48, 3) := by decide +kernel
theorem dX10_copyFrom_39 : decode cX10_copyFrom 39 = .ok (.aload_n 1, 1) := by decide +kernel
theorem dX10_copyFrom_40 : decode cX10_copyFrom 40 = .ok (.getfield 15, 3) := by decide +kernel
theorem dX10_copyFrom_43 : decode cX10_copyFrom 43 = .ok (.iconst 0, 1) := by decide +kernel
theorem dX10_copyFrom_44 : decode cX10_copyFrom 44 = .ok (.aload_n 0, 1) := by decide +kernel
theorem dX10_copyFrom_45 : decode cX10_copyFrom 45 = .ok (.getfield 15, 3) := by decide +kernel
theorem dX10_copyFrom_48 : decode cX10_copyFrom 48 = .ok (.iconst 0, 1) := by decide +kernel
theorem dX10_copyFrom_49 : decode cX10_copyFrom 49 = .ok (.bipush 9, 2) := by decide +kernel
theorem dX10_copyFrom_51 : decode cX10_copyFrom 51 = .ok (.invokestatic 48, 3) := by decide +kernel
theorem dX10_copyFrom_54 : decode cX10_copyFrom 54 = .ok (.aload_n 1, 1) := by decide +kernel
theorem dX10_copyFrom_55 : decode cX10_copyFrom 55 = .ok (.getfield 18, 3) := by decide +kernel
theorem dX10_copyFrom_58 : decode cX10_copyFrom 58 = .ok (.iconst 0, 1) := by decide +kernel
theorem dX10_copyFrom_59 : decode cX10_copyFrom 59 = .ok (.aload_n 0, 1) := by decide +kernel
theorem dX10_copyFrom_60 : decode cX10_copyFrom 60 = .ok (.getfield 18, 3) := by decide +kernel
theorem dX10_copyFrom_63 : decode cX10_copyFrom 63 = .ok (.iconst 0, 1) := by decide +kernel
theorem dX10_copyFrom_64 : decode cX10_copyFrom 64 = .ok (.bipush 9, 2) := by decide +kernel
theorem dX10_copyFrom_66 : decode cX10_copyFrom 66 = .ok (.invokestatic 48, 3) := by decide +kernel
theorem dX10_copyFrom_69 : decode cX10_copyFrom 69 = .ok (.aload_n 1, 1) := by decide +kernel
theorem dX10_copyFrom_70 : decode cX10_copyFrom 70 = .ok (.getfield 21, 3) := by decide +kernel
theorem dX10_copyFrom_73 : decode cX10_copyFrom 73 = .ok (.iconst 0, 1) := by decide +kernel
theorem dX10_copyFrom_74 : decode cX10_copyFrom 74 = .ok (.aload_n 0, 1) := by decide +kernel
theorem dX10_copyFrom_75 : decode cX10_copyFrom 75 = .ok (.getfield 21, 3) := by decide +kernel
theorem dX10_copyFrom_78 : decode cX10_copyFrom 78 = .ok (.iconst 0, 1) := by decide +kernel
theorem dX10_copyFrom_79 : decode cX10_copyFrom 79 = .ok (.bipush 9, 2) := by decide +kernel
theorem dX10_copyFrom_81 : decode cX10_copyFrom 81 = .ok (.invokestatic 48, 3) := by decide +kernel
theorem dX10_copyFrom_84 : decode cX10_copyFrom 84 = .ok (.aload_n 1, 1) := by decide +kernel
theorem dX10_copyFrom_85 : decode cX10_copyFrom 85 = .ok (.getfield 24, 3) := by decide +kernel
theorem dX10_copyFrom_88 : decode cX10_copyFrom 88 = .ok (.iconst 0, 1) := by decide +kernel
theorem dX10_copyFrom_89 : decode cX10_copyFrom 89 = .ok (.aload_n 0, 1) := by decide +kernel
theorem dX10_copyFrom_90 : decode cX10_copyFrom 90 = .ok (.getfield 24, 3) := by decide +kernel
theorem dX10_copyFrom_93 : decode cX10_copyFrom 93 = .ok (.iconst 0, 1) := by decide +kernel
theorem dX10_copyFrom_94 : decode cX10_copyFrom 94 = .ok (.bipush 9, 2) := by decide +kernel
theorem dX10_copyFrom_96 : decode cX10_copyFrom 96 = .ok (.invokestatic 48, 3) := by decide +kernel
theorem dX10_copyFrom_99 : decode cX10_copyFrom 99 = .ok (.aload_n 1, 1) := by decide +kernel
theorem dX10_copyFrom_100 : decode cX10_copyFrom 100 = .ok (.getfield 27, 3) := by decide +kernel
theorem dX10_copyFrom_103 : decode cX10_copyFrom 103 = .ok (.iconst 0, 1) := by decide +kernel
theorem dX10_copyFrom_104 : decode cX10_copyFrom 104 = .ok (.aload_n 0, 1) := by decide +kernel
theorem dX10_copyFrom_105 : decode cX10_copyFrom 105 = .ok (.getfield 27, 3) := by decide +kernel
theorem dX10_copyFrom_108 : decode cX10_copyFrom 108 = .ok (.iconst 0, 1) := by decide +kernel
theorem dX10_copyFrom_109 : decode cX10_copyFrom 109 = .ok (.bipush 9, 2) := by decide +kernel
theorem dX10_copyFrom_111 : decode cX10_copyFrom 111 = .ok (.invokestatic 48, 3) := by decide +kernel
theorem dX10_copyFrom_114 : decode cX10_copyFrom 114 = .ok (.aload_n 1, 1) := by decide +kernel
theorem dX10_copyFrom_115 : decode cX10_copyFrom 115 = .ok (.getfield 30, 3) := by decide +kernel
theorem dX10_copyFrom_118 : decode cX10_copyFrom 118 = .ok (.iconst 0, 1) := by decide +kernel
theorem dX10_copyFrom_119 : decode cX10_copyFrom 119 = .ok (.aload_n 0, 1) := by decide +kernel
theorem dX10_copyFrom_120 : decode cX10_copyFrom 120 = .ok (.getfield 30, 3) := by decide +kernel
theorem dX10_copyFrom_123 : decode cX10_copyFrom 123 = .ok (.iconst 0, 1) := by decide +kernel
theorem dX10_copyFrom_124 : decode cX10_copyFrom 124 = .ok (.bipush 9, 2) := by decide +kernel
theorem dX10_copyFrom_126 : decode cX10_copyFrom 126 = .ok (.invokestatic 48, 3) := by decide +kernel
theorem dX10_copyFrom_129 : decode cX10_copyFrom 129 = .ok (.aload_n 0, 1) := by decide +kernel
theorem dX10_copyFrom_130 : decode cX10_copyFrom 130 = .ok (.aload_n 1, 1) := by decide +kernel
theorem dX10_copyFrom_131 : decode cX10_copyFrom 131 = .ok (.getfield 54, 3) := by decide +kernel
theorem dX10_copyFrom_134 : decode cX10_copyFrom 134 = .ok (.putfield 54, 3) := by decide +kernel
theorem dX10_copyFrom_137 : decode cX10_copyFrom 137 = .ok (.aload_n 0, 1) := by decide +kernel
theorem dX10_copyFrom_138 : decode cX10_copyFrom 138 = .ok (.aload_n 1, 1) := by decide +kernel
theorem dX10_copyFrom_139 : decode cX10_copyFrom 139 = .ok (.getfield 33, 3) := by decide +kernel
theorem dX10_copyFrom_142 : decode cX10_copyFrom 142 = .ok (.putfield 33, 3) := by decide +kernel
theorem dX10_copyFrom_145 : decode cX10_copyFrom 145 = .ok (.return_, 1) := by decide +kernel
theorem dX11_init_0 : decode cX11_init 0 = .ok (.aload_n 0, 1) := by decide +kernel
theorem dX11_init_1 : decode cX11_init 1 = .ok (.invokespecial 3, 3) := by decide +kernel
theorem dX11_init_4 : decode cX11_init 4 = .ok (.aload_n 0, 1) := by decide +kernel
theorem dX11_init_5 : decode cX11_init 5 = .ok (.new 9, 3) := by decide +kernel
theorem dX11_init_8 : decode cX11_init 8 = .ok (.dup, 1) := by decide +kernel
theorem dX11_init_9 : decode cX11_init 9 = .ok (.invokespecial 11, 3) := by decide +kernel
theorem dX11_init_12 : decode cX11_init 12 = .ok (.putfield 12, 3) := by decide +kernel
theorem dX11_init_15 : decode cX11_init 15 = .ok (.aload_n 0, 1) := by decide +kernel
theorem dX11_init_16 : decode cX11_init 16 = .ok (.new 16, 3) := by decide +kernel
theorem dX11_init_19 : decode cX11_init 19 = .ok (.dup, 1) := by decide +kernel
theorem dX11_init_20 : decode cX11_init 20 = .ok (.invokespecial 18, 3) := by decide +kernel
theorem dX11_init_23 : decode cX11_init 23 = .ok (.putfield 19, 3) := by decide +kernel
theorem dX11_init_26 : decode cX11_init 26 = .ok (.aload_n 0, 1) := by decide +kernel
theorem dX11_init_27 : decode cX11_init 27 = .ok (.new 16, 3) := by decide +kernel
theorem dX11_init_30 : decode cX11_init 30 = .ok (.dup, 1) := by decide +kernel
theorem dX11_init_31 : decode cX11_init 31 = .ok (.invokespecial 18, 3) := by decide +kernel
theorem dX11_init_34 : decode cX11_init 34 = .ok (.putfield 23, 3) := by decide +kernel
theorem dX11_init_37 : decode cX11_init 37 = .ok (.aload_n 0, 1) := by decide +kernel
theorem dX11_init_38 : decode cX11_init 38 = .ok (.new 26, 3) := by decide +kernel
theorem dX11_init_41 : decode cX11_init 41 = .ok (.dup, 1) := by decide +kernel
theorem dX11_init_42 : decode cX11_init 42 = .ok (.invokespecial 28, 3) := by decide +kernel
theorem dX11_init_45 : decode cX11_init 45 = .ok (.putfield 29, 3) := by decide +kernel
theorem dX11_init_48 : decode cX11_init 48 = .ok (.aload_n 0, 1) := by decide +kernel
theorem dX11_init_49 : decode cX11_init 49 = .ok (.new 33, 3) := by decide +kernel
theorem dX11_init_52 : decode cX11_init 52 = .ok (.dup, 1) := by decide +kernel
theorem dX11_init_53 : decode cX11_init 53 = .ok (.aload_n 0, 1) := by decide +kernel
theorem dX11_init_54 : decode cX11_init 54 = .ok (.getfield 12, 3) := by decide +kernel
theorem dX11_init_57 : decode cX11_init 57 = .ok (.invokespecial 35, 3) := by decide +kernel
theorem dX11_init_60 : decode cX11_init 60 = .ok (.putfield 38, 3) := by decide +kernel
theorem dX11_init_63 : decode cX11_init 63 = .ok (.aload_n 0, 1) := by decide +kernel
theorem dX11_init_64 : decode cX11_init 64 = .ok (.new 42, 3) := by decide +kernel
theorem dX11_init_67 : decode cX11_init 67 = .ok (.dup, 1) := by decide +kernel
theorem dX11_init_68 : decode cX11_init 68 = .ok (.aload_n 0, 1) := by decide +kernel
theorem dX11_init_69 : decode cX11_init 69 = .ok (.getfield 19, 3) := by decide +kernel
theorem dX11_init_72 : decode cX11_init 72 = .ok (.invokespecial 44, 3) := by decide +kernel
theorem dX11_init_75 : decode cX11_init 75 = .ok (.putfield 47, 3) := by decide +kernel
theorem dX11_init_78 : decode cX11_init 78 = .ok (.aload_n 0, 1) := by decide +kernel
theorem dX11_init_79 : decode cX11_init 79 = .ok (.new 51, 3) := by decide +kernel
theorem dX11_init_82 : decode cX11_init 82 = .ok (.dup, 1) := by decide +kernel
theorem dX11_init_83 : decode cX11_init 83 = .ok (.invokespecial 53, 3) := by decide +kernel
theorem dX11_init_86 : decode cX11_init 86 = .ok (.putfield 54, 3) := by decide +kernel
theorem dX11_init_89 : decode cX11_init 89 = .ok (.return_, 1) := by decide +kernel
theorem dX11_state_0 : decode cX11_state 0 = .ok (.aload_n 0, 1) := by decide +kernel
theorem dX11_state_1 : decode cX11_state 1 = .ok (.getfield 19, 3) := by decide +kernel
theorem dX11_state_4 : decode cX11_state 4 = .ok (.getfield 58, 3) := by decide +kernel
theorem dX11_state_7 : decode cX11_state 7 = .ok (.getfield 62, 3) := by decide +kernel
theorem dX11_state_10 : decode cX11_state 10 = .ok (.istore_n 2, 1) := by decide +kernel
theorem dX11_state_11 : decode cX11_state 11 = .ok (.aload_n 0, 1) := by decide +kernel
theorem dX11_state_12 : decode cX11_state 12 = .ok (.getfield 19, 3) := by decide +kernel
theorem dX11_state_15 : decode cX11_state 15 = .ok (.getfield 58, 3) := by decide +kernel
theorem dX11_state_18 : decode cX11_state 18 = .ok (.iload_n 1, 1) := by decide +kernel
theorem dX11_state_19 : decode cX11_state 19 = .ok (.putfield 62, 3) := by decide +kernel
theorem dX11_state_22 : decode cX11_state 22 = .ok (.iload_n 2, 1) := by decide +kernel
theorem dX11_state_23 : decode cX11_state 23 = .ok (.ireturn, 1) := by decide +kernel
theorem dX11_feed_0 : decode cX11_feed 0 = .ok (.aload_n 0, 1) := by decide +kernel
theorem dX11_feed_1 : decode cX11_feed 1 = .ok (.getfield 12, 3) := by decide +kernel
theorem dX11_feed_4 : decode cX11_feed 4 = .ok (.getfield 68, 3) := by decide +kernel
theorem dX11_feed_7 : decode cX11_feed 7 = .ok (.sipush 380, 3) := by decide +kernel
theorem dX11_feed_10 : decode cX11_feed 10 = .ok (.if_icmp .le 5, 3) := by decide +kernel
theorem dX11_feed_13 : decode cX11_feed 13 = .ok (.iconst (-1), 1) := by decide +kernel
theorem dX11_feed_14 : decode cX11_feed 14 = .ok (.ireturn, 1) := by decide +kernel
theorem dX11_feed_15 : decode cX11_feed 15 = .ok (.aload_n 0, 1) := by decide +kernel
theorem dX11_feed_16 : decode cX11_feed 16 = .ok (.getfield 12, 3) := by decide +kernel
theorem dX11_feed_19 : decode cX11_feed 19 = .ok (.iload_n 1, 1) := by decide +kernel
theorem dX11_feed_20 : decode cX11_feed 20 = .ok (.invokevirtual 71, 3) := by decide +kernel
theorem dX11_feed_23 : decode cX11_feed 23 = .ok (.aload_n 0, 1) := by decide +kernel
theorem dX11_feed_24 : decode cX11_feed 24 = .ok (.getfield 12, 3) := by decide +kernel
theorem dX11_feed_27 : decode cX11_feed 27 = .ok (.iload_n 2, 1) := by decide +kernel
theorem dX11_feed_28 : decode cX11_feed 28 = .ok (.invokevirtual 71, 3) := by decide +kernel
theorem dX11_feed_31 : decode cX11_feed 31 = .ok (.aload_n 0, 1) := by decide +kernel
theorem dX11_feed_32 : decode cX11_feed 32 = .ok (.getfield 12, 3) := by decide +kernel
theorem dX11_feed_35 : decode cX11_feed 35 = .ok (.iload_n 3, 1) := by decide +kernel
theorem dX11_feed_36 : decode cX11_feed 36 = .ok (.invokevirtual 71, 3) := by decide +kernel
theorem dX11_feed_39 : decode cX11_feed 39 = .ok (.aload_n 0, 1) := by decide +kernel
theorem dX11_feed_40 : decode cX11_feed 40 = .ok (.getfield 12, 3) := by decide +kernel
theorem dX11_feed_43 : decode cX11_feed 43 = .ok (.iload 4, 2) := by decide +kernel
theorem dX11_feed_45 : decode cX11_feed 45 = .ok (.invokevirtual 71, 3) := by decide +kernel
theorem dX11_feed_48 : decode cX11_feed 48 = .ok (.aload_n 0, 1) := by decide +kernel
theorem dX11_feed_49 : decode cX11_feed 49 = .ok (.getfield 12, 3) := by decide +kernel
theorem dX11_feed_52 : decode cX11_feed 52 = .ok (.iload 5, 2) := by decide +kernel
theorem dX11_feed_54 : decode cX11_feed 54 = .ok (.invokevirtual 71, 3) := by decide +kernel
theorem dX11_feed_57 : decode cX11_feed 57 = .ok (.aload_n 0, 1) := by decide +kernel
theorem dX11_feed_58 : decode cX11_feed 58 = .ok (.getfield 12, 3) := by decide +kernel
theorem dX11_feed_61 : decode cX11_feed 61 = .ok (.getfield 68, 3) := by decide +kernel
theorem dX11_feed_64 : decode cX11_feed 64 = .ok (.ireturn, 1) := by decide +kernel
theorem dX11_end_0 : decode cX11_end 0 = .ok (.iload_n 1, 1) := by decide +kernel
theorem dX11_end_1 : decode cX11_end 1 = .ok (.ifCond .lt 14, 3) := by decide +kernel
theorem dX11_end_4 : decode cX11_end 4 = .ok (.iload_n 1, 1) := by decide +kernel
theorem dX11_end_5 : decode cX11_end 5 = .ok (.aload_n 0, 1) := by decide +kernel
theorem dX11_end_6 : decode cX11_end 6 = .ok (.getfield 12, 3) := by decide +kernel
theorem dX11_end_9 : decode cX11_end 9 = .ok (.getfield 68, 3) := by decide +kernel
theorem dX11_end_12 : decode cX11_end 12 = .ok (.if_icmp .le 5, 3) := by decide +kernel
theorem dX11_end_15 : decode cX11_end 15 = .ok (.iconst 0, 1) := by decide +kernel
theorem dX11_end_16 : decode cX11_end 16 = .ok (.ireturn, 1) := by decide +kernel
theorem dX11_end_17 : decode cX11_end 17 = .ok (.aload_n 0, 1) := by decide +kernel
theorem dX11_end_18 : decode cX11_end 18 = .ok (.getfield 12, 3) := by decide +kernel
theorem dX11_end_21 : decode cX11_end 21 = .ok (.iload_n 1, 1) := by decide +kernel
theorem dX11_end_22 : decode cX11_end 22 = .ok (.putfield 68, 3) := by decide +kernel
theorem dX11_end_25 : decode cX11_end 25 = .ok (.iconst 1, 1) := by decide +kernel
theorem dX11_end_26 : decode cX11_end 26 = .ok (.ireturn, 1) := by decide +kernel
theorem dX11_house_0 : decode cX11_house 0 = .ok (.iconst (-1), 1) := by decide +kernel
theorem dX11_house_1 : decode cX11_house 1 = .ok (.istore 4, 2) := by decide +kernel
theorem dX11_house_3 : decode cX11_house 3 = .ok (.iload_n 1, 1) := by decide +kernel
theorem dX11_house_4 : decode cX11_house 4 = .ok (.iconst 0, 1) := by decide +kernel
theorem dX11_house_5 : decode cX11_house 5 = .ok (.sipush 999, 3) := by decide +kernel
theorem dX11_house_8 : decode cX11_house 8 = .ok (.invokestatic 75, 3) := by decide +kernel
theorem dX11_house_11 : decode cX11_house 11 = .ok (.ifCond .eq 53, 3) := by decide +kernel
theorem dX11_house_14 : decode cX11_house 14 = .ok (.iload_n 2, 1) := by decide +kernel
theorem dX11_house_15 : decode cX11_house 15 = .ok (.iconst 1, 1) := by decide +kernel
theorem dX11_house_16 : decode cX11_house 16 = .ok (.sipush 999, 3) := by decide +kernel
theorem dX11_house_19 : decode cX11_house 19 = .ok (.invokestatic 75, 3) := by decide +kernel
theorem dX11_house_22 : decode cX11_house 22 = .ok (.ifCond .eq 42, 3) := by decide +kernel
theorem dX11_house_25 : decode cX11_house 25 = .ok (.iload_n 3, 1) := by decide +kernel
theorem dX11_house_26 : decode cX11_house 26 = .ok (.iconst 1, 1) := by decide +kernel
theorem dX11_house_27 : decode cX11_house 27 = .ok (.bipush 99, 2) := by decide +kernel
theorem dX11_house_29 : decode cX11_house 29 = .ok (.invokestatic 75, 3) := by decide +kernel
theorem dX11_house_32 : decode cX11_house 32 = .ok (.ifCond .eq 32, 3) := by decide +kernel
theorem dX11_house_35 : decode cX11_house 35 = .ok (.aload_n 0, 1) := by decide +kernel
theorem dX11_house_36 : decode cX11_house 36 = .ok (.getfield 12, 3) := by decide +kernel
theorem dX11_house_39 : decode cX11_house 39 = .ok (.invokevirtual 79, 3) := by decide +kernel
theorem dX11_house_42 : decode cX11_house 42 = .ok (.ifCond .eq 22, 3) := by decide +kernel
theorem dX11_house_45 : decode cX11_house 45 = .ok (.aload_n 0, 1) := by decide +kernel
theorem dX11_house_46 : decode cX11_house 46 = .ok (.getfield 19, 3) := by decide +kernel
theorem dX11_house_49 : decode cX11_house 49 = .ok (.getfield 83, 3) := by decide +kernel
theorem dX11_house_52 : decode cX11_house 52 = .ok (.iload_n 1, 1) := by decide +kernel
theorem dX11_house_53 : decode cX11_house 53 = .ok (.iload_n 2, 1) := by decide +kernel
theorem dX11_house_54 : decode cX11_house 54 = .ok (.iload_n 3, 1) := by decide +kernel
theorem dX11_house_55 : decode cX11_house 55 = .ok (.aload_n 0, 1) := by decide +kernel
theorem dX11_house_56 : decode cX11_house 56 = .ok (.getfield 12, 3) := by decide +kernel
theorem dX11_house_59 : decode cX11_house 59 = .ok (.invokevirtual 87, 3) := by decide +kernel
theorem dX11_house_62 : decode cX11_house 62 = .ok (.istore 4, 2) := by decide +kernel
theorem dX11_house_64 : decode cX11_house 64 = .ok (.aload_n 0, 1) := by decide +kernel
theorem dX11_house_65 : decode cX11_house 65 = .ok (.getfield 12, 3) := by decide +kernel
theorem dX11_house_68 : decode cX11_house 68 = .ok (.iconst 0, 1) := by decide +kernel
theorem dX11_house_69 : decode cX11_house 69 = .ok (.putfield 68, 3) := by decide +kernel
theorem dX11_house_72 : decode cX11_house 72 = .ok (.iload 4, 2) := by decide +kernel
theorem dX11_house_74 : decode cX11_house 74 = .ok (.iconst (-1), 1) := by decide +kernel
theorem dX11_house_75 : decode cX11_house 75 = .ok (.if_icmp .eq 10, 3) := by decide +kernel
theorem dX11_house_78 : decode cX11_house 78 = .ok (.aload_n 0, 1) := by decide +kernel
theorem dX11_house_79 : decode cX11_house 79 = .ok (.getfield 29, 3) := by decide +kernel
theorem dX11_house_82 : decode cX11_house 82 = .ok (.invokevirtual 92, 3) := by decide +kernel
theorem dX11_house_85 : decode cX11_house 85 = .ok (.iload 4, 2) := by decide +kernel
theorem dX11_house_87 : decode cX11_house 87 = .ok (.ireturn, 1) := by decide +kernel
theorem dX11_give_0 : decode cX11_give 0 = .ok (.aload_n 0, 1) := by decide +kernel
theorem dX11_give_1 : decode cX11_give 1 = .ok (.getfield 19, 3) := by decide +kernel
theorem dX11_give_4 : decode cX11_give 4 = .ok (.getfield 83, 3) := by decide +kernel
theorem dX11_give_7 : decode cX11_give 7 = .ok (.iload_n 1, 1) := by decide +kernel
theorem dX11_give_8 : decode cX11_give 8 = .ok (.invokevirtual 95, 3) := by decide +kernel
theorem dX11_give_11 : decode cX11_give 11 = .ok (.ifCond .eq 32, 3) := by decide +kernel
theorem dX11_give_14 : decode cX11_give 14 = .ok (.iload_n 2, 1) := by decide +kernel
theorem dX11_give_15 : decode cX11_give 15 = .ok (.iconst 0, 1) := by decide +kernel
theorem dX11_give_16 : decode cX11_give 16 = .ok (.ldc 99, 2) := by decide +kernel
theorem dX11_give_18 : decode cX11_give 18 = .ok (.invokestatic 75, 3) := by decide +kernel
theorem dX11_give_21 : decode cX11_give 21 = .ok (.ifCond .eq 22, 3) := by decide +kernel
theorem dX11_give_24 : decode cX11_give 24 = .ok (.aload_n 0, 1) := by decide +kernel
theorem dX11_give_25 : decode cX11_give 25 = .ok (.getfield 19, 3) := by decide +kernel
theorem dX11_give_28 : decode cX11_give 28 = .ok (.getfield 58, 3) := by decide +kernel
theorem dX11_give_31 : decode cX11_give 31 = .ok (.getfield 100, 3) := by decide +kernel
theorem dX11_give_34 : decode cX11_give 34 = .ok (.iload_n 1, 1) := by decide +kernel
theorem dX11_give_35 : decode cX11_give 35 = .ok (.iaload, 1) := by decide +kernel
theorem dX11_give_36 : decode cX11_give 36 = .ok (.ldc 104, 2) := by decide +kernel
theorem dX11_give_38 : decode cX11_give 38 = .ok (.iload_n 2, 1) := by decide +kernel
theorem dX11_give_39 : decode cX11_give 39 = .ok (.isub, 1) := by decide +kernel
theorem dX11_give_40 : decode cX11_give 40 = .ok (.if_icmp .le 5, 3) := by decide +kernel
theorem dX11_give_43 : decode cX11_give 43 = .ok (.iconst 0, 1) := by decide +kernel
theorem dX11_give_44 : decode cX11_give 44 = .ok (.ireturn, 1) := by decide +kernel
theorem dX11_give_45 : decode cX11_give 45 = .ok (.aload_n 0, 1) := by decide +kernel
theorem dX11_give_46 : decode cX11_give 46 = .ok (.getfield 19, 3) := by decide +kernel
theorem dX11_give_49 : decode cX11_give 49 = .ok (.getfield 58, 3) := by decide +kernel
theorem dX11_give_52 : decode cX11_give 52 = .ok (.getfield 100, 3) := by decide +kernel
theorem dX11_give_55 : decode cX11_give 55 = .ok (.iload_n 1, 1) := by decide +kernel
theorem dX11_give_56 : decode cX11_give 56 = .ok (.dup2, 1) := by decide +kernel
theorem dX11_give_57 : decode cX11_give 57 = .ok (.iaload, 1) := by decide +kernel
theorem dX11_give_58 : decode cX11_give 58 = .ok (.iload_n 2, 1) := by decide +kernel
theorem dX11_give_59 : decode cX11_give 59 = .ok (.iadd, 1) := by decide +kernel
theorem dX11_give_60 : decode cX11_give 60 = .ok (.iastore, 1) := by decide +kernel
theorem dX11_give_61 : decode cX11_give 61 = .ok (.aload_n 0, 1) := by decide +kernel
theorem dX11_give_62 : decode cX11_give 62 = .ok (.getfield 29, 3) := by decide +kernel
theorem dX11_give_65 : decode cX11_give 65 = .ok (.invokevirtual 92, 3) := by decide +kernel
theorem dX11_give_68 : decode cX11_give 68 = .ok (.iconst 1, 1) := by decide +kernel
theorem dX11_give_69 : decode cX11_give 69 = .ok (.ireturn, 1) := by decide +kernel
theorem dX11_set_0 : decode cX11_set 0 = .ok (.iload_n 1, 1) := by decide +kernel
theorem dX11_set_1 : decode cX11_set 1 = .ok (.iload_n 2, 1) := by decide +kernel
theorem dX11_set_2 : decode cX11_set 2 = .ok (.invokestatic 105, 3) := by decide +kernel
theorem dX11_set_5 : decode cX11_set 5 = .ok (.ifCond .ne 5, 3) := by decide +kernel
theorem dX11_set_8 : decode cX11_set 8 = .ok (.iconst 0, 1) := by decide +kernel
theorem dX11_set_9 : decode cX11_set 9 = .ok (.ireturn, 1) := by decide +kernel
theorem dX11_set_10 : decode cX11_set 10 = .ok (.aload_n 0, 1) := by decide +kernel
theorem dX11_set_11 : decode cX11_set 11 = .ok (.getfield 19, 3) := by decide +kernel
theorem dX11_set_14 : decode cX11_set 14 = .ok (.getfield 109, 3) := by decide +kernel
theorem dX11_set_17 : decode cX11_set 17 = .ok (.iload_n 1, 1) := by decide +kernel
theorem dX11_set_18 : decode cX11_set 18 = .ok (.iload_n 2, 1) := by decide +kernel
theorem dX11_set_19 : decode cX11_set 19 = .ok (.iastore, 1) := by decide +kernel
theorem dX11_set_20 : decode cX11_set 20 = .ok (.aload_n 0, 1) := by decide +kernel
theorem dX11_set_21 : decode cX11_set 21 = .ok (.getfield 29, 3) := by decide +kernel
theorem dX11_set_24 : decode cX11_set 24 = .ok (.invokevirtual 92, 3) := by decide +kernel
theorem dX11_set_27 : decode cX11_set 27 = .ok (.iconst 1, 1) := by decide +kernel
theorem dX11_set_28 : decode cX11_set 28 = .ok (.ireturn, 1) := by decide +kernel
theorem dX11_text_0 : decode cX11_text 0 = .ok (.aload_n 0, 1) := by decide +kernel
theorem dX11_text_1 : decode cX11_text 1 = .ok (.getfield 38, 3) := by decide +kernel
theorem dX11_text_4 : decode cX11_text 4 = .ok (.invokevirtual 112, 3) := by decide +kernel
theorem dX11_text_7 : decode cX11_text 7 = .ok (.istore_n 1, 1) := by decide +kernel
theorem dX11_text_8 : decode cX11_text 8 = .ok (.aload_n 0, 1) := by decide +kernel
theorem dX11_text_9 : decode cX11_text 9 = .ok (.getfield 12, 3) := by decide +kernel
theorem dX11_text_12 : decode cX11_text 12 = .ok (.iconst 0, 1) := by decide +kernel
theorem dX11_text_13 : decode cX11_text 13 = .ok (.putfield 68, 3) := by decide +kernel
theorem dX11_text_16 : decode cX11_text 16 = .ok (.iload_n 1, 1) := by decide +kernel
theorem dX11_text_17 : decode cX11_text 17 = .ok (.ifCond .ne 5, 3) := by decide +kernel
theorem dX11_text_20 : decode cX11_text 20 = .ok (.iconst (-1), 1) := by decide +kernel
theorem dX11_text_21 : decode cX11_text 21 = .ok (.ireturn, 1) := by decide +kernel
theorem dX11_text_22 : decode cX11_text 22 = .ok (.aload_n 0, 1) := by decide +kernel
theorem dX11_text_23 : decode cX11_text 23 = .ok (.getfield 19, 3) := by decide +kernel
theorem dX11_text_26 : decode cX11_text 26 = .ok (.getfield 115, 3) := by decide +kernel
theorem dX11_text_29 : decode cX11_text 29 = .ok (.aload_n 0, 1) := by decide +kernel
theorem dX11_text_30 : decode cX11_text 30 = .ok (.getfield 38, 3) := by decide +kernel
theorem dX11_text_33 : decode cX11_text 33 = .ok (.getfield 119, 3) := by decide +kernel
theorem dX11_text_36 : decode cX11_text 36 = .ok (.aload_n 0, 1) := by decide +kernel
theorem dX11_text_37 : decode cX11_text 37 = .ok (.getfield 38, 3) := by decide +kernel
theorem dX11_text_40 : decode cX11_text 40 = .ok (.getfield 122, 3) := by decide +kernel
theorem dX11_text_43 : decode cX11_text 43 = .ok (.aload_n 0, 1) := by decide +kernel
theorem dX11_text_44 : decode cX11_text 44 = .ok (.getfield 38, 3) := by decide +kernel
theorem dX11_text_47 : decode cX11_text 47 = .ok (.getfield 125, 3) := by decide +kernel
theorem dX11_text_50 : decode cX11_text 50 = .ok (.invokevirtual 128, 3) := by decide +kernel
theorem dX11_text_53 : decode cX11_text 53 = .ok (.aload_n 0, 1) := by decide +kernel
theorem dX11_text_54 : decode cX11_text 54 = .ok (.getfield 19, 3) := by decide +kernel
theorem dX11_text_57 : decode cX11_text 57 = .ok (.getfield 115, 3) := by decide +kernel
theorem dX11_text_60 : decode cX11_text 60 = .ok (.getfield 134, 3) := by decide +kernel
theorem dX11_text_63 : decode cX11_text 63 = .ok (.ireturn, 1) := by decide +kernel
theorem dX11_fault_0 : decode cX11_fault 0 = .ok (.iload_n 1, 1) := by decide +kernel
theorem dX11_fault_1 : decode cX11_fault 1 = .ok (.ifCond .ne 11, 3) := by decide +kernel
theorem dX11_fault_4 : decode cX11_fault 4 = .ok (.aload_n 0, 1) := by decide +kernel
theorem dX11_fault_5 : decode cX11_fault 5 = .ok (.getfield 38, 3) := by decide +kernel
theorem dX11_fault_8 : decode cX11_fault 8 = .ok (.getfield 135, 3) := by decide +kernel
theorem dX11_fault_11 : decode cX11_fault 11 = .ok (.ireturn, 1) := by decide +kernel
theorem dX11_fault_12 : decode cX11_fault 12 = .ok (.iload_n 1, 1) := by decide +kernel
theorem dX11_fault_13 : decode cX11_fault 13 = .ok (.iconst 1, 1) := by decide +kernel
theorem dX11_fault_14 : decode cX11_fault 14 = .ok (.if_icmp .ne 13, 3) := by decide +kernel
theorem dX11_fault_17 : decode cX11_fault 17 = .ok (.aload_n 0, 1) := by decide +kernel
theorem dX11_fault_18 : decode cX11_fault 18 = .ok (.getfield 38, 3) := by decide +kernel
theorem dX11_fault_21 : decode cX11_fault 21 = .ok (.getfield 138, 3) := by decide +kernel
theorem dX11_fault_24 : decode cX11_fault 24 = .ok (.goto 4, 3) := by decide +kernel
theorem dX11_fault_27 : decode cX11_fault 27 = .ok (.iconst (-1), 1) := by decide +kernel
theorem dX11_fault_28 : decode cX11_fault 28 = .ok (.ireturn, 1) := by decide +kernel
theorem dX11_order_0 : decode cX11_order 0 = .ok (.aload_n 0, 1) := by decide +kernel
theorem dX11_order_1 : decode cX11_order 1 = .ok (.getfield 19, 3) := by decide +kernel
theorem dX11_order_4 : decode cX11_order 4 = .ok (.getfield 83, 3) := by decide +kernel
theorem dX11_order_7 : decode cX11_order 7 = .ok (.iload_n 1, 1) := by decide +kernel
theorem dX11_order_8 : decode cX11_order 8 = .ok (.invokevirtual 95, 3) := by decide +kernel
theorem dX11_order_11 : decode cX11_order 11 = .ok (.ifCond .ne 5, 3) := by decide +kernel
theorem dX11_order_14 : decode cX11_order 14 = .ok (.iconst (-1), 1) := by decide +kernel
theorem dX11_order_15 : decode cX11_order 15 = .ok (.ireturn, 1) := by decide +kernel
theorem dX11_order_16 : decode cX11_order 16 = .ok (.aload_n 0, 1) := by decide +kernel
theorem dX11_order_17 : decode cX11_order 17 = .ok (.getfield 47, 3) := by decide +kernel
theorem dX11_order_20 : decode cX11_order 20 = .ok (.invokevirtual 141, 3) := by decide +kernel
theorem dX11_order_23 : decode cX11_order 23 = .ok (.aload_n 0, 1) := by decide +kernel
theorem dX11_order_24 : decode cX11_order 24 = .ok (.getfield 47, 3) := by decide +kernel
theorem dX11_order_27 : decode cX11_order 27 = .ok (.getfield 144, 3) := by decide +kernel
theorem dX11_order_30 : decode cX11_order 30 = .ok (.iload_n 1, 1) := by decide +kernel
theorem dX11_order_31 : decode cX11_order 31 = .ok (.iaload, 1) := by decide +kernel
theorem dX11_order_32 : decode cX11_order 32 = .ok (.ireturn, 1) := by decide +kernel
theorem dX11_days_0 : decode cX11_days 0 = .ok (.iload_n 1, 1) := by decide +kernel
theorem dX11_days_1 : decode cX11_days 1 = .ok (.iconst 1, 1) := by decide +kernel
theorem dX11_days_2 : decode cX11_days 2 = .ok (.sipush 400, 3) := by decide +kernel
theorem dX11_days_5 : decode cX11_days 5 = .ok (.invokestatic 75, 3) := by decide +kernel
theorem dX11_days_8 : decode cX11_days 8 = .ok (.ifCond .eq 21, 3) := by decide +kernel
theorem dX11_days_11 : decode cX11_days 11 = .ok (.aload_n 0, 1) := by decide +kernel
theorem dX11_days_12 : decode cX11_days 12 = .ok (.getfield 19, 3) := by decide +kernel
theorem dX11_days_15 : decode cX11_days 15 = .ok (.getfield 58, 3) := by decide +kernel
theorem dX11_days_18 : decode cX11_days 18 = .ok (.getfield 147, 3) := by decide +kernel
theorem dX11_days_21 : decode cX11_days 21 = .ok (.sipush 9999, 3) := by decide +kernel
theorem dX11_days_24 : decode cX11_days 24 = .ok (.iload_n 1, 1) := by decide +kernel
theorem dX11_days_25 : decode cX11_days 25 = .ok (.isub, 1) := by decide +kernel
theorem dX11_days_26 : decode cX11_days 26 = .ok (.if_icmp .le 5, 3) := by decide +kernel
theorem dX11_days_29 : decode cX11_days 29 = .ok (.iconst (-1), 1) := by decide +kernel
theorem dX11_days_30 : decode cX11_days 30 = .ok (.ireturn, 1) := by decide +kernel
theorem dX11_days_31 : decode cX11_days 31 = .ok (.iconst 0, 1) := by decide +kernel
theorem dX11_days_32 : decode cX11_days 32 = .ok (.istore_n 2, 1) := by decide +kernel
theorem dX11_days_33 : decode cX11_days 33 = .ok (.iconst 0, 1) := by decide +kernel
theorem dX11_days_34 : decode cX11_days 34 = .ok (.istore_n 3, 1) := by decide +kernel
theorem dX11_days_35 : decode cX11_days 35 = .ok (.iload_n 3, 1) := by decide +kernel
theorem dX11_days_36 : decode cX11_days 36 = .ok (.iload_n 1, 1) := by decide +kernel
theorem dX11_days_37 : decode cX11_days 37 = .ok (.if_icmp .ge 44, 3) := by decide +kernel
theorem dX11_days_40 : decode cX11_days 40 = .ok (.iload_n 1, 1) := by decide +kernel
theorem dX11_days_41 : decode cX11_days 41 = .ok (.iload_n 3, 1) := by decide +kernel
theorem dX11_days_42 : decode cX11_days 42 = .ok (.isub, 1) := by decide +kernel
theorem dX11_days_43 : decode cX11_days 43 = .ok (.bipush 8, 2) := by decide +kernel
theorem dX11_days_45 : decode cX11_days 45 = .ok (.if_icmp .gt 17, 3) := by decide +kernel
theorem dX11_days_48 : decode cX11_days 48 = .ok (.aload_n 0, 1) := by decide +kernel
theorem dX11_days_49 : decode cX11_days 49 = .ok (.getfield 29, 3) := by decide +kernel
theorem dX11_days_52 : decode cX11_days 52 = .ok (.aload_n 0, 1) := by decide +kernel
theorem dX11_days_53 : decode cX11_days 53 = .ok (.getfield 19, 3) := by decide +kernel
theorem dX11_days_56 : decode cX11_days 56 = .ok (.getfield 58, 3) := by decide +kernel
theorem dX11_days_59 : decode cX11_days 59 = .ok (.invokevirtual 150, 3) := by decide +kernel
theorem dX11_days_62 : decode cX11_days 62 = .ok (.aload_n 0, 1) := by decide +kernel
theorem dX11_days_63 : decode cX11_days 63 = .ok (.getfield 47, 3) := by decide +kernel
theorem dX11_days_66 : decode cX11_days 66 = .ok (.invokevirtual 154, 3) := by decide +kernel
theorem dX11_days_69 : decode cX11_days 69 = .ok (.ifCond .eq 6, 3) := by decide +kernel
theorem dX11_days_72 : decode cX11_days 72 = .ok (.iinc 2 1, 3) := by decide +kernel
theorem dX11_days_75 : decode cX11_days 75 = .ok (.iinc 3 1, 3) := by decide +kernel
theorem dX11_days_78 : decode cX11_days 78 = .ok (.goto (-43), 3) := by decide +kernel
theorem dX11_days_81 : decode cX11_days 81 = .ok (.iload_n 2, 1) := by decide +kernel
theorem dX11_days_82 : decode cX11_days 82 = .ok (.ireturn, 1) := by decide +kernel
theorem dX11_of_0 : decode cX11_of 0 = .ok (.aload_n 0, 1) := by decide +kernel
theorem dX11_of_1 : decode cX11_of 1 = .ok (.getfield 19, 3) := by decide +kernel
theorem dX11_of_4 : decode cX11_of 4 = .ok (.getfield 83, 3) := by decide +kernel
theorem dX11_of_7 : decode cX11_of 7 = .ok (.iload_n 1, 1) := by decide +kernel
theorem dX11_of_8 : decode cX11_of 8 = .ok (.invokevirtual 95, 3) := by decide +kernel
theorem dX11_of_11 : decode cX11_of 11 = .ok (.ifCond .ne 6, 3) := by decide +kernel
theorem dX11_of_14 : decode cX11_of 14 = .ok (.ldc 157, 2) := by decide +kernel
theorem dX11_of_16 : decode cX11_of 16 = .ok (.ireturn, 1) := by decide +kernel
theorem dX11_of_17 : decode cX11_of 17 = .ok (.iload_n 2, 1) := by decide +kernel
theorem dX11_of_18 : decode cX11_of 18 = .ok (.tableswitch 184 0 9 #[54, 67, 80, 93, 106, 119, 132, 145, 158, 171], 54) := by decide +kernel
theorem dX11_of_72 : decode cX11_of 72 = .ok (.aload_n 0, 1) := by decide +kernel
theorem dX11_of_73 : decode cX11_of 73 = .ok (.getfield 19, 3) := by decide +kernel
theorem dX11_of_76 : decode cX11_of 76 = .ok (.getfield 83, 3) := by decide +kernel
theorem dX11_of_79 : decode cX11_of 79 = .ok (.getfield 158, 3) := by decide +kernel
theorem dX11_of_82 : decode cX11_of 82 = .ok (.iload_n 1, 1) := by decide +kernel
theorem dX11_of_83 : decode cX11_of 83 = .ok (.iaload, 1) := by decide +kernel
theorem dX11_of_84 : decode cX11_of 84 = .ok (.ireturn, 1) := by decide +kernel
theorem dX11_of_85 : decode cX11_of 85 = .ok (.aload_n 0, 1) := by decide +kernel
theorem dX11_of_86 : decode cX11_of 86 = .ok (.getfield 19, 3) := by decide +kernel
theorem dX11_of_89 : decode cX11_of 89 = .ok (.getfield 83, 3) := by decide +kernel
theorem dX11_of_92 : decode cX11_of 92 = .ok (.getfield 161, 3) := by decide +kernel
theorem dX11_of_95 : decode cX11_of 95 = .ok (.iload_n 1, 1) := by decide +kernel
theorem dX11_of_96 : decode cX11_of 96 = .ok (.iaload, 1) := by decide +kernel
theorem dX11_of_97 : decode cX11_of 97 = .ok (.ireturn, 1) := by decide +kernel
theorem dX11_of_98 : decode cX11_of 98 = .ok (.aload_n 0, 1) := by decide +kernel
theorem dX11_of_99 : decode cX11_of 99 = .ok (.getfield 19, 3) := by decide +kernel
theorem dX11_of_102 : decode cX11_of 102 = .ok (.getfield 83, 3) := by decide +kernel
theorem dX11_of_105 : decode cX11_of 105 = .ok (.getfield 164, 3) := by decide +kernel
theorem dX11_of_108 : decode cX11_of 108 = .ok (.iload_n 1, 1) := by decide +kernel
theorem dX11_of_109 : decode cX11_of 109 = .ok (.iaload, 1) := by decide +kernel
theorem dX11_of_110 : decode cX11_of 110 = .ok (.ireturn, 1) := by decide +kernel
theorem dX11_of_111 : decode cX11_of 111 = .ok (.aload_n 0, 1) := by decide +kernel
theorem dX11_of_112 : decode cX11_of 112 = .ok (.getfield 19, 3) := by decide +kernel
theorem dX11_of_115 : decode cX11_of 115 = .ok (.getfield 58, 3) := by decide +kernel
theorem dX11_of_118 : decode cX11_of 118 = .ok (.getfield 100, 3) := by decide +kernel
theorem dX11_of_121 : decode cX11_of 121 = .ok (.iload_n 1, 1) := by decide +kernel
theorem dX11_of_122 : decode cX11_of 122 = .ok (.iaload, 1) := by decide +kernel
theorem dX11_of_123 : decode cX11_of 123 = .ok (.ireturn, 1) := by decide +kernel
theorem dX11_of_124 : decode cX11_of 124 = .ok (.aload_n 0, 1) := by decide +kernel
theorem dX11_of_125 : decode cX11_of 125 = .ok (.getfield 19, 3) := by decide +kernel
theorem dX11_of_128 : decode cX11_of 128 = .ok (.getfield 58, 3) := by decide +kernel
theorem dX11_of_131 : decode cX11_of 131 = .ok (.getfield 167, 3) := by decide +kernel
theorem dX11_of_134 : decode cX11_of 134 = .ok (.iload_n 1, 1) := by decide +kernel
theorem dX11_of_135 : decode cX11_of 135 = .ok (.iaload, 1) := by decide +kernel
theorem dX11_of_136 : decode cX11_of 136 = .ok (.ireturn, 1) := by decide +kernel
theorem dX11_of_137 : decode cX11_of 137 = .ok (.aload_n 0, 1) := by decide +kernel
theorem dX11_of_138 : decode cX11_of 138 = .ok (.getfield 19, 3) := by decide +kernel
theorem dX11_of_141 : decode cX11_of 141 = .ok (.getfield 58, 3) := by decide +kernel
theorem dX11_of_144 : decode cX11_of 144 = .ok (.getfield 170, 3) := by decide +kernel
theorem dX11_of_147 : decode cX11_of 147 = .ok (.iload_n 1, 1) := by decide +kernel
theorem dX11_of_148 : decode cX11_of 148 = .ok (.iaload, 1) := by decide +kernel
theorem dX11_of_149 : decode cX11_of 149 = .ok (.ireturn, 1) := by decide +kernel
theorem dX11_of_150 : decode cX11_of 150 = .ok (.aload_n 0, 1) := by decide +kernel
theorem dX11_of_151 : decode cX11_of 151 = .ok (.getfield 19, 3) := by decide +kernel
theorem dX11_of_154 : decode cX11_of 154 = .ok (.getfield 58, 3) := by decide +kernel
theorem dX11_of_157 : decode cX11_of 157 = .ok (.getfield 173, 3) := by decide +kernel
theorem dX11_of_160 : decode cX11_of 160 = .ok (.iload_n 1, 1) := by decide +kernel
theorem dX11_of_161 : decode cX11_of 161 = .ok (.iaload, 1) := by decide +kernel
theorem dX11_of_162 : decode cX11_of 162 = .ok (.ireturn, 1) := by decide +kernel
theorem dX11_of_163 : decode cX11_of 163 = .ok (.aload_n 0, 1) := by decide +kernel
theorem dX11_of_164 : decode cX11_of 164 = .ok (.getfield 19, 3) := by decide +kernel
theorem dX11_of_167 : decode cX11_of 167 = .ok (.getfield 58, 3) := by decide +kernel
theorem dX11_of_170 : decode cX11_of 170 = .ok (.getfield 176, 3) := by decide +kernel
theorem dX11_of_173 : decode cX11_of 173 = .ok (.iload_n 1, 1) := by decide +kernel
theorem dX11_of_174 : decode cX11_of 174 = .ok (.iaload, 1) := by decide +kernel
theorem dX11_of_175 : decode cX11_of 175 = .ok (.ireturn, 1) := by decide +kernel
theorem dX11_of_176 : decode cX11_of 176 = .ok (.aload_n 0, 1) := by decide +kernel
theorem dX11_of_177 : decode cX11_of 177 = .ok (.getfield 19, 3) := by decide +kernel
theorem dX11_of_180 : decode cX11_of 180 = .ok (.getfield 58, 3) := by decide +kernel
theorem dX11_of_183 : decode cX11_of 183 = .ok (.getfield 179, 3) := by decide +kernel
theorem dX11_of_186 : decode cX11_of 186 = .ok (.iload_n 1, 1) := by decide +kernel
theorem dX11_of_187 : decode cX11_of 187 = .ok (.iaload, 1) := by decide +kernel
theorem dX11_of_188 : decode cX11_of 188 = .ok (.ireturn, 1) := by decide +kernel
theorem dX11_of_189 : decode cX11_of 189 = .ok (.aload_n 0, 1) := by decide +kernel
theorem dX11_of_190 : decode cX11_of 190 = .ok (.getfield 19, 3) := by decide +kernel
theorem dX11_of_193 : decode cX11_of 193 = .ok (.getfield 83, 3) := by decide +kernel
theorem dX11_of_196 : decode cX11_of 196 = .ok (.getfield 182, 3) := by decide +kernel
theorem dX11_of_199 : decode cX11_of 199 = .ok (.iload_n 1, 1) := by decide +kernel
theorem dX11_of_200 : decode cX11_of 200 = .ok (.iaload, 1) := by decide +kernel
theorem dX11_of_201 : decode cX11_of 201 = .ok (.ireturn, 1) := by decide +kernel
theorem dX11_of_202 : decode cX11_of 202 = .ok (.iload_n 2, 1) := by decide +kernel
theorem dX11_of_203 : decode cX11_of 203 = .ok (.bipush 10, 2) := by decide +kernel
theorem dX11_of_205 : decode cX11_of 205 = .ok (.isub, 1) := by decide +kernel
theorem dX11_of_206 : decode cX11_of 206 = .ok (.istore_n 3, 1) := by decide +kernel
theorem dX11_of_207 : decode cX11_of 207 = .ok (.iload_n 3, 1) := by decide +kernel
theorem dX11_of_208 : decode cX11_of 208 = .ok (.ifCond .lt 34, 3) := by decide +kernel
theorem dX11_of_211 : decode cX11_of 211 = .ok (.iload_n 3, 1) := by decide +kernel
theorem dX11_of_212 : decode cX11_of 212 = .ok (.aload_n 0, 1) := by decide +kernel
theorem dX11_of_213 : decode cX11_of 213 = .ok (.getfield 19, 3) := by decide +kernel
theorem dX11_of_216 : decode cX11_of 216 = .ok (.getfield 83, 3) := by decide +kernel
theorem dX11_of_219 : decode cX11_of 219 = .ok (.getfield 185, 3) := by decide +kernel
theorem dX11_of_222 : decode cX11_of 222 = .ok (.iload_n 1, 1) := by decide +kernel
theorem dX11_of_223 : decode cX11_of 223 = .ok (.iaload, 1) := by decide +kernel
theorem dX11_of_224 : decode cX11_of 224 = .ok (.if_icmp .ge 18, 3) := by decide +kernel
theorem dX11_of_227 : decode cX11_of 227 = .ok (.aload_n 0, 1) := by decide +kernel
theorem dX11_of_228 : decode cX11_of 228 = .ok (.getfield 19, 3) := by decide +kernel
theorem dX11_of_231 : decode cX11_of 231 = .ok (.getfield 83, 3) := by decide +kernel
theorem dX11_of_234 : decode cX11_of 234 = .ok (.iload_n 1, 1) := by decide +kernel
theorem dX11_of_235 : decode cX11_of 235 = .ok (.iload_n 3, 1) := by decide +kernel
theorem dX11_of_236 : decode cX11_of 236 = .ok (.invokevirtual 188, 3) := by decide +kernel
theorem dX11_of_239 : decode cX11_of 239 = .ok (.goto 5, 3) := by decide +kernel
theorem dX11_of_242 : decode cX11_of 242 = .ok (.ldc 157, 2) := by decide +kernel
theorem dX11_of_244 : decode cX11_of 244 = .ok (.ireturn, 1) := by decide +kernel
theorem dX11_book_0 : decode cX11_book 0 = .ok (.iload_n 1, 1) := by decide +kernel
theorem dX11_book_1 : decode cX11_book 1 = .ok (.bipush 100, 2) := by decide +kernel
theorem dX11_book_3 : decode cX11_book 3 = .ok (.if_icmp .ne 14, 3) := by decide +kernel
theorem dX11_book_6 : decode cX11_book 6 = .ok (.aload_n 0, 1) := by decide +kernel
theorem dX11_book_7 : decode cX11_book 7 = .ok (.getfield 19, 3) := by decide +kernel
theorem dX11_book_10 : decode cX11_book 10 = .ok (.getfield 58, 3) := by decide +kernel
theorem dX11_book_13 : decode cX11_book 13 = .ok (.getfield 192, 3) := by decide +kernel
theorem dX11_book_16 : decode cX11_book 16 = .ok (.ireturn, 1) := by decide +kernel
theorem dX11_book_17 : decode cX11_book 17 = .ok (.iload_n 1, 1) := by decide +kernel
theorem dX11_book_18 : decode cX11_book 18 = .ok (.ifCond .lt 32, 3) := by decide +kernel
theorem dX11_book_21 : decode cX11_book 21 = .ok (.iload_n 1, 1) := by decide +kernel
theorem dX11_book_22 : decode cX11_book 22 = .ok (.aload_n 0, 1) := by decide +kernel
theorem dX11_book_23 : decode cX11_book 23 = .ok (.getfield 19, 3) := by decide +kernel
theorem dX11_book_26 : decode cX11_book 26 = .ok (.getfield 58, 3) := by decide +kernel
theorem dX11_book_29 : decode cX11_book 29 = .ok (.getfield 195, 3) := by decide +kernel
theorem dX11_book_32 : decode cX11_book 32 = .ok (.if_icmp .ge 18, 3) := by decide +kernel
theorem dX11_book_35 : decode cX11_book 35 = .ok (.aload_n 0, 1) := by decide +kernel
theorem dX11_book_36 : decode cX11_book 36 = .ok (.getfield 19, 3) := by decide +kernel
theorem dX11_book_39 : decode cX11_book 39 = .ok (.getfield 58, 3) := by decide +kernel
theorem dX11_book_42 : decode cX11_book 42 = .ok (.getfield 198, 3) := by decide +kernel
theorem dX11_book_45 : decode cX11_book 45 = .ok (.iload_n 1, 1) := by decide +kernel
theorem dX11_book_46 : decode cX11_book 46 = .ok (.iaload, 1) := by decide +kernel
theorem dX11_book_47 : decode cX11_book 47 = .ok (.goto 4, 3) := by decide +kernel
theorem dX11_book_50 : decode cX11_book 50 = .ok (.iconst (-1), 1) := by decide +kernel
theorem dX11_book_51 : decode cX11_book 51 = .ok (.ireturn, 1) := by decide +kernel
theorem dX11_gain_0 : decode cX11_gain 0 = .ok (.aload_n 0, 1) := by decide +kernel
theorem dX11_gain_1 : decode cX11_gain 1 = .ok (.getfield 47, 3) := by decide +kernel
theorem dX11_gain_4 : decode cX11_gain 4 = .ok (.aload_n 0, 1) := by decide +kernel
theorem dX11_gain_5 : decode cX11_gain 5 = .ok (.getfield 12, 3) := by decide +kernel
theorem dX11_gain_8 : decode cX11_gain 8 = .ok (.invokevirtual 201, 3) := by decide +kernel
theorem dX11_gain_11 : decode cX11_gain 11 = .ok (.istore_n 2, 1) := by decide +kernel
theorem dX11_gain_12 : decode cX11_gain 12 = .ok (.aload_n 0, 1) := by decide +kernel
theorem dX11_gain_13 : decode cX11_gain 13 = .ok (.getfield 12, 3) := by decide +kernel
theorem dX11_gain_16 : decode cX11_gain 16 = .ok (.iconst 0, 1) := by decide +kernel
theorem dX11_gain_17 : decode cX11_gain 17 = .ok (.putfield 68, 3) := by decide +kernel
theorem dX11_gain_20 : decode cX11_gain 20 = .ok (.iload_n 2, 1) := by decide +kernel
theorem dX11_gain_21 : decode cX11_gain 21 = .ok (.ifCond .eq 28, 3) := by decide +kernel
theorem dX11_gain_24 : decode cX11_gain 24 = .ok (.aload_n 0, 1) := by decide +kernel
theorem dX11_gain_25 : decode cX11_gain 25 = .ok (.getfield 19, 3) := by decide +kernel
theorem dX11_gain_28 : decode cX11_gain 28 = .ok (.getfield 83, 3) := by decide +kernel
theorem dX11_gain_31 : decode cX11_gain 31 = .ok (.iload_n 1, 1) := by decide +kernel
theorem dX11_gain_32 : decode cX11_gain 32 = .ok (.invokevirtual 95, 3) := by decide +kernel
theorem dX11_gain_35 : decode cX11_gain 35 = .ok (.ifCond .eq 14, 3) := by decide +kernel
theorem dX11_gain_38 : decode cX11_gain 38 = .ok (.aload_n 0, 1) := by decide +kernel
theorem dX11_gain_39 : decode cX11_gain 39 = .ok (.getfield 47, 3) := by decide +kernel
theorem dX11_gain_42 : decode cX11_gain 42 = .ok (.iload_n 1, 1) := by decide +kernel
theorem dX11_gain_43 : decode cX11_gain 43 = .ok (.invokevirtual 205, 3) := by decide +kernel
theorem dX11_gain_46 : decode cX11_gain 46 = .ok (.goto 5, 3) := by decide +kernel
theorem dX11_gain_49 : decode cX11_gain 49 = .ok (.ldc 157, 2) := by decide +kernel
theorem dX11_gain_51 : decode cX11_gain 51 = .ok (.ireturn, 1) := by decide +kernel
theorem dX11_orders_0 : decode cX11_orders 0 = .ok (.aload_n 0, 1) := by decide +kernel
theorem dX11_orders_1 : decode cX11_orders 1 = .ok (.iload_n 1, 1) := by decide +kernel
theorem dX11_orders_2 : decode cX11_orders 2 = .ok (.invokevirtual 209, 3) := by decide +kernel
theorem dX11_orders_5 : decode cX11_orders 5 = .ok (.ifCond .ne 5, 3) := by decide +kernel
theorem dX11_orders_8 : decode cX11_orders 8 = .ok (.iconst (-1), 1) := by decide +kernel
theorem dX11_orders_9 : decode cX11_orders 9 = .ok (.ireturn, 1) := by decide +kernel
theorem dX11_orders_10 : decode cX11_orders 10 = .ok (.aload_n 0, 1) := by decide +kernel
theorem dX11_orders_11 : decode cX11_orders 11 = .ok (.getfield 47, 3) := by decide +kernel
theorem dX11_orders_14 : decode cX11_orders 14 = .ok (.invokevirtual 212, 3) := by decide +kernel
theorem dX11_orders_17 : decode cX11_orders 17 = .ok (.iload_n 1, 1) := by decide +kernel
theorem dX11_orders_18 : decode cX11_orders 18 = .ok (.ifCond .ne 11, 3) := by decide +kernel
theorem dX11_orders_21 : decode cX11_orders 21 = .ok (.aload_n 0, 1) := by decide +kernel
theorem dX11_orders_22 : decode cX11_orders 22 = .ok (.getfield 47, 3) := by decide +kernel
theorem dX11_orders_25 : decode cX11_orders 25 = .ok (.getfield 215, 3) := by decide +kernel
theorem dX11_orders_28 : decode cX11_orders 28 = .ok (.ireturn, 1) := by decide +kernel
theorem dX11_orders_29 : decode cX11_orders 29 = .ok (.aload_n 0, 1) := by decide +kernel
theorem dX11_orders_30 : decode cX11_orders 30 = .ok (.getfield 47, 3) := by decide +kernel
theorem dX11_orders_33 : decode cX11_orders 33 = .ok (.getfield 215, 3) := by decide +kernel
theorem dX11_orders_36 : decode cX11_orders 36 = .ok (.ifCond .le 18, 3) := by decide +kernel
theorem dX11_orders_39 : decode cX11_orders 39 = .ok (.aload_n 0, 1) := by decide +kernel
theorem dX11_orders_40 : decode cX11_orders 40 = .ok (.getfield 47, 3) := by decide +kernel
theorem dX11_orders_43 : decode cX11_orders 43 = .ok (.getfield 218, 3) := by decide +kernel
theorem dX11_orders_46 : decode cX11_orders 46 = .ok (.iload_n 1, 1) := by decide +kernel
theorem dX11_orders_47 : decode cX11_orders 47 = .ok (.bipush 10, 2) := by decide +kernel
theorem dX11_orders_49 : decode cX11_orders 49 = .ok (.isub, 1) := by decide +kernel
theorem dX11_orders_50 : decode cX11_orders 50 = .ok (.iaload, 1) := by decide +kernel
theorem dX11_orders_51 : decode cX11_orders 51 = .ok (.goto 4, 3) := by decide +kernel
theorem dX11_orders_54 : decode cX11_orders 54 = .ok (.iconst (-1), 1) := by decide +kernel
theorem dX11_orders_55 : decode cX11_orders 55 = .ok (.ireturn, 1) := by decide +kernel
theorem dX11_round_0 : decode cX11_round 0 = .ok (.iload_n 1, 1) := by decide +kernel
theorem dX11_round_1 : decode cX11_round 1 = .ok (.ifCond .eq 10, 3) := by decide +kernel
theorem dX11_round_4 : decode cX11_round 4 = .ok (.iload_n 1, 1) := by decide +kernel
theorem dX11_round_5 : decode cX11_round 5 = .ok (.iconst 1, 1) := by decide +kernel
theorem dX11_round_6 : decode cX11_round 6 = .ok (.if_icmp .eq 5, 3) := by decide +kernel
theorem dX11_round_9 : decode cX11_round 9 = .ok (.iconst (-1), 1) := by decide +kernel
theorem dX11_round_10 : decode cX11_round 10 = .ok (.ireturn, 1) := by decide +kernel
theorem dX11_round_11 : decode cX11_round 11 = .ok (.aload_n 0, 1) := by decide +kernel
theorem dX11_round_12 : decode cX11_round 12 = .ok (.getfield 47, 3) := by decide +kernel
theorem dX11_round_15 : decode cX11_round 15 = .ok (.invokevirtual 221, 3) := by decide +kernel
theorem dX11_round_18 : decode cX11_round 18 = .ok (.iload_n 1, 1) := by decide +kernel
theorem dX11_round_19 : decode cX11_round 19 = .ok (.ifCond .ne 13, 3) := by decide +kernel
theorem dX11_round_22 : decode cX11_round 22 = .ok (.aload_n 0, 1) := by decide +kernel
theorem dX11_round_23 : decode cX11_round 23 = .ok (.getfield 47, 3) := by decide +kernel
theorem dX11_round_26 : decode cX11_round 26 = .ok (.getfield 224, 3) := by decide +kernel
theorem dX11_round_29 : decode cX11_round 29 = .ok (.goto 10, 3) := by decide +kernel
theorem dX11_round_32 : decode cX11_round 32 = .ok (.aload_n 0, 1) := by decide +kernel
theorem dX11_round_33 : decode cX11_round 33 = .ok (.getfield 47, 3) := by decide +kernel
theorem dX11_round_36 : decode cX11_round 36 = .ok (.getfield 227, 3) := by decide +kernel
theorem dX11_round_39 : decode cX11_round 39 = .ok (.ireturn, 1) := by decide +kernel
theorem dX11_least_0 : decode cX11_least 0 = .ok (.aload_n 0, 1) := by decide +kernel
theorem dX11_least_1 : decode cX11_least 1 = .ok (.iload_n 1, 1) := by decide +kernel
theorem dX11_least_2 : decode cX11_least 2 = .ok (.invokevirtual 209, 3) := by decide +kernel
theorem dX11_least_5 : decode cX11_least 5 = .ok (.ifCond .ne 5, 3) := by decide +kernel
theorem dX11_least_8 : decode cX11_least 8 = .ok (.iconst (-1), 1) := by decide +kernel
theorem dX11_least_9 : decode cX11_least 9 = .ok (.ireturn, 1) := by decide +kernel
theorem dX11_least_10 : decode cX11_least 10 = .ok (.aload_n 0, 1) := by decide +kernel
theorem dX11_least_11 : decode cX11_least 11 = .ok (.getfield 47, 3) := by decide +kernel
theorem dX11_least_14 : decode cX11_least 14 = .ok (.invokevirtual 230, 3) := by decide +kernel
theorem dX11_least_17 : decode cX11_least 17 = .ok (.iload_n 1, 1) := by decide +kernel
theorem dX11_least_18 : decode cX11_least 18 = .ok (.ifCond .ne 13, 3) := by decide +kernel
theorem dX11_least_21 : decode cX11_least 21 = .ok (.aload_n 0, 1) := by decide +kernel
theorem dX11_least_22 : decode cX11_least 22 = .ok (.getfield 47, 3) := by decide +kernel
theorem dX11_least_25 : decode cX11_least 25 = .ok (.getfield 233, 3) := by decide +kernel
theorem dX11_least_28 : decode cX11_least 28 = .ok (.goto 15, 3) := by decide +kernel
theorem dX11_least_31 : decode cX11_least 31 = .ok (.aload_n 0, 1) := by decide +kernel
theorem dX11_least_32 : decode cX11_least 32 = .ok (.getfield 47, 3) := by decide +kernel
theorem dX11_least_35 : decode cX11_least 35 = .ok (.getfield 218, 3) := by decide +kernel
theorem dX11_least_38 : decode cX11_least 38 = .ok (.iload_n 1, 1) := by decide +kernel
theorem dX11_least_39 : decode cX11_least 39 = .ok (.bipush 10, 2) := by decide +kernel
theorem dX11_least_41 : decode cX11_least 41 = .ok (.isub, 1) := by decide +kernel
theorem dX11_least_42 : decode cX11_least 42 = .ok (.iaload, 1) := by decide +kernel
theorem dX11_least_43 : decode cX11_least 43 = .ok (.ireturn, 1) := by decide +kernel
theorem dX11_leaven_0 : decode cX11_leaven 0 = .ok (.iload_n 2, 1) := by decide +kernel
theorem dX11_leaven_1 : decode cX11_leaven 1 = .ok (.iconst (-1), 1) := by decide +kernel
theorem dX11_leaven_2 : decode cX11_leaven 2 = .ok (.if_icmp .ne 33, 3) := by decide +kernel
theorem dX11_leaven_5 : decode cX11_leaven 5 = .ok (.aload_n 0, 1) := by decide +kernel
theorem dX11_leaven_6 : decode cX11_leaven 6 = .ok (.getfield 19, 3) := by decide +kernel
theorem dX11_leaven_9 : decode cX11_leaven 9 = .ok (.getfield 83, 3) := by decide +kernel
theorem dX11_leaven_12 : decode cX11_leaven 12 = .ok (.iload_n 1, 1) := by decide +kernel
theorem dX11_leaven_13 : decode cX11_leaven 13 = .ok (.invokevirtual 95, 3) := by decide +kernel
theorem dX11_leaven_16 : decode cX11_leaven 16 = .ok (.ifCond .eq 17, 3) := by decide +kernel
theorem dX11_leaven_19 : decode cX11_leaven 19 = .ok (.aload_n 0, 1) := by decide +kernel
theorem dX11_leaven_20 : decode cX11_leaven 20 = .ok (.getfield 19, 3) := by decide +kernel
theorem dX11_leaven_23 : decode cX11_leaven 23 = .ok (.getfield 236, 3) := by decide +kernel
theorem dX11_leaven_26 : decode cX11_leaven 26 = .ok (.iload_n 1, 1) := by decide +kernel
theorem dX11_leaven_27 : decode cX11_leaven 27 = .ok (.invokevirtual 240, 3) := by decide +kernel
theorem dX11_leaven_30 : decode cX11_leaven 30 = .ok (.goto 4, 3) := by decide +kernel
theorem dX11_leaven_33 : decode cX11_leaven 33 = .ok (.iconst (-1), 1) := by decide +kernel
theorem dX11_leaven_34 : decode cX11_leaven 34 = .ok (.ireturn, 1) := by decide +kernel
theorem dX11_leaven_35 : decode cX11_leaven 35 = .ok (.aload_n 0, 1) := by decide +kernel
theorem dX11_leaven_36 : decode cX11_leaven 36 = .ok (.getfield 19, 3) := by decide +kernel
theorem dX11_leaven_39 : decode cX11_leaven 39 = .ok (.getfield 236, 3) := by decide +kernel
theorem dX11_leaven_42 : decode cX11_leaven 42 = .ok (.iload_n 1, 1) := by decide +kernel
theorem dX11_leaven_43 : decode cX11_leaven 43 = .ok (.invokevirtual 245, 3) := by decide +kernel
theorem dX11_leaven_46 : decode cX11_leaven 46 = .ok (.ifCond .eq 32, 3) := by decide +kernel
theorem dX11_leaven_49 : decode cX11_leaven 49 = .ok (.aload_n 0, 1) := by decide +kernel
theorem dX11_leaven_50 : decode cX11_leaven 50 = .ok (.getfield 19, 3) := by decide +kernel
theorem dX11_leaven_53 : decode cX11_leaven 53 = .ok (.getfield 236, 3) := by decide +kernel
theorem dX11_leaven_56 : decode cX11_leaven 56 = .ok (.iload_n 2, 1) := by decide +kernel
theorem dX11_leaven_57 : decode cX11_leaven 57 = .ok (.invokevirtual 245, 3) := by decide +kernel
theorem dX11_leaven_60 : decode cX11_leaven 60 = .ok (.ifCond .eq 18, 3) := by decide +kernel
theorem dX11_leaven_63 : decode cX11_leaven 63 = .ok (.aload_n 0, 1) := by decide +kernel
theorem dX11_leaven_64 : decode cX11_leaven 64 = .ok (.getfield 19, 3) := by decide +kernel
theorem dX11_leaven_67 : decode cX11_leaven 67 = .ok (.getfield 236, 3) := by decide +kernel
theorem dX11_leaven_70 : decode cX11_leaven 70 = .ok (.iload_n 1, 1) := by decide +kernel
theorem dX11_leaven_71 : decode cX11_leaven 71 = .ok (.iload_n 2, 1) := by decide +kernel
theorem dX11_leaven_72 : decode cX11_leaven 72 = .ok (.invokevirtual 246, 3) := by decide +kernel
theorem dX11_leaven_75 : decode cX11_leaven 75 = .ok (.goto 4, 3) := by decide +kernel
theorem dX11_leaven_78 : decode cX11_leaven 78 = .ok (.iconst (-1), 1) := by decide +kernel
theorem dX11_leaven_79 : decode cX11_leaven 79 = .ok (.ireturn, 1) := by decide +kernel
theorem dX11_part_0 : decode cX11_part 0 = .ok (.aload_n 0, 1) := by decide +kernel
theorem dX11_part_1 : decode cX11_part 1 = .ok (.getfield 19, 3) := by decide +kernel
theorem dX11_part_4 : decode cX11_part 4 = .ok (.getfield 236, 3) := by decide +kernel
theorem dX11_part_7 : decode cX11_part 7 = .ok (.iload_n 1, 1) := by decide +kernel
theorem dX11_part_8 : decode cX11_part 8 = .ok (.invokevirtual 245, 3) := by decide +kernel
theorem dX11_part_11 : decode cX11_part 11 = .ok (.ifCond .eq 40, 3) := by decide +kernel
theorem dX11_part_14 : decode cX11_part 14 = .ok (.aload_n 0, 1) := by decide +kernel
theorem dX11_part_15 : decode cX11_part 15 = .ok (.getfield 19, 3) := by decide +kernel
theorem dX11_part_18 : decode cX11_part 18 = .ok (.getfield 236, 3) := by decide +kernel
theorem dX11_part_21 : decode cX11_part 21 = .ok (.iload_n 2, 1) := by decide +kernel
theorem dX11_part_22 : decode cX11_part 22 = .ok (.invokevirtual 245, 3) := by decide +kernel
theorem dX11_part_25 : decode cX11_part 25 = .ok (.ifCond .eq 26, 3) := by decide +kernel
theorem dX11_part_28 : decode cX11_part 28 = .ok (.aload_n 0, 1) := by decide +kernel
theorem dX11_part_29 : decode cX11_part 29 = .ok (.getfield 19, 3) := by decide +kernel
theorem dX11_part_32 : decode cX11_part 32 = .ok (.getfield 236, 3) := by decide +kernel
theorem dX11_part_35 : decode cX11_part 35 = .ok (.iload_n 2, 1) := by decide +kernel
theorem dX11_part_36 : decode cX11_part 36 = .ok (.invokevirtual 249, 3) := by decide +kernel
theorem dX11_part_39 : decode cX11_part 39 = .ok (.ifCond .eq 12, 3) := by decide +kernel
theorem dX11_part_42 : decode cX11_part 42 = .ok (.iload_n 3, 1) := by decide +kernel
theorem dX11_part_43 : decode cX11_part 43 = .ok (.ifCond .eq 10, 3) := by decide +kernel
theorem dX11_part_46 : decode cX11_part 46 = .ok (.iload_n 3, 1) := by decide +kernel
theorem dX11_part_47 : decode cX11_part 47 = .ok (.iconst 1, 1) := by decide +kernel
theorem dX11_part_48 : decode cX11_part 48 = .ok (.if_icmp .eq 5, 3) := by decide +kernel
theorem dX11_part_51 : decode cX11_part 51 = .ok (.iconst (-1), 1) := by decide +kernel
theorem dX11_part_52 : decode cX11_part 52 = .ok (.ireturn, 1) := by decide +kernel
theorem dX11_part_53 : decode cX11_part 53 = .ok (.aload_n 0, 1) := by decide +kernel
theorem dX11_part_54 : decode cX11_part 54 = .ok (.getfield 19, 3) := by decide +kernel
theorem dX11_part_57 : decode cX11_part 57 = .ok (.getfield 236, 3) := by decide +kernel
theorem dX11_part_60 : decode cX11_part 60 = .ok (.iload_n 1, 1) := by decide +kernel
theorem dX11_part_61 : decode cX11_part 61 = .ok (.iload_n 2, 1) := by decide +kernel
theorem dX11_part_62 : decode cX11_part 62 = .ok (.invokevirtual 252, 3) := by decide +kernel
theorem dX11_part_65 : decode cX11_part 65 = .ok (.lstore 4, 2) := by decide +kernel
theorem dX11_part_67 : decode cX11_part 67 = .ok (.ldc2_w 256, 3) := by decide +kernel
theorem dX11_part_70 : decode cX11_part 70 = .ok (.lstore 6, 2) := by decide +kernel
theorem dX11_part_72 : decode cX11_part 72 = .ok (.lload 4, 2) := by decide +kernel
theorem dX11_part_74 : decode cX11_part 74 = .ok (.lload 6, 2) := by decide +kernel
theorem dX11_part_76 : decode cX11_part 76 = .ok (.invokestatic 258, 3) := by decide +kernel
theorem dX11_part_79 : decode cX11_part 79 = .ok (.lstore 8, 2) := by decide +kernel
theorem dX11_part_81 : decode cX11_part 81 = .ok (.lload 8, 2) := by decide +kernel
theorem dX11_part_83 : decode cX11_part 83 = .ok (.lconst 0, 1) := by decide +kernel
theorem dX11_part_84 : decode cX11_part 84 = .ok (.lcmp, 1) := by decide +kernel
theorem dX11_part_85 : decode cX11_part 85 = .ok (.ifCond .gt 5, 3) := by decide +kernel
theorem dX11_part_88 : decode cX11_part 88 = .ok (.iconst (-1), 1) := by decide +kernel
theorem dX11_part_89 : decode cX11_part 89 = .ok (.ireturn, 1) := by decide +kernel
theorem dX11_part_90 : decode cX11_part 90 = .ok (.iload_n 3, 1) := by decide +kernel
theorem dX11_part_91 : decode cX11_part 91 = .ok (.ifCond .ne 8, 3) := by decide +kernel
theorem dX11_part_94 : decode cX11_part 94 = .ok (.lload 4, 2) := by decide +kernel
theorem dX11_part_96 : decode cX11_part 96 = .ok (.goto 5, 3) := by decide +kernel
theorem dX11_part_99 : decode cX11_part 99 = .ok (.lload 6, 2) := by decide +kernel
theorem dX11_part_101 : decode cX11_part 101 = .ok (.lload 8, 2) := by decide +kernel
theorem dX11_part_103 : decode cX11_part 103 = .ok (.ldiv, 1) := by decide +kernel
theorem dX11_part_104 : decode cX11_part 104 = .ok (.l2i, 1) := by decide +kernel
theorem dX11_part_105 : decode cX11_part 105 = .ok (.ireturn, 1) := by decide +kernel
theorem dX11_lent_0 : decode cX11_lent 0 = .ok (.aload_n 0, 1) := by decide +kernel
theorem dX11_lent_1 : decode cX11_lent 1 = .ok (.getfield 19, 3) := by decide +kernel
