theorem dX4_heatAfter_54 : decode cX4_heatAfter 54 = .ok (.isub, 1) := by decide +kernel
theorem dX4_heatAfter_55 : decode cX4_heatAfter 55 = .ok (.invokestatic 188, 3) := by decide +kernel
theorem dX4_heatAfter_58 : decode cX4_heatAfter 58 = .ok (.ireturn, 1) := by decide +kernel
theorem dX4_gainOf_0 : decode cX4_gainOf 0 = .ok (.aload_n 0, 1) := by decide +kernel
theorem dX4_gainOf_1 : decode cX4_gainOf 1 = .ok (.invokevirtual 138, 3) := by decide +kernel
theorem dX4_gainOf_4 : decode cX4_gainOf 4 = .ok (.aload_n 0, 1) := by decide +kernel
theorem dX4_gainOf_5 : decode cX4_gainOf 5 = .ok (.getfield 41, 3) := by decide +kernel
theorem dX4_gainOf_8 : decode cX4_gainOf 8 = .ok (.getfield 74, 3) := by decide +kernel
theorem dX4_gainOf_11 : decode cX4_gainOf 11 = .ok (.getfield 78, 3) := by decide +kernel
theorem dX4_gainOf_14 : decode cX4_gainOf 14 = .ok (.iconst 1, 1) := by decide +kernel
theorem dX4_gainOf_15 : decode cX4_gainOf 15 = .ok (.isub, 1) := by decide +kernel
theorem dX4_gainOf_16 : decode cX4_gainOf 16 = .ok (.istore_n 2, 1) := by decide +kernel
theorem dX4_gainOf_17 : decode cX4_gainOf 17 = .ok (.aload_n 0, 1) := by decide +kernel
theorem dX4_gainOf_18 : decode cX4_gainOf 18 = .ok (.getfield 30, 3) := by decide +kernel
theorem dX4_gainOf_21 : decode cX4_gainOf 21 = .ok (.iconst 0, 1) := by decide +kernel
theorem dX4_gainOf_22 : decode cX4_gainOf 22 = .ok (.iconst 0, 1) := by decide +kernel
theorem dX4_gainOf_23 : decode cX4_gainOf 23 = .ok (.iastore, 1) := by decide +kernel
theorem dX4_gainOf_24 : decode cX4_gainOf 24 = .ok (.iconst 0, 1) := by decide +kernel
theorem dX4_gainOf_25 : decode cX4_gainOf 25 = .ok (.istore_n 3, 1) := by decide +kernel
theorem dX4_gainOf_26 : decode cX4_gainOf 26 = .ok (.iload_n 3, 1) := by decide +kernel
theorem dX4_gainOf_27 : decode cX4_gainOf 27 = .ok (.iload_n 2, 1) := by decide +kernel
theorem dX4_gainOf_28 : decode cX4_gainOf 28 = .ok (.if_icmp .gt 73, 3) := by decide +kernel
theorem dX4_gainOf_31 : decode cX4_gainOf 31 = .ok (.aload_n 0, 1) := by decide +kernel
theorem dX4_gainOf_32 : decode cX4_gainOf 32 = .ok (.getfield 9, 3) := by decide +kernel
theorem dX4_gainOf_35 : decode cX4_gainOf 35 = .ok (.iload_n 3, 1) := by decide +kernel
theorem dX4_gainOf_36 : decode cX4_gainOf 36 = .ok (.iaload, 1) := by decide +kernel
theorem dX4_gainOf_37 : decode cX4_gainOf 37 = .ok (.iload_n 1, 1) := by decide +kernel
theorem dX4_gainOf_38 : decode cX4_gainOf 38 = .ok (.if_icmp .ne 33, 3) := by decide +kernel
theorem dX4_gainOf_41 : decode cX4_gainOf 41 = .ok (.aload_n 0, 1) := by decide +kernel
theorem dX4_gainOf_42 : decode cX4_gainOf 42 = .ok (.iload_n 3, 1) := by decide +kernel
theorem dX4_gainOf_43 : decode cX4_gainOf 43 = .ok (.iload_n 1, 1) := by decide +kernel
theorem dX4_gainOf_44 : decode cX4_gainOf 44 = .ok (.aload_n 0, 1) := by decide +kernel
theorem dX4_gainOf_45 : decode cX4_gainOf 45 = .ok (.getfield 30, 3) := by decide +kernel
theorem dX4_gainOf_48 : decode cX4_gainOf 48 = .ok (.iload_n 3, 1) := by decide +kernel
theorem dX4_gainOf_49 : decode cX4_gainOf 49 = .ok (.iaload, 1) := by decide +kernel
theorem dX4_gainOf_50 : decode cX4_gainOf 50 = .ok (.iload_n 3, 1) := by decide +kernel
theorem dX4_gainOf_51 : decode cX4_gainOf 51 = .ok (.iload_n 2, 1) := by decide +kernel
theorem dX4_gainOf_52 : decode cX4_gainOf 52 = .ok (.if_icmp .ge 14, 3) := by decide +kernel
theorem dX4_gainOf_55 : decode cX4_gainOf 55 = .ok (.aload_n 0, 1) := by decide +kernel
theorem dX4_gainOf_56 : decode cX4_gainOf 56 = .ok (.getfield 9, 3) := by decide +kernel
theorem dX4_gainOf_59 : decode cX4_gainOf 59 = .ok (.iload_n 3, 1) := by decide +kernel
theorem dX4_gainOf_60 : decode cX4_gainOf 60 = .ok (.iconst 1, 1) := by decide +kernel
theorem dX4_gainOf_61 : decode cX4_gainOf 61 = .ok (.iadd, 1) := by decide +kernel
theorem dX4_gainOf_62 : decode cX4_gainOf 62 = .ok (.iaload, 1) := by decide +kernel
theorem dX4_gainOf_63 : decode cX4_gainOf 63 = .ok (.goto 4, 3) := by decide +kernel
theorem dX4_gainOf_66 : decode cX4_gainOf 66 = .ok (.iconst (-1), 1) := by decide +kernel
theorem dX4_gainOf_67 : decode cX4_gainOf 67 = .ok (.invokevirtual 191, 3) := by decide +kernel
theorem dX4_gainOf_70 : decode cX4_gainOf 70 = .ok (.ireturn, 1) := by decide +kernel
theorem dX4_gainOf_71 : decode cX4_gainOf 71 = .ok (.aload_n 0, 1) := by decide +kernel
theorem dX4_gainOf_72 : decode cX4_gainOf 72 = .ok (.getfield 30, 3) := by decide +kernel
theorem dX4_gainOf_75 : decode cX4_gainOf 75 = .ok (.iload_n 3, 1) := by decide +kernel
theorem dX4_gainOf_76 : decode cX4_gainOf 76 = .ok (.iconst 1, 1) := by decide +kernel
theorem dX4_gainOf_77 : decode cX4_gainOf 77 = .ok (.iadd, 1) := by decide +kernel
theorem dX4_gainOf_78 : decode cX4_gainOf 78 = .ok (.aload_n 0, 1) := by decide +kernel
theorem dX4_gainOf_79 : decode cX4_gainOf 79 = .ok (.aload_n 0, 1) := by decide +kernel
theorem dX4_gainOf_80 : decode cX4_gainOf 80 = .ok (.getfield 9, 3) := by decide +kernel
theorem dX4_gainOf_83 : decode cX4_gainOf 83 = .ok (.iload_n 3, 1) := by decide +kernel
theorem dX4_gainOf_84 : decode cX4_gainOf 84 = .ok (.iaload, 1) := by decide +kernel
theorem dX4_gainOf_85 : decode cX4_gainOf 85 = .ok (.aload_n 0, 1) := by decide +kernel
theorem dX4_gainOf_86 : decode cX4_gainOf 86 = .ok (.getfield 30, 3) := by decide +kernel
theorem dX4_gainOf_89 : decode cX4_gainOf 89 = .ok (.iload_n 3, 1) := by decide +kernel
theorem dX4_gainOf_90 : decode cX4_gainOf 90 = .ok (.iaload, 1) := by decide +kernel
theorem dX4_gainOf_91 : decode cX4_gainOf 91 = .ok (.invokevirtual 174, 3) := by decide +kernel
theorem dX4_gainOf_94 : decode cX4_gainOf 94 = .ok (.iastore, 1) := by decide +kernel
theorem dX4_gainOf_95 : decode cX4_gainOf 95 = .ok (.iinc 3 1, 3) := by decide +kernel
theorem dX4_gainOf_98 : decode cX4_gainOf 98 = .ok (.goto (-72), 3) := by decide +kernel
theorem dX4_gainOf_101 : decode cX4_gainOf 101 = .ok (.ldc 195, 2) := by decide +kernel
theorem dX4_gainOf_103 : decode cX4_gainOf 103 = .ok (.ireturn, 1) := by decide +kernel
theorem dX4_gainAt_0 : decode cX4_gainAt 0 = .ok (.iload_n 1, 1) := by decide +kernel
theorem dX4_gainAt_1 : decode cX4_gainAt 1 = .ok (.ifCond .le 15, 3) := by decide +kernel
theorem dX4_gainAt_4 : decode cX4_gainAt 4 = .ok (.aload_n 0, 1) := by decide +kernel
theorem dX4_gainAt_5 : decode cX4_gainAt 5 = .ok (.getfield 27, 3) := by decide +kernel
theorem dX4_gainAt_8 : decode cX4_gainAt 8 = .ok (.iload_n 2, 1) := by decide +kernel
theorem dX4_gainAt_9 : decode cX4_gainAt 9 = .ok (.iaload, 1) := by decide +kernel
theorem dX4_gainAt_10 : decode cX4_gainAt 10 = .ok (.bipush 9, 2) := by decide +kernel
theorem dX4_gainAt_12 : decode cX4_gainAt 12 = .ok (.idiv, 1) := by decide +kernel
theorem dX4_gainAt_13 : decode cX4_gainAt 13 = .ok (.goto 4, 3) := by decide +kernel
theorem dX4_gainAt_16 : decode cX4_gainAt 16 = .ok (.iconst 0, 1) := by decide +kernel
theorem dX4_gainAt_17 : decode cX4_gainAt 17 = .ok (.istore 5, 2) := by decide +kernel
theorem dX4_gainAt_19 : decode cX4_gainAt 19 = .ok (.iload 4, 2) := by decide +kernel
theorem dX4_gainAt_21 : decode cX4_gainAt 21 = .ok (.iconst (-1), 1) := by decide +kernel
theorem dX4_gainAt_22 : decode cX4_gainAt 22 = .ok (.if_icmp .ne 7, 3) := by decide +kernel
theorem dX4_gainAt_25 : decode cX4_gainAt 25 = .ok (.iconst 0, 1) := by decide +kernel
theorem dX4_gainAt_26 : decode cX4_gainAt 26 = .ok (.goto 13, 3) := by decide +kernel
theorem dX4_gainAt_29 : decode cX4_gainAt 29 = .ok (.aload_n 0, 1) := by decide +kernel
theorem dX4_gainAt_30 : decode cX4_gainAt 30 = .ok (.getfield 27, 3) := by decide +kernel
theorem dX4_gainAt_33 : decode cX4_gainAt 33 = .ok (.iload 4, 2) := by decide +kernel
theorem dX4_gainAt_35 : decode cX4_gainAt 35 = .ok (.iaload, 1) := by decide +kernel
theorem dX4_gainAt_36 : decode cX4_gainAt 36 = .ok (.bipush 9, 2) := by decide +kernel
theorem dX4_gainAt_38 : decode cX4_gainAt 38 = .ok (.idiv, 1) := by decide +kernel
theorem dX4_gainAt_39 : decode cX4_gainAt 39 = .ok (.istore 6, 2) := by decide +kernel
theorem dX4_gainAt_41 : decode cX4_gainAt 41 = .ok (.iload 6, 2) := by decide +kernel
theorem dX4_gainAt_43 : decode cX4_gainAt 43 = .ok (.iload 5, 2) := by decide +kernel
theorem dX4_gainAt_45 : decode cX4_gainAt 45 = .ok (.isub, 1) := by decide +kernel
theorem dX4_gainAt_46 : decode cX4_gainAt 46 = .ok (.aload_n 0, 1) := by decide +kernel
theorem dX4_gainAt_47 : decode cX4_gainAt 47 = .ok (.getfield 41, 3) := by decide +kernel
theorem dX4_gainAt_50 : decode cX4_gainAt 50 = .ok (.getfield 163, 3) := by decide +kernel
theorem dX4_gainAt_53 : decode cX4_gainAt 53 = .ok (.iconst 2, 1) := by decide +kernel
theorem dX4_gainAt_54 : decode cX4_gainAt 54 = .ok (.iaload, 1) := by decide +kernel
theorem dX4_gainAt_55 : decode cX4_gainAt 55 = .ok (.aload_n 0, 1) := by decide +kernel
theorem dX4_gainAt_56 : decode cX4_gainAt 56 = .ok (.iload_n 2, 1) := by decide +kernel
theorem dX4_gainAt_57 : decode cX4_gainAt 57 = .ok (.iload_n 3, 1) := by decide +kernel
theorem dX4_gainAt_58 : decode cX4_gainAt 58 = .ok (.invokevirtual 170, 3) := by decide +kernel
theorem dX4_gainAt_61 : decode cX4_gainAt 61 = .ok (.imul, 1) := by decide +kernel
theorem dX4_gainAt_62 : decode cX4_gainAt 62 = .ok (.isub, 1) := by decide +kernel
theorem dX4_gainAt_63 : decode cX4_gainAt 63 = .ok (.ireturn, 1) := by decide +kernel
theorem dX4_wouldChange_0 : decode cX4_wouldChange 0 = .ok (.aload_n 0, 1) := by decide +kernel
theorem dX4_wouldChange_1 : decode cX4_wouldChange 1 = .ok (.getfield 9, 3) := by decide +kernel
theorem dX4_wouldChange_4 : decode cX4_wouldChange 4 = .ok (.iload_n 1, 1) := by decide +kernel
theorem dX4_wouldChange_5 : decode cX4_wouldChange 5 = .ok (.iaload, 1) := by decide +kernel
theorem dX4_wouldChange_6 : decode cX4_wouldChange 6 = .ok (.istore_n 3, 1) := by decide +kernel
theorem dX4_wouldChange_7 : decode cX4_wouldChange 7 = .ok (.aload_n 0, 1) := by decide +kernel
theorem dX4_wouldChange_8 : decode cX4_wouldChange 8 = .ok (.getfield 9, 3) := by decide +kernel
theorem dX4_wouldChange_11 : decode cX4_wouldChange 11 = .ok (.iload_n 1, 1) := by decide +kernel
theorem dX4_wouldChange_12 : decode cX4_wouldChange 12 = .ok (.iconst 1, 1) := by decide +kernel
theorem dX4_wouldChange_13 : decode cX4_wouldChange 13 = .ok (.iadd, 1) := by decide +kernel
theorem dX4_wouldChange_14 : decode cX4_wouldChange 14 = .ok (.iaload, 1) := by decide +kernel
theorem dX4_wouldChange_15 : decode cX4_wouldChange 15 = .ok (.istore 4, 2) := by decide +kernel
theorem dX4_wouldChange_17 : decode cX4_wouldChange 17 = .ok (.aload_n 0, 1) := by decide +kernel
theorem dX4_wouldChange_18 : decode cX4_wouldChange 18 = .ok (.getfield 30, 3) := by decide +kernel
theorem dX4_wouldChange_21 : decode cX4_wouldChange 21 = .ok (.iload_n 1, 1) := by decide +kernel
theorem dX4_wouldChange_22 : decode cX4_wouldChange 22 = .ok (.iaload, 1) := by decide +kernel
theorem dX4_wouldChange_23 : decode cX4_wouldChange 23 = .ok (.istore 5, 2) := by decide +kernel
theorem dX4_wouldChange_25 : decode cX4_wouldChange 25 = .ok (.aload_n 0, 1) := by decide +kernel
theorem dX4_wouldChange_26 : decode cX4_wouldChange 26 = .ok (.iload_n 1, 1) := by decide +kernel
theorem dX4_wouldChange_27 : decode cX4_wouldChange 27 = .ok (.iload 4, 2) := by decide +kernel
theorem dX4_wouldChange_29 : decode cX4_wouldChange 29 = .ok (.iload 5, 2) := by decide +kernel
theorem dX4_wouldChange_31 : decode cX4_wouldChange 31 = .ok (.iload_n 3, 1) := by decide +kernel
theorem dX4_wouldChange_32 : decode cX4_wouldChange 32 = .ok (.invokevirtual 191, 3) := by decide +kernel
theorem dX4_wouldChange_35 : decode cX4_wouldChange 35 = .ok (.aload_n 0, 1) := by decide +kernel
theorem dX4_wouldChange_36 : decode cX4_wouldChange 36 = .ok (.iload_n 1, 1) := by decide +kernel
theorem dX4_wouldChange_37 : decode cX4_wouldChange 37 = .ok (.iconst 1, 1) := by decide +kernel
theorem dX4_wouldChange_38 : decode cX4_wouldChange 38 = .ok (.iadd, 1) := by decide +kernel
theorem dX4_wouldChange_39 : decode cX4_wouldChange 39 = .ok (.iload 4, 2) := by decide +kernel
theorem dX4_wouldChange_41 : decode cX4_wouldChange 41 = .ok (.aload_n 0, 1) := by decide +kernel
theorem dX4_wouldChange_42 : decode cX4_wouldChange 42 = .ok (.iload_n 3, 1) := by decide +kernel
theorem dX4_wouldChange_43 : decode cX4_wouldChange 43 = .ok (.iload 5, 2) := by decide +kernel
theorem dX4_wouldChange_45 : decode cX4_wouldChange 45 = .ok (.invokevirtual 174, 3) := by decide +kernel
theorem dX4_wouldChange_48 : decode cX4_wouldChange 48 = .ok (.iload_n 2, 1) := by decide +kernel
theorem dX4_wouldChange_49 : decode cX4_wouldChange 49 = .ok (.invokevirtual 191, 3) := by decide +kernel
theorem dX4_wouldChange_52 : decode cX4_wouldChange 52 = .ok (.if_icmp .le 37, 3) := by decide +kernel
theorem dX4_wouldChange_55 : decode cX4_wouldChange 55 = .ok (.aload_n 0, 1) := by decide +kernel
theorem dX4_wouldChange_56 : decode cX4_wouldChange 56 = .ok (.iload_n 1, 1) := by decide +kernel
theorem dX4_wouldChange_57 : decode cX4_wouldChange 57 = .ok (.iconst 1, 1) := by decide +kernel
theorem dX4_wouldChange_58 : decode cX4_wouldChange 58 = .ok (.iadd, 1) := by decide +kernel
theorem dX4_wouldChange_59 : decode cX4_wouldChange 59 = .ok (.iload_n 3, 1) := by decide +kernel
theorem dX4_wouldChange_60 : decode cX4_wouldChange 60 = .ok (.aload_n 0, 1) := by decide +kernel
theorem dX4_wouldChange_61 : decode cX4_wouldChange 61 = .ok (.iload 4, 2) := by decide +kernel
theorem dX4_wouldChange_63 : decode cX4_wouldChange 63 = .ok (.iload 5, 2) := by decide +kernel
theorem dX4_wouldChange_65 : decode cX4_wouldChange 65 = .ok (.invokevirtual 174, 3) := by decide +kernel
theorem dX4_wouldChange_68 : decode cX4_wouldChange 68 = .ok (.iload_n 2, 1) := by decide +kernel
theorem dX4_wouldChange_69 : decode cX4_wouldChange 69 = .ok (.invokevirtual 191, 3) := by decide +kernel
theorem dX4_wouldChange_72 : decode cX4_wouldChange 72 = .ok (.aload_n 0, 1) := by decide +kernel
theorem dX4_wouldChange_73 : decode cX4_wouldChange 73 = .ok (.iload_n 1, 1) := by decide +kernel
theorem dX4_wouldChange_74 : decode cX4_wouldChange 74 = .ok (.iload_n 3, 1) := by decide +kernel
theorem dX4_wouldChange_75 : decode cX4_wouldChange 75 = .ok (.iload 5, 2) := by decide +kernel
theorem dX4_wouldChange_77 : decode cX4_wouldChange 77 = .ok (.iload 4, 2) := by decide +kernel
theorem dX4_wouldChange_79 : decode cX4_wouldChange 79 = .ok (.invokevirtual 191, 3) := by decide +kernel
theorem dX4_wouldChange_82 : decode cX4_wouldChange 82 = .ok (.if_icmp .le 7, 3) := by decide +kernel
theorem dX4_wouldChange_85 : decode cX4_wouldChange 85 = .ok (.iconst 1, 1) := by decide +kernel
theorem dX4_wouldChange_86 : decode cX4_wouldChange 86 = .ok (.goto 4, 3) := by decide +kernel
theorem dX4_wouldChange_89 : decode cX4_wouldChange 89 = .ok (.iconst 0, 1) := by decide +kernel
theorem dX4_wouldChange_90 : decode cX4_wouldChange 90 = .ok (.ireturn, 1) := by decide +kernel
theorem dX4_findSettled_0 : decode cX4_findSettled 0 = .ok (.aload_n 0, 1) := by decide +kernel
theorem dX4_findSettled_1 : decode cX4_findSettled 1 = .ok (.iconst 0, 1) := by decide +kernel
theorem dX4_findSettled_2 : decode cX4_findSettled 2 = .ok (.putfield 196, 3) := by decide +kernel
theorem dX4_findSettled_5 : decode cX4_findSettled 5 = .ok (.aload_n 0, 1) := by decide +kernel
theorem dX4_findSettled_6 : decode cX4_findSettled 6 = .ok (.invokevirtual 199, 3) := by decide +kernel
theorem dX4_findSettled_9 : decode cX4_findSettled 9 = .ok (.aload_n 0, 1) := by decide +kernel
theorem dX4_findSettled_10 : decode cX4_findSettled 10 = .ok (.iconst 0, 1) := by decide +kernel
theorem dX4_findSettled_11 : decode cX4_findSettled 11 = .ok (.invokevirtual 202, 3) := by decide +kernel
theorem dX4_findSettled_14 : decode cX4_findSettled 14 = .ok (.return_, 1) := by decide +kernel
theorem dX4_searchSettled_0 : decode cX4_searchSettled 0 = .ok (.aload_n 0, 1) := by decide +kernel
theorem dX4_searchSettled_1 : decode cX4_searchSettled 1 = .ok (.getfield 41, 3) := by decide +kernel
theorem dX4_searchSettled_4 : decode cX4_searchSettled 4 = .ok (.getfield 74, 3) := by decide +kernel
theorem dX4_searchSettled_7 : decode cX4_searchSettled 7 = .ok (.getfield 78, 3) := by decide +kernel
theorem dX4_searchSettled_10 : decode cX4_searchSettled 10 = .ok (.istore_n 2, 1) := by decide +kernel
theorem dX4_searchSettled_11 : decode cX4_searchSettled 11 = .ok (.iload_n 1, 1) := by decide +kernel
theorem dX4_searchSettled_12 : decode cX4_searchSettled 12 = .ok (.iload_n 2, 1) := by decide +kernel
theorem dX4_searchSettled_13 : decode cX4_searchSettled 13 = .ok (.if_icmp .lt 9, 3) := by decide +kernel
theorem dX4_searchSettled_16 : decode cX4_searchSettled 16 = .ok (.aload_n 0, 1) := by decide +kernel
theorem dX4_searchSettled_17 : decode cX4_searchSettled 17 = .ok (.iload_n 2, 1) := by decide +kernel
theorem dX4_searchSettled_18 : decode cX4_searchSettled 18 = .ok (.invokevirtual 205, 3) := by decide +kernel
theorem dX4_searchSettled_21 : decode cX4_searchSettled 21 = .ok (.return_, 1) := by decide +kernel
theorem dX4_searchSettled_22 : decode cX4_searchSettled 22 = .ok (.iconst 0, 1) := by decide +kernel
theorem dX4_searchSettled_23 : decode cX4_searchSettled 23 = .ok (.istore_n 3, 1) := by decide +kernel
theorem dX4_searchSettled_24 : decode cX4_searchSettled 24 = .ok (.iload_n 3, 1) := by decide +kernel
theorem dX4_searchSettled_25 : decode cX4_searchSettled 25 = .ok (.iload_n 2, 1) := by decide +kernel
theorem dX4_searchSettled_26 : decode cX4_searchSettled 26 = .ok (.if_icmp .ge 54, 3) := by decide +kernel
theorem dX4_searchSettled_29 : decode cX4_searchSettled 29 = .ok (.aload_n 0, 1) := by decide +kernel
theorem dX4_searchSettled_30 : decode cX4_searchSettled 30 = .ok (.getfield 33, 3) := by decide +kernel
theorem dX4_searchSettled_33 : decode cX4_searchSettled 33 = .ok (.iload_n 3, 1) := by decide +kernel
theorem dX4_searchSettled_34 : decode cX4_searchSettled 34 = .ok (.baload, 1) := by decide +kernel
theorem dX4_searchSettled_35 : decode cX4_searchSettled 35 = .ok (.ifCond .ne 39, 3) := by decide +kernel
theorem dX4_searchSettled_38 : decode cX4_searchSettled 38 = .ok (.iload_n 1, 1) := by decide +kernel
theorem dX4_searchSettled_39 : decode cX4_searchSettled 39 = .ok (.iconst 2, 1) := by decide +kernel
theorem dX4_searchSettled_40 : decode cX4_searchSettled 40 = .ok (.if_icmp .lt 14, 3) := by decide +kernel
theorem dX4_searchSettled_43 : decode cX4_searchSettled 43 = .ok (.aload_n 0, 1) := by decide +kernel
theorem dX4_searchSettled_44 : decode cX4_searchSettled 44 = .ok (.iload_n 1, 1) := by decide +kernel
theorem dX4_searchSettled_45 : decode cX4_searchSettled 45 = .ok (.iconst 2, 1) := by decide +kernel
theorem dX4_searchSettled_46 : decode cX4_searchSettled 46 = .ok (.isub, 1) := by decide +kernel
theorem dX4_searchSettled_47 : decode cX4_searchSettled 47 = .ok (.iload_n 3, 1) := by decide +kernel
theorem dX4_searchSettled_48 : decode cX4_searchSettled 48 = .ok (.invokevirtual 208, 3) := by decide +kernel
theorem dX4_searchSettled_51 : decode cX4_searchSettled 51 = .ok (.ifCond .ne 23, 3) := by decide +kernel
theorem dX4_searchSettled_54 : decode cX4_searchSettled 54 = .ok (.aload_n 0, 1) := by decide +kernel
theorem dX4_searchSettled_55 : decode cX4_searchSettled 55 = .ok (.iload_n 1, 1) := by decide +kernel
theorem dX4_searchSettled_56 : decode cX4_searchSettled 56 = .ok (.iload_n 3, 1) := by decide +kernel
theorem dX4_searchSettled_57 : decode cX4_searchSettled 57 = .ok (.invokevirtual 212, 3) := by decide +kernel
theorem dX4_searchSettled_60 : decode cX4_searchSettled 60 = .ok (.aload_n 0, 1) := by decide +kernel
theorem dX4_searchSettled_61 : decode cX4_searchSettled 61 = .ok (.iload_n 1, 1) := by decide +kernel
theorem dX4_searchSettled_62 : decode cX4_searchSettled 62 = .ok (.iconst 1, 1) := by decide +kernel
theorem dX4_searchSettled_63 : decode cX4_searchSettled 63 = .ok (.iadd, 1) := by decide +kernel
theorem dX4_searchSettled_64 : decode cX4_searchSettled 64 = .ok (.invokevirtual 202, 3) := by decide +kernel
theorem dX4_searchSettled_67 : decode cX4_searchSettled 67 = .ok (.aload_n 0, 1) := by decide +kernel
theorem dX4_searchSettled_68 : decode cX4_searchSettled 68 = .ok (.getfield 33, 3) := by decide +kernel
theorem dX4_searchSettled_71 : decode cX4_searchSettled 71 = .ok (.iload_n 3, 1) := by decide +kernel
theorem dX4_searchSettled_72 : decode cX4_searchSettled 72 = .ok (.iconst 0, 1) := by decide +kernel
theorem dX4_searchSettled_73 : decode cX4_searchSettled 73 = .ok (.bastore, 1) := by decide +kernel
theorem dX4_searchSettled_74 : decode cX4_searchSettled 74 = .ok (.iinc 3 1, 3) := by decide +kernel
theorem dX4_searchSettled_77 : decode cX4_searchSettled 77 = .ok (.goto (-53), 3) := by decide +kernel
theorem dX4_searchSettled_80 : decode cX4_searchSettled 80 = .ok (.return_, 1) := by decide +kernel
theorem dX4_noteIfSettled_0 : decode cX4_noteIfSettled 0 = .ok (.iload_n 1, 1) := by decide +kernel
theorem dX4_noteIfSettled_1 : decode cX4_noteIfSettled 1 = .ok (.iconst 2, 1) := by decide +kernel
theorem dX4_noteIfSettled_2 : decode cX4_noteIfSettled 2 = .ok (.if_icmp .lt 15, 3) := by decide +kernel
theorem dX4_noteIfSettled_5 : decode cX4_noteIfSettled 5 = .ok (.aload_n 0, 1) := by decide +kernel
theorem dX4_noteIfSettled_6 : decode cX4_noteIfSettled 6 = .ok (.iload_n 1, 1) := by decide +kernel
theorem dX4_noteIfSettled_7 : decode cX4_noteIfSettled 7 = .ok (.iconst 2, 1) := by decide +kernel
theorem dX4_noteIfSettled_8 : decode cX4_noteIfSettled 8 = .ok (.isub, 1) := by decide +kernel
theorem dX4_noteIfSettled_9 : decode cX4_noteIfSettled 9 = .ok (.iconst (-1), 1) := by decide +kernel
theorem dX4_noteIfSettled_10 : decode cX4_noteIfSettled 10 = .ok (.invokevirtual 208, 3) := by decide +kernel
theorem dX4_noteIfSettled_13 : decode cX4_noteIfSettled 13 = .ok (.ifCond .eq 4, 3) := by decide +kernel
theorem dX4_noteIfSettled_16 : decode cX4_noteIfSettled 16 = .ok (.return_, 1) := by decide +kernel
theorem dX4_noteIfSettled_17 : decode cX4_noteIfSettled 17 = .ok (.aload_n 0, 1) := by decide +kernel
theorem dX4_noteIfSettled_18 : decode cX4_noteIfSettled 18 = .ok (.getfield 196, 3) := by decide +kernel
theorem dX4_noteIfSettled_21 : decode cX4_noteIfSettled 21 = .ok (.ifCond .ne 18, 3) := by decide +kernel
theorem dX4_noteIfSettled_24 : decode cX4_noteIfSettled 24 = .ok (.aload_n 0, 1) := by decide +kernel
theorem dX4_noteIfSettled_25 : decode cX4_noteIfSettled 25 = .ok (.getfield 9, 3) := by decide +kernel
theorem dX4_noteIfSettled_28 : decode cX4_noteIfSettled 28 = .ok (.iconst 0, 1) := by decide +kernel
theorem dX4_noteIfSettled_29 : decode cX4_noteIfSettled 29 = .ok (.aload_n 0, 1) := by decide +kernel
theorem dX4_noteIfSettled_30 : decode cX4_noteIfSettled 30 = .ok (.getfield 15, 3) := by decide +kernel
theorem dX4_noteIfSettled_33 : decode cX4_noteIfSettled 33 = .ok (.iconst 0, 1) := by decide +kernel
theorem dX4_noteIfSettled_34 : decode cX4_noteIfSettled 34 = .ok (.bipush 9, 2) := by decide +kernel
theorem dX4_noteIfSettled_36 : decode cX4_noteIfSettled 36 = .ok (.invokestatic 151, 3) := by decide +kernel
theorem dX4_noteIfSettled_39 : decode cX4_noteIfSettled 39 = .ok (.aload_n 0, 1) := by decide +kernel
theorem dX4_noteIfSettled_40 : decode cX4_noteIfSettled 40 = .ok (.dup, 1) := by decide +kernel
theorem dX4_noteIfSettled_41 : decode cX4_noteIfSettled 41 = .ok (.getfield 196, 3) := by decide +kernel
theorem dX4_noteIfSettled_44 : decode cX4_noteIfSettled 44 = .ok (.iconst 1, 1) := by decide +kernel
theorem dX4_noteIfSettled_45 : decode cX4_noteIfSettled 45 = .ok (.iadd, 1) := by decide +kernel
theorem dX4_noteIfSettled_46 : decode cX4_noteIfSettled 46 = .ok (.putfield 196, 3) := by decide +kernel
theorem dX4_noteIfSettled_49 : decode cX4_noteIfSettled 49 = .ok (.return_, 1) := by decide +kernel
theorem dX4_findLeastWood_0 : decode cX4_findLeastWood 0 = .ok (.aload_n 0, 1) := by decide +kernel
theorem dX4_findLeastWood_1 : decode cX4_findLeastWood 1 = .ok (.ldc 218, 2) := by decide +kernel
theorem dX4_findLeastWood_3 : decode cX4_findLeastWood 3 = .ok (.putfield 219, 3) := by decide +kernel
theorem dX4_findLeastWood_6 : decode cX4_findLeastWood 6 = .ok (.aload_n 0, 1) := by decide +kernel
theorem dX4_findLeastWood_7 : decode cX4_findLeastWood 7 = .ok (.invokevirtual 199, 3) := by decide +kernel
theorem dX4_findLeastWood_10 : decode cX4_findLeastWood 10 = .ok (.aload_n 0, 1) := by decide +kernel
theorem dX4_findLeastWood_11 : decode cX4_findLeastWood 11 = .ok (.iconst 0, 1) := by decide +kernel
theorem dX4_findLeastWood_12 : decode cX4_findLeastWood 12 = .ok (.iconst 0, 1) := by decide +kernel
theorem dX4_findLeastWood_13 : decode cX4_findLeastWood 13 = .ok (.invokevirtual 222, 3) := by decide +kernel
theorem dX4_findLeastWood_16 : decode cX4_findLeastWood 16 = .ok (.return_, 1) := by decide +kernel
theorem dX4_searchLeastWood_0 : decode cX4_searchLeastWood 0 = .ok (.iload_n 2, 1) := by decide +kernel
theorem dX4_searchLeastWood_1 : decode cX4_searchLeastWood 1 = .ok (.aload_n 0, 1) := by decide +kernel
theorem dX4_searchLeastWood_2 : decode cX4_searchLeastWood 2 = .ok (.getfield 219, 3) := by decide +kernel
theorem dX4_searchLeastWood_5 : decode cX4_searchLeastWood 5 = .ok (.if_icmp .lt 4, 3) := by decide +kernel
theorem dX4_searchLeastWood_8 : decode cX4_searchLeastWood 8 = .ok (.return_, 1) := by decide +kernel
theorem dX4_searchLeastWood_9 : decode cX4_searchLeastWood 9 = .ok (.aload_n 0, 1) := by decide +kernel
theorem dX4_searchLeastWood_10 : decode cX4_searchLeastWood 10 = .ok (.getfield 41, 3) := by decide +kernel
theorem dX4_searchLeastWood_13 : decode cX4_searchLeastWood 13 = .ok (.getfield 74, 3) := by decide +kernel
theorem dX4_searchLeastWood_16 : decode cX4_searchLeastWood 16 = .ok (.getfield 78, 3) := by decide +kernel
theorem dX4_searchLeastWood_19 : decode cX4_searchLeastWood 19 = .ok (.istore_n 3, 1) := by decide +kernel
theorem dX4_searchLeastWood_20 : decode cX4_searchLeastWood 20 = .ok (.iload_n 1, 1) := by decide +kernel
theorem dX4_searchLeastWood_21 : decode cX4_searchLeastWood 21 = .ok (.iload_n 3, 1) := by decide +kernel
theorem dX4_searchLeastWood_22 : decode cX4_searchLeastWood 22 = .ok (.if_icmp .lt 24, 3) := by decide +kernel
theorem dX4_searchLeastWood_25 : decode cX4_searchLeastWood 25 = .ok (.aload_n 0, 1) := by decide +kernel
theorem dX4_searchLeastWood_26 : decode cX4_searchLeastWood 26 = .ok (.iload_n 2, 1) := by decide +kernel
theorem dX4_searchLeastWood_27 : decode cX4_searchLeastWood 27 = .ok (.putfield 219, 3) := by decide +kernel
theorem dX4_searchLeastWood_30 : decode cX4_searchLeastWood 30 = .ok (.aload_n 0, 1) := by decide +kernel
theorem dX4_searchLeastWood_31 : decode cX4_searchLeastWood 31 = .ok (.getfield 9, 3) := by decide +kernel
theorem dX4_searchLeastWood_34 : decode cX4_searchLeastWood 34 = .ok (.iconst 0, 1) := by decide +kernel
theorem dX4_searchLeastWood_35 : decode cX4_searchLeastWood 35 = .ok (.aload_n 0, 1) := by decide +kernel
theorem dX4_searchLeastWood_36 : decode cX4_searchLeastWood 36 = .ok (.getfield 15, 3) := by decide +kernel
theorem dX4_searchLeastWood_39 : decode cX4_searchLeastWood 39 = .ok (.iconst 0, 1) := by decide +kernel
theorem dX4_searchLeastWood_40 : decode cX4_searchLeastWood 40 = .ok (.bipush 9, 2) := by decide +kernel
theorem dX4_searchLeastWood_42 : decode cX4_searchLeastWood 42 = .ok (.invokestatic 151, 3) := by decide +kernel
theorem dX4_searchLeastWood_45 : decode cX4_searchLeastWood 45 = .ok (.return_, 1) := by decide +kernel
theorem dX4_searchLeastWood_46 : decode cX4_searchLeastWood 46 = .ok (.iconst 0, 1) := by decide +kernel
theorem dX4_searchLeastWood_47 : decode cX4_searchLeastWood 47 = .ok (.istore 4, 2) := by decide +kernel
theorem dX4_searchLeastWood_49 : decode cX4_searchLeastWood 49 = .ok (.iload 4, 2) := by decide +kernel
theorem dX4_searchLeastWood_51 : decode cX4_searchLeastWood 51 = .ok (.iload_n 3, 1) := by decide +kernel
theorem dX4_searchLeastWood_52 : decode cX4_searchLeastWood 52 = .ok (.if_icmp .ge 55, 3) := by decide +kernel
theorem dX4_searchLeastWood_55 : decode cX4_searchLeastWood 55 = .ok (.aload_n 0, 1) := by decide +kernel
theorem dX4_searchLeastWood_56 : decode cX4_searchLeastWood 56 = .ok (.getfield 33, 3) := by decide +kernel
theorem dX4_searchLeastWood_59 : decode cX4_searchLeastWood 59 = .ok (.iload 4, 2) := by decide +kernel
theorem dX4_searchLeastWood_61 : decode cX4_searchLeastWood 61 = .ok (.baload, 1) := by decide +kernel
theorem dX4_searchLeastWood_62 : decode cX4_searchLeastWood 62 = .ok (.ifCond .ne 39, 3) := by decide +kernel
theorem dX4_searchLeastWood_65 : decode cX4_searchLeastWood 65 = .ok (.aload_n 0, 1) := by decide +kernel
theorem dX4_searchLeastWood_66 : decode cX4_searchLeastWood 66 = .ok (.iload_n 1, 1) := by decide +kernel
theorem dX4_searchLeastWood_67 : decode cX4_searchLeastWood 67 = .ok (.iload 4, 2) := by decide +kernel
theorem dX4_searchLeastWood_69 : decode cX4_searchLeastWood 69 = .ok (.invokevirtual 212, 3) := by decide +kernel
theorem dX4_searchLeastWood_72 : decode cX4_searchLeastWood 72 = .ok (.aload_n 0, 1) := by decide +kernel
theorem dX4_searchLeastWood_73 : decode cX4_searchLeastWood 73 = .ok (.iload_n 1, 1) := by decide +kernel
theorem dX4_searchLeastWood_74 : decode cX4_searchLeastWood 74 = .ok (.iconst 1, 1) := by decide +kernel
theorem dX4_searchLeastWood_75 : decode cX4_searchLeastWood 75 = .ok (.iadd, 1) := by decide +kernel
theorem dX4_searchLeastWood_76 : decode cX4_searchLeastWood 76 = .ok (.iload_n 2, 1) := by decide +kernel
theorem dX4_searchLeastWood_77 : decode cX4_searchLeastWood 77 = .ok (.aload_n 0, 1) := by decide +kernel
theorem dX4_searchLeastWood_78 : decode cX4_searchLeastWood 78 = .ok (.iload 4, 2) := by decide +kernel
theorem dX4_searchLeastWood_80 : decode cX4_searchLeastWood 80 = .ok (.aload_n 0, 1) := by decide +kernel
theorem dX4_searchLeastWood_81 : decode cX4_searchLeastWood 81 = .ok (.getfield 30, 3) := by decide +kernel
theorem dX4_searchLeastWood_84 : decode cX4_searchLeastWood 84 = .ok (.iload_n 1, 1) := by decide +kernel
theorem dX4_searchLeastWood_85 : decode cX4_searchLeastWood 85 = .ok (.iaload, 1) := by decide +kernel
theorem dX4_searchLeastWood_86 : decode cX4_searchLeastWood 86 = .ok (.invokevirtual 170, 3) := by decide +kernel
theorem dX4_searchLeastWood_89 : decode cX4_searchLeastWood 89 = .ok (.iadd, 1) := by decide +kernel
theorem dX4_searchLeastWood_90 : decode cX4_searchLeastWood 90 = .ok (.invokevirtual 222, 3) := by decide +kernel
theorem dX4_searchLeastWood_93 : decode cX4_searchLeastWood 93 = .ok (.aload_n 0, 1) := by decide +kernel
theorem dX4_searchLeastWood_94 : decode cX4_searchLeastWood 94 = .ok (.getfield 33, 3) := by decide +kernel
theorem dX4_searchLeastWood_97 : decode cX4_searchLeastWood 97 = .ok (.iload 4, 2) := by decide +kernel
theorem dX4_searchLeastWood_99 : decode cX4_searchLeastWood 99 = .ok (.iconst 0, 1) := by decide +kernel
theorem dX4_searchLeastWood_100 : decode cX4_searchLeastWood 100 = .ok (.bastore, 1) := by decide +kernel
theorem dX4_searchLeastWood_101 : decode cX4_searchLeastWood 101 = .ok (.iinc 4 1, 3) := by decide +kernel
theorem dX4_searchLeastWood_104 : decode cX4_searchLeastWood 104 = .ok (.goto (-55), 3) := by decide +kernel
theorem dX4_searchLeastWood_107 : decode cX4_searchLeastWood 107 = .ok (.return_, 1) := by decide +kernel
theorem dX4_beginSearch_0 : decode cX4_beginSearch 0 = .ok (.aload_n 0, 1) := by decide +kernel
theorem dX4_beginSearch_1 : decode cX4_beginSearch 1 = .ok (.invokevirtual 138, 3) := by decide +kernel
theorem dX4_beginSearch_4 : decode cX4_beginSearch 4 = .ok (.aload_n 0, 1) := by decide +kernel
theorem dX4_beginSearch_5 : decode cX4_beginSearch 5 = .ok (.invokevirtual 83, 3) := by decide +kernel
theorem dX4_beginSearch_8 : decode cX4_beginSearch 8 = .ok (.aload_n 0, 1) := by decide +kernel
theorem dX4_beginSearch_9 : decode cX4_beginSearch 9 = .ok (.getfield 30, 3) := by decide +kernel
theorem dX4_beginSearch_12 : decode cX4_beginSearch 12 = .ok (.iconst 0, 1) := by decide +kernel
theorem dX4_beginSearch_13 : decode cX4_beginSearch 13 = .ok (.iconst 0, 1) := by decide +kernel
theorem dX4_beginSearch_14 : decode cX4_beginSearch 14 = .ok (.iastore, 1) := by decide +kernel
theorem dX4_beginSearch_15 : decode cX4_beginSearch 15 = .ok (.return_, 1) := by decide +kernel
theorem dX4_clearPlaced_0 : decode cX4_clearPlaced 0 = .ok (.iconst 0, 1) := by decide +kernel
theorem dX4_clearPlaced_1 : decode cX4_clearPlaced 1 = .ok (.istore_n 1, 1) := by decide +kernel
theorem dX4_clearPlaced_2 : decode cX4_clearPlaced 2 = .ok (.iload_n 1, 1) := by decide +kernel
theorem dX4_clearPlaced_3 : decode cX4_clearPlaced 3 = .ok (.bipush 9, 2) := by decide +kernel
theorem dX4_clearPlaced_5 : decode cX4_clearPlaced 5 = .ok (.if_icmp .ge 16, 3) := by decide +kernel
theorem dX4_clearPlaced_8 : decode cX4_clearPlaced 8 = .ok (.aload_n 0, 1) := by decide +kernel
theorem dX4_clearPlaced_9 : decode cX4_clearPlaced 9 = .ok (.getfield 33, 3) := by decide +kernel
theorem dX4_clearPlaced_12 : decode cX4_clearPlaced 12 = .ok (.iload_n 1, 1) := by decide +kernel
theorem dX4_clearPlaced_13 : decode cX4_clearPlaced 13 = .ok (.iconst 0, 1) := by decide +kernel
theorem dX4_clearPlaced_14 : decode cX4_clearPlaced 14 = .ok (.bastore, 1) := by decide +kernel
theorem dX4_clearPlaced_15 : decode cX4_clearPlaced 15 = .ok (.iinc 1 1, 3) := by decide +kernel
theorem dX4_clearPlaced_18 : decode cX4_clearPlaced 18 = .ok (.goto (-16), 3) := by decide +kernel
theorem dX4_clearPlaced_21 : decode cX4_clearPlaced 21 = .ok (.return_, 1) := by decide +kernel
theorem dX4_step_0 : decode cX4_step 0 = .ok (.aload_n 0, 1) := by decide +kernel
theorem dX4_step_1 : decode cX4_step 1 = .ok (.getfield 33, 3) := by decide +kernel
theorem dX4_step_4 : decode cX4_step 4 = .ok (.iload_n 2, 1) := by decide +kernel
theorem dX4_step_5 : decode cX4_step 5 = .ok (.iconst 1, 1) := by decide +kernel
theorem dX4_step_6 : decode cX4_step 6 = .ok (.bastore, 1) := by decide +kernel
theorem dX4_step_7 : decode cX4_step 7 = .ok (.aload_n 0, 1) := by decide +kernel
theorem dX4_step_8 : decode cX4_step 8 = .ok (.getfield 9, 3) := by decide +kernel
theorem dX4_step_11 : decode cX4_step 11 = .ok (.iload_n 1, 1) := by decide +kernel
theorem dX4_step_12 : decode cX4_step 12 = .ok (.iload_n 2, 1) := by decide +kernel
theorem dX4_step_13 : decode cX4_step 13 = .ok (.iastore, 1) := by decide +kernel
theorem dX4_step_14 : decode cX4_step 14 = .ok (.aload_n 0, 1) := by decide +kernel
theorem dX4_step_15 : decode cX4_step 15 = .ok (.getfield 30, 3) := by decide +kernel
theorem dX4_step_18 : decode cX4_step 18 = .ok (.iload_n 1, 1) := by decide +kernel
theorem dX4_step_19 : decode cX4_step 19 = .ok (.iconst 1, 1) := by decide +kernel
theorem dX4_step_20 : decode cX4_step 20 = .ok (.iadd, 1) := by decide +kernel
theorem dX4_step_21 : decode cX4_step 21 = .ok (.aload_n 0, 1) := by decide +kernel
theorem dX4_step_22 : decode cX4_step 22 = .ok (.iload_n 2, 1) := by decide +kernel
theorem dX4_step_23 : decode cX4_step 23 = .ok (.aload_n 0, 1) := by decide +kernel
theorem dX4_step_24 : decode cX4_step 24 = .ok (.getfield 30, 3) := by decide +kernel
theorem dX4_step_27 : decode cX4_step 27 = .ok (.iload_n 1, 1) := by decide +kernel
theorem dX4_step_28 : decode cX4_step 28 = .ok (.iaload, 1) := by decide +kernel
theorem dX4_step_29 : decode cX4_step 29 = .ok (.invokevirtual 174, 3) := by decide +kernel
theorem dX4_step_32 : decode cX4_step 32 = .ok (.iastore, 1) := by decide +kernel
theorem dX4_step_33 : decode cX4_step 33 = .ok (.return_, 1) := by decide +kernel
theorem dX4_goRound_0 : decode cX4_goRound 0 = .ok (.aload_n 0, 1) := by decide +kernel
theorem dX4_goRound_1 : decode cX4_goRound 1 = .ok (.iconst (-1), 1) := by decide +kernel
theorem dX4_goRound_2 : decode cX4_goRound 2 = .ok (.putfield 225, 3) := by decide +kernel
theorem dX4_goRound_5 : decode cX4_goRound 5 = .ok (.aload_n 0, 1) := by decide +kernel
theorem dX4_goRound_6 : decode cX4_goRound 6 = .ok (.iconst 0, 1) := by decide +kernel
theorem dX4_goRound_7 : decode cX4_goRound 7 = .ok (.putfield 228, 3) := by decide +kernel
theorem dX4_goRound_10 : decode cX4_goRound 10 = .ok (.aload_n 0, 1) := by decide +kernel
theorem dX4_goRound_11 : decode cX4_goRound 11 = .ok (.invokevirtual 45, 3) := by decide +kernel
theorem dX4_goRound_14 : decode cX4_goRound 14 = .ok (.aload_n 0, 1) := by decide +kernel
theorem dX4_goRound_15 : decode cX4_goRound 15 = .ok (.invokevirtual 138, 3) := by decide +kernel
theorem dX4_goRound_18 : decode cX4_goRound 18 = .ok (.iconst 0, 1) := by decide +kernel
theorem dX4_goRound_19 : decode cX4_goRound 19 = .ok (.istore_n 1, 1) := by decide +kernel
theorem dX4_goRound_20 : decode cX4_goRound 20 = .ok (.iload_n 1, 1) := by decide +kernel
theorem dX4_goRound_21 : decode cX4_goRound 21 = .ok (.sipush 200, 3) := by decide +kernel
theorem dX4_goRound_24 : decode cX4_goRound 24 = .ok (.if_icmp .gt 77, 3) := by decide +kernel
theorem dX4_goRound_27 : decode cX4_goRound 27 = .ok (.aload_n 0, 1) := by decide +kernel
theorem dX4_goRound_28 : decode cX4_goRound 28 = .ok (.getfield 37, 3) := by decide +kernel
theorem dX4_goRound_31 : decode cX4_goRound 31 = .ok (.iload_n 1, 1) := by decide +kernel
theorem dX4_goRound_32 : decode cX4_goRound 32 = .ok (.aload_n 0, 1) := by decide +kernel
theorem dX4_goRound_33 : decode cX4_goRound 33 = .ok (.invokevirtual 231, 3) := by decide +kernel
theorem dX4_goRound_36 : decode cX4_goRound 36 = .ok (.lastore, 1) := by decide +kernel
theorem dX4_goRound_37 : decode cX4_goRound 37 = .ok (.iconst 0, 1) := by decide +kernel
theorem dX4_goRound_38 : decode cX4_goRound 38 = .ok (.istore_n 2, 1) := by decide +kernel
theorem dX4_goRound_39 : decode cX4_goRound 39 = .ok (.iload_n 2, 1) := by decide +kernel
theorem dX4_goRound_40 : decode cX4_goRound 40 = .ok (.iload_n 1, 1) := by decide +kernel
theorem dX4_goRound_41 : decode cX4_goRound 41 = .ok (.if_icmp .ge 33, 3) := by decide +kernel
theorem dX4_goRound_44 : decode cX4_goRound 44 = .ok (.aload_n 0, 1) := by decide +kernel
theorem dX4_goRound_45 : decode cX4_goRound 45 = .ok (.getfield 37, 3) := by decide +kernel
theorem dX4_goRound_48 : decode cX4_goRound 48 = .ok (.iload_n 2, 1) := by decide +kernel
theorem dX4_goRound_49 : decode cX4_goRound 49 = .ok (.laload, 1) := by decide +kernel
theorem dX4_goRound_50 : decode cX4_goRound 50 = .ok (.aload_n 0, 1) := by decide +kernel
theorem dX4_goRound_51 : decode cX4_goRound 51 = .ok (.getfield 37, 3) := by decide +kernel
theorem dX4_goRound_54 : decode cX4_goRound 54 = .ok (.iload_n 1, 1) := by decide +kernel
theorem dX4_goRound_55 : decode cX4_goRound 55 = .ok (.laload, 1) := by decide +kernel
theorem dX4_goRound_56 : decode cX4_goRound 56 = .ok (.lcmp, 1) := by decide +kernel
theorem dX4_goRound_57 : decode cX4_goRound 57 = .ok (.ifCond .ne 11, 3) := by decide +kernel
theorem dX4_goRound_60 : decode cX4_goRound 60 = .ok (.aload_n 0, 1) := by decide +kernel
theorem dX4_goRound_61 : decode cX4_goRound 61 = .ok (.iload_n 1, 1) := by decide +kernel
theorem dX4_goRound_62 : decode cX4_goRound 62 = .ok (.iload_n 2, 1) := by decide +kernel
theorem dX4_goRound_63 : decode cX4_goRound 63 = .ok (.isub, 1) := by decide +kernel
theorem dX4_goRound_64 : decode cX4_goRound 64 = .ok (.putfield 228, 3) := by decide +kernel
theorem dX4_goRound_67 : decode cX4_goRound 67 = .ok (.return_, 1) := by decide +kernel
theorem dX4_goRound_68 : decode cX4_goRound 68 = .ok (.iinc 2 1, 3) := by decide +kernel
theorem dX4_goRound_71 : decode cX4_goRound 71 = .ok (.goto (-32), 3) := by decide +kernel
theorem dX4_goRound_74 : decode cX4_goRound 74 = .ok (.aload_n 0, 1) := by decide +kernel
theorem dX4_goRound_75 : decode cX4_goRound 75 = .ok (.invokevirtual 235, 3) := by decide +kernel
theorem dX4_goRound_78 : decode cX4_goRound 78 = .ok (.istore_n 2, 1) := by decide +kernel
theorem dX4_goRound_79 : decode cX4_goRound 79 = .ok (.iload_n 2, 1) := by decide +kernel
theorem dX4_goRound_80 : decode cX4_goRound 80 = .ok (.iconst (-1), 1) := by decide +kernel
theorem dX4_goRound_81 : decode cX4_goRound 81 = .ok (.if_icmp .ne 9, 3) := by decide +kernel
theorem dX4_goRound_84 : decode cX4_goRound 84 = .ok (.aload_n 0, 1) := by decide +kernel
theorem dX4_goRound_85 : decode cX4_goRound 85 = .ok (.iload_n 1, 1) := by decide +kernel
theorem dX4_goRound_86 : decode cX4_goRound 86 = .ok (.putfield 225, 3) := by decide +kernel
theorem dX4_goRound_89 : decode cX4_goRound 89 = .ok (.return_, 1) := by decide +kernel
theorem dX4_goRound_90 : decode cX4_goRound 90 = .ok (.aload_n 0, 1) := by decide +kernel
theorem dX4_goRound_91 : decode cX4_goRound 91 = .ok (.iload_n 2, 1) := by decide +kernel
theorem dX4_goRound_92 : decode cX4_goRound 92 = .ok (.invokevirtual 238, 3) := by decide +kernel
theorem dX4_goRound_95 : decode cX4_goRound 95 = .ok (.iinc 1 1, 3) := by decide +kernel
theorem dX4_goRound_98 : decode cX4_goRound 98 = .ok (.goto (-78), 3) := by decide +kernel
theorem dX4_goRound_101 : decode cX4_goRound 101 = .ok (.return_, 1) := by decide +kernel
theorem dX4_orderAsNumber_0 : decode cX4_orderAsNumber 0 = .ok (.lconst 0, 1) := by decide +kernel
theorem dX4_orderAsNumber_1 : decode cX4_orderAsNumber 1 = .ok (.lstore_n 1, 1) := by decide +kernel
theorem dX4_orderAsNumber_2 : decode cX4_orderAsNumber 2 = .ok (.iconst 0, 1) := by decide +kernel
theorem dX4_orderAsNumber_3 : decode cX4_orderAsNumber 3 = .ok (.istore_n 3, 1) := by decide +kernel
theorem dX4_orderAsNumber_4 : decode cX4_orderAsNumber 4 = .ok (.iload_n 3, 1) := by decide +kernel
theorem dX4_orderAsNumber_5 : decode cX4_orderAsNumber 5 = .ok (.aload_n 0, 1) := by decide +kernel
theorem dX4_orderAsNumber_6 : decode cX4_orderAsNumber 6 = .ok (.getfield 41, 3) := by decide +kernel
theorem dX4_orderAsNumber_9 : decode cX4_orderAsNumber 9 = .ok (.getfield 74, 3) := by decide +kernel
theorem dX4_orderAsNumber_12 : decode cX4_orderAsNumber 12 = .ok (.getfield 78, 3) := by decide +kernel
theorem dX4_orderAsNumber_15 : decode cX4_orderAsNumber 15 = .ok (.if_icmp .ge 23, 3) := by decide +kernel
theorem dX4_orderAsNumber_18 : decode cX4_orderAsNumber 18 = .ok (.lload_n 1, 1) := by decide +kernel
theorem dX4_orderAsNumber_19 : decode cX4_orderAsNumber 19 = .ok (.ldc2_w 241, 3) := by decide +kernel
theorem dX4_orderAsNumber_22 : decode cX4_orderAsNumber 22 = .ok (.lmul, 1) := by decide +kernel
theorem dX4_orderAsNumber_23 : decode cX4_orderAsNumber 23 = .ok (.aload_n 0, 1) := by decide +kernel
theorem dX4_orderAsNumber_24 : decode cX4_orderAsNumber 24 = .ok (.getfield 9, 3) := by decide +kernel
theorem dX4_orderAsNumber_27 : decode cX4_orderAsNumber 27 = .ok (.iload_n 3, 1) := by decide +kernel
theorem dX4_orderAsNumber_28 : decode cX4_orderAsNumber 28 = .ok (.iaload, 1) := by decide +kernel
theorem dX4_orderAsNumber_29 : decode cX4_orderAsNumber 29 = .ok (.i2l, 1) := by decide +kernel
theorem dX4_orderAsNumber_30 : decode cX4_orderAsNumber 30 = .ok (.ladd, 1) := by decide +kernel
theorem dX4_orderAsNumber_31 : decode cX4_orderAsNumber 31 = .ok (.lstore_n 1, 1) := by decide +kernel
theorem dX4_orderAsNumber_32 : decode cX4_orderAsNumber 32 = .ok (.iinc 3 1, 3) := by decide +kernel
theorem dX4_orderAsNumber_35 : decode cX4_orderAsNumber 35 = .ok (.goto (-31), 3) := by decide +kernel
theorem dX4_orderAsNumber_38 : decode cX4_orderAsNumber 38 = .ok (.lload_n 1, 1) := by decide +kernel
theorem dX4_orderAsNumber_39 : decode cX4_orderAsNumber 39 = .ok (.lreturn, 1) := by decide +kernel
theorem dX4_firstToChange_0 : decode cX4_firstToChange 0 = .ok (.aload_n 0, 1) := by decide +kernel
theorem dX4_firstToChange_1 : decode cX4_firstToChange 1 = .ok (.getfield 41, 3) := by decide +kernel
theorem dX4_firstToChange_4 : decode cX4_firstToChange 4 = .ok (.getfield 74, 3) := by decide +kernel
theorem dX4_firstToChange_7 : decode cX4_firstToChange 7 = .ok (.getfield 78, 3) := by decide +kernel
theorem dX4_firstToChange_10 : decode cX4_firstToChange 10 = .ok (.istore_n 1, 1) := by decide +kernel
theorem dX4_firstToChange_11 : decode cX4_firstToChange 11 = .ok (.aload_n 0, 1) := by decide +kernel
theorem dX4_firstToChange_12 : decode cX4_firstToChange 12 = .ok (.getfield 30, 3) := by decide +kernel
theorem dX4_firstToChange_15 : decode cX4_firstToChange 15 = .ok (.iconst 0, 1) := by decide +kernel
theorem dX4_firstToChange_16 : decode cX4_firstToChange 16 = .ok (.iconst 0, 1) := by decide +kernel
theorem dX4_firstToChange_17 : decode cX4_firstToChange 17 = .ok (.iastore, 1) := by decide +kernel
theorem dX4_firstToChange_18 : decode cX4_firstToChange 18 = .ok (.iconst 0, 1) := by decide +kernel
theorem dX4_firstToChange_19 : decode cX4_firstToChange 19 = .ok (.istore_n 2, 1) := by decide +kernel
theorem dX4_firstToChange_20 : decode cX4_firstToChange 20 = .ok (.iload_n 2, 1) := by decide +kernel
theorem dX4_firstToChange_21 : decode cX4_firstToChange 21 = .ok (.iload_n 1, 1) := by decide +kernel
theorem dX4_firstToChange_22 : decode cX4_firstToChange 22 = .ok (.iconst 1, 1) := by decide +kernel
theorem dX4_firstToChange_23 : decode cX4_firstToChange 23 = .ok (.isub, 1) := by decide +kernel
theorem dX4_firstToChange_24 : decode cX4_firstToChange 24 = .ok (.if_icmp .ge 62, 3) := by decide +kernel
theorem dX4_firstToChange_27 : decode cX4_firstToChange 27 = .ok (.aload_n 0, 1) := by decide +kernel
theorem dX4_firstToChange_28 : decode cX4_firstToChange 28 = .ok (.iload_n 2, 1) := by decide +kernel
theorem dX4_firstToChange_29 : decode cX4_firstToChange 29 = .ok (.iload_n 2, 1) := by decide +kernel
theorem dX4_firstToChange_30 : decode cX4_firstToChange 30 = .ok (.iconst 2, 1) := by decide +kernel
theorem dX4_firstToChange_31 : decode cX4_firstToChange 31 = .ok (.iadd, 1) := by decide +kernel
theorem dX4_firstToChange_32 : decode cX4_firstToChange 32 = .ok (.iload_n 1, 1) := by decide +kernel
theorem dX4_firstToChange_33 : decode cX4_firstToChange 33 = .ok (.if_icmp .ge 14, 3) := by decide +kernel
theorem dX4_firstToChange_36 : decode cX4_firstToChange 36 = .ok (.aload_n 0, 1) := by decide +kernel
theorem dX4_firstToChange_37 : decode cX4_firstToChange 37 = .ok (.getfield 9, 3) := by decide +kernel
theorem dX4_firstToChange_40 : decode cX4_firstToChange 40 = .ok (.iload_n 2, 1) := by decide +kernel
theorem dX4_firstToChange_41 : decode cX4_firstToChange 41 = .ok (.iconst 2, 1) := by decide +kernel
theorem dX4_firstToChange_42 : decode cX4_firstToChange 42 = .ok (.iadd, 1) := by decide +kernel
theorem dX4_firstToChange_43 : decode cX4_firstToChange 43 = .ok (.iaload, 1) := by decide +kernel
theorem dX4_firstToChange_44 : decode cX4_firstToChange 44 = .ok (.goto 4, 3) := by decide +kernel
theorem dX4_firstToChange_47 : decode cX4_firstToChange 47 = .ok (.iconst (-1), 1) := by decide +kernel
theorem dX4_firstToChange_48 : decode cX4_firstToChange 48 = .ok (.invokevirtual 208, 3) := by decide +kernel
theorem dX4_firstToChange_51 : decode cX4_firstToChange 51 = .ok (.ifCond .eq 5, 3) := by decide +kernel
theorem dX4_firstToChange_54 : decode cX4_firstToChange 54 = .ok (.iload_n 2, 1) := by decide +kernel
theorem dX4_firstToChange_55 : decode cX4_firstToChange 55 = .ok (.ireturn, 1) := by decide +kernel
theorem dX4_firstToChange_56 : decode cX4_firstToChange 56 = .ok (.aload_n 0, 1) := by decide +kernel
theorem dX4_firstToChange_57 : decode cX4_firstToChange 57 = .ok (.getfield 30, 3) := by decide +kernel
theorem dX4_firstToChange_60 : decode cX4_firstToChange 60 = .ok (.iload_n 2, 1) := by decide +kernel
theorem dX4_firstToChange_61 : decode cX4_firstToChange 61 = .ok (.iconst 1, 1) := by decide +kernel
theorem dX4_firstToChange_62 : decode cX4_firstToChange 62 = .ok (.iadd, 1) := by decide +kernel
theorem dX4_firstToChange_63 : decode cX4_firstToChange 63 = .ok (.aload_n 0, 1) := by decide +kernel
theorem dX4_firstToChange_64 : decode cX4_firstToChange 64 = .ok (.aload_n 0, 1) := by decide +kernel
theorem dX4_firstToChange_65 : decode cX4_firstToChange 65 = .ok (.getfield 9, 3) := by decide +kernel
theorem dX4_firstToChange_68 : decode cX4_firstToChange 68 = .ok (.iload_n 2, 1) := by decide +kernel
theorem dX4_firstToChange_69 : decode cX4_firstToChange 69 = .ok (.iaload, 1) := by decide +kernel
theorem dX4_firstToChange_70 : decode cX4_firstToChange 70 = .ok (.aload_n 0, 1) := by decide +kernel
theorem dX4_firstToChange_71 : decode cX4_firstToChange 71 = .ok (.getfield 30, 3) := by decide +kernel
theorem dX4_firstToChange_74 : decode cX4_firstToChange 74 = .ok (.iload_n 2, 1) := by decide +kernel
theorem dX4_firstToChange_75 : decode cX4_firstToChange 75 = .ok (.iaload, 1) := by decide +kernel
theorem dX4_firstToChange_76 : decode cX4_firstToChange 76 = .ok (.invokevirtual 174, 3) := by decide +kernel
theorem dX4_firstToChange_79 : decode cX4_firstToChange 79 = .ok (.iastore, 1) := by decide +kernel
theorem dX4_firstToChange_80 : decode cX4_firstToChange 80 = .ok (.iinc 2 1, 3) := by decide +kernel
theorem dX4_firstToChange_83 : decode cX4_firstToChange 83 = .ok (.goto (-63), 3) := by decide +kernel
theorem dX4_firstToChange_86 : decode cX4_firstToChange 86 = .ok (.iconst (-1), 1) := by decide +kernel
theorem dX4_firstToChange_87 : decode cX4_firstToChange 87 = .ok (.ireturn, 1) := by decide +kernel
theorem dX4_changePlaces_0 : decode cX4_changePlaces 0 = .ok (.aload_n 0, 1) := by decide +kernel
theorem dX4_changePlaces_1 : decode cX4_changePlaces 1 = .ok (.getfield 9, 3) := by decide +kernel
theorem dX4_changePlaces_4 : decode cX4_changePlaces 4 = .ok (.iload_n 1, 1) := by decide +kernel
theorem dX4_changePlaces_5 : decode cX4_changePlaces 5 = .ok (.iaload, 1) := by decide +kernel
theorem dX4_changePlaces_6 : decode cX4_changePlaces 6 = .ok (.istore_n 2, 1) := by decide +kernel
theorem dX4_changePlaces_7 : decode cX4_changePlaces 7 = .ok (.aload_n 0, 1) := by decide +kernel
theorem dX4_changePlaces_8 : decode cX4_changePlaces 8 = .ok (.getfield 9, 3) := by decide +kernel
theorem dX4_changePlaces_11 : decode cX4_changePlaces 11 = .ok (.iload_n 1, 1) := by decide +kernel
theorem dX4_changePlaces_12 : decode cX4_changePlaces 12 = .ok (.aload_n 0, 1) := by decide +kernel
theorem dX4_changePlaces_13 : decode cX4_changePlaces 13 = .ok (.getfield 9, 3) := by decide +kernel
theorem dX4_changePlaces_16 : decode cX4_changePlaces 16 = .ok (.iload_n 1, 1) := by decide +kernel
theorem dX4_changePlaces_17 : decode cX4_changePlaces 17 = .ok (.iconst 1, 1) := by decide +kernel
theorem dX4_changePlaces_18 : decode cX4_changePlaces 18 = .ok (.iadd, 1) := by decide +kernel
theorem dX4_changePlaces_19 : decode cX4_changePlaces 19 = .ok (.iaload, 1) := by decide +kernel
theorem dX4_changePlaces_20 : decode cX4_changePlaces 20 = .ok (.iastore, 1) := by decide +kernel
theorem dX4_changePlaces_21 : decode cX4_changePlaces 21 = .ok (.aload_n 0, 1) := by decide +kernel
theorem dX4_changePlaces_22 : decode cX4_changePlaces 22 = .ok (.getfield 9, 3) := by decide +kernel
theorem dX4_changePlaces_25 : decode cX4_changePlaces 25 = .ok (.iload_n 1, 1) := by decide +kernel
theorem dX4_changePlaces_26 : decode cX4_changePlaces 26 = .ok (.iconst 1, 1) := by decide +kernel
theorem dX4_changePlaces_27 : decode cX4_changePlaces 27 = .ok (.iadd, 1) := by decide +kernel
theorem dX4_changePlaces_28 : decode cX4_changePlaces 28 = .ok (.iload_n 2, 1) := by decide +kernel
theorem dX4_changePlaces_29 : decode cX4_changePlaces 29 = .ok (.iastore, 1) := by decide +kernel
theorem dX4_changePlaces_30 : decode cX4_changePlaces 30 = .ok (.return_, 1) := by decide +kernel
theorem dX5_init_0 : decode cX5_init 0 = .ok (.aload_n 0, 1) := by decide +kernel
theorem dX5_init_1 : decode cX5_init 1 = .ok (.invokespecial 3, 3) := by decide +kernel
theorem dX5_init_4 : decode cX5_init 4 = .ok (.aload_n 0, 1) := by decide +kernel
theorem dX5_init_5 : decode cX5_init 5 = .ok (.bipush 64, 2) := by decide +kernel
theorem dX5_init_7 : decode cX5_init 7 = .ok (.newarray .int, 2) := by decide +kernel
theorem dX5_init_9 : decode cX5_init 9 = .ok (.putfield 9, 3) := by decide +kernel
theorem dX5_init_12 : decode cX5_init 12 = .ok (.iconst 0, 1) := by decide +kernel
theorem dX5_init_13 : decode cX5_init 13 = .ok (.istore_n 1, 1) := by decide +kernel
theorem dX5_init_14 : decode cX5_init 14 = .ok (.iload_n 1, 1) := by decide +kernel
theorem dX5_init_15 : decode cX5_init 15 = .ok (.bipush 8, 2) := by decide +kernel
theorem dX5_init_17 : decode cX5_init 17 = .ok (.if_icmp .ge 22, 3) := by decide +kernel
theorem dX5_init_20 : decode cX5_init 20 = .ok (.aload_n 0, 1) := by decide +kernel
theorem dX5_init_21 : decode cX5_init 21 = .ok (.getfield 9, 3) := by decide +kernel
theorem dX5_init_24 : decode cX5_init 24 = .ok (.iload_n 1, 1) := by decide +kernel
theorem dX5_init_25 : decode cX5_init 25 = .ok (.bipush 8, 2) := by decide +kernel
theorem dX5_init_27 : decode cX5_init 27 = .ok (.imul, 1) := by decide +kernel
theorem dX5_init_28 : decode cX5_init 28 = .ok (.iload_n 1, 1) := by decide +kernel
theorem dX5_init_29 : decode cX5_init 29 = .ok (.iadd, 1) := by decide +kernel
theorem dX5_init_30 : decode cX5_init 30 = .ok (.bipush 9, 2) := by decide +kernel
theorem dX5_init_32 : decode cX5_init 32 = .ok (.iastore, 1) := by decide +kernel
theorem dX5_init_33 : decode cX5_init 33 = .ok (.iinc 1 1, 3) := by decide +kernel
theorem dX5_init_36 : decode cX5_init 36 = .ok (.goto (-22), 3) := by decide +kernel
theorem dX5_init_39 : decode cX5_init 39 = .ok (.return_, 1) := by decide +kernel
theorem dX5_above_0 : decode cX5_above 0 = .ok (.aload_n 1, 1) := by decide +kernel
theorem dX5_above_1 : decode cX5_above 1 = .ok (.getfield 15, 3) := by decide +kernel
theorem dX5_above_4 : decode cX5_above 4 = .ok (.iload_n 2, 1) := by decide +kernel
theorem dX5_above_5 : decode cX5_above 5 = .ok (.iaload, 1) := by decide +kernel
theorem dX5_above_6 : decode cX5_above 6 = .ok (.aload_n 3, 1) := by decide +kernel
theorem dX5_above_7 : decode cX5_above 7 = .ok (.getfield 20, 3) := by decide +kernel
theorem dX5_above_10 : decode cX5_above 10 = .ok (.if_icmp .eq 5, 3) := by decide +kernel
theorem dX5_above_13 : decode cX5_above 13 = .ok (.lconst 0, 1) := by decide +kernel
theorem dX5_above_14 : decode cX5_above 14 = .ok (.lreturn, 1) := by decide +kernel
theorem dX5_above_15 : decode cX5_above 15 = .ok (.lconst 1, 1) := by decide +kernel
theorem dX5_above_16 : decode cX5_above 16 = .ok (.lstore 4, 2) := by decide +kernel
theorem dX5_above_18 : decode cX5_above 18 = .ok (.iconst 0, 1) := by decide +kernel
theorem dX5_above_19 : decode cX5_above 19 = .ok (.istore 6, 2) := by decide +kernel
theorem dX5_above_21 : decode cX5_above 21 = .ok (.iload 6, 2) := by decide +kernel
theorem dX5_above_23 : decode cX5_above 23 = .ok (.aload_n 3, 1) := by decide +kernel
theorem dX5_above_24 : decode cX5_above 24 = .ok (.getfield 20, 3) := by decide +kernel
theorem dX5_above_27 : decode cX5_above 27 = .ok (.if_icmp .ge 37, 3) := by decide +kernel
theorem dX5_above_30 : decode cX5_above 30 = .ok (.lload 4, 2) := by decide +kernel
theorem dX5_above_32 : decode cX5_above 32 = .ok (.aload_n 0, 1) := by decide +kernel
theorem dX5_above_33 : decode cX5_above 33 = .ok (.getfield 9, 3) := by decide +kernel
theorem dX5_above_36 : decode cX5_above 36 = .ok (.aload_n 1, 1) := by decide +kernel
theorem dX5_above_37 : decode cX5_above 37 = .ok (.iload_n 2, 1) := by decide +kernel
theorem dX5_above_38 : decode cX5_above 38 = .ok (.iload 6, 2) := by decide +kernel
theorem dX5_above_40 : decode cX5_above 40 = .ok (.invokevirtual 26, 3) := by decide +kernel
theorem dX5_above_43 : decode cX5_above 43 = .ok (.bipush 8, 2) := by decide +kernel
theorem dX5_above_45 : decode cX5_above 45 = .ok (.imul, 1) := by decide +kernel
theorem dX5_above_46 : decode cX5_above 46 = .ok (.aload_n 3, 1) := by decide +kernel
theorem dX5_above_47 : decode cX5_above 47 = .ok (.iload 6, 2) := by decide +kernel
theorem dX5_above_49 : decode cX5_above 49 = .ok (.invokevirtual 30, 3) := by decide +kernel
theorem dX5_above_52 : decode cX5_above 52 = .ok (.iadd, 1) := by decide +kernel
theorem dX5_above_53 : decode cX5_above 53 = .ok (.iaload, 1) := by decide +kernel
theorem dX5_above_54 : decode cX5_above 54 = .ok (.i2l, 1) := by decide +kernel
theorem dX5_above_55 : decode cX5_above 55 = .ok (.lmul, 1) := by decide +kernel
theorem dX5_above_56 : decode cX5_above 56 = .ok (.lstore 4, 2) := by decide +kernel
theorem dX5_above_58 : decode cX5_above 58 = .ok (.iinc 6 1, 3) := by decide +kernel
theorem dX5_above_61 : decode cX5_above 61 = .ok (.goto (-40), 3) := by decide +kernel
theorem dX5_above_64 : decode cX5_above 64 = .ok (.lload 4, 2) := by decide +kernel
theorem dX5_above_66 : decode cX5_above 66 = .ok (.lreturn, 1) := by decide +kernel
theorem dX5_below_0 : decode cX5_below 0 = .ok (.lload_n 3, 1) := by decide +kernel
theorem dX5_below_1 : decode cX5_below 1 = .ok (.lconst 0, 1) := by decide +kernel
theorem dX5_below_2 : decode cX5_below 2 = .ok (.lcmp, 1) := by decide +kernel
theorem dX5_below_3 : decode cX5_below 3 = .ok (.ifCond .ne 5, 3) := by decide +kernel
theorem dX5_below_6 : decode cX5_below 6 = .ok (.lconst 1, 1) := by decide +kernel
theorem dX5_below_7 : decode cX5_below 7 = .ok (.lreturn, 1) := by decide +kernel
theorem dX5_below_8 : decode cX5_below 8 = .ok (.lconst 1, 1) := by decide +kernel
theorem dX5_below_9 : decode cX5_below 9 = .ok (.lstore 5, 2) := by decide +kernel
theorem dX5_below_11 : decode cX5_below 11 = .ok (.iconst 0, 1) := by decide +kernel
theorem dX5_below_12 : decode cX5_below 12 = .ok (.istore 7, 2) := by decide +kernel
theorem dX5_below_14 : decode cX5_below 14 = .ok (.iload 7, 2) := by decide +kernel
theorem dX5_below_16 : decode cX5_below 16 = .ok (.aload_n 1, 1) := by decide +kernel
theorem dX5_below_17 : decode cX5_below 17 = .ok (.getfield 15, 3) := by decide +kernel
theorem dX5_below_20 : decode cX5_below 20 = .ok (.iload_n 2, 1) := by decide +kernel
theorem dX5_below_21 : decode cX5_below 21 = .ok (.iaload, 1) := by decide +kernel
theorem dX5_below_22 : decode cX5_below 22 = .ok (.if_icmp .ge 26, 3) := by decide +kernel
theorem dX5_below_25 : decode cX5_below 25 = .ok (.lload 5, 2) := by decide +kernel
theorem dX5_below_27 : decode cX5_below 27 = .ok (.aload_n 0, 1) := by decide +kernel
theorem dX5_below_28 : decode cX5_below 28 = .ok (.aload_n 1, 1) := by decide +kernel
theorem dX5_below_29 : decode cX5_below 29 = .ok (.iload_n 2, 1) := by decide +kernel
theorem dX5_below_30 : decode cX5_below 30 = .ok (.iload 7, 2) := by decide +kernel
theorem dX5_below_32 : decode cX5_below 32 = .ok (.invokevirtual 26, 3) := by decide +kernel
theorem dX5_below_35 : decode cX5_below 35 = .ok (.invokevirtual 34, 3) := by decide +kernel
theorem dX5_below_38 : decode cX5_below 38 = .ok (.i2l, 1) := by decide +kernel
theorem dX5_below_39 : decode cX5_below 39 = .ok (.lmul, 1) := by decide +kernel
theorem dX5_below_40 : decode cX5_below 40 = .ok (.lstore 5, 2) := by decide +kernel
theorem dX5_below_42 : decode cX5_below 42 = .ok (.iinc 7 1, 3) := by decide +kernel
theorem dX5_below_45 : decode cX5_below 45 = .ok (.goto (-31), 3) := by decide +kernel
theorem dX5_below_48 : decode cX5_below 48 = .ok (.lload 5, 2) := by decide +kernel
theorem dX5_below_50 : decode cX5_below 50 = .ok (.lreturn, 1) := by decide +kernel
theorem dX5_allOf_0 : decode cX5_allOf 0 = .ok (.iconst 0, 1) := by decide +kernel
theorem dX5_allOf_1 : decode cX5_allOf 1 = .ok (.istore_n 2, 1) := by decide +kernel
theorem dX5_allOf_2 : decode cX5_allOf 2 = .ok (.iconst 0, 1) := by decide +kernel
theorem dX5_allOf_3 : decode cX5_allOf 3 = .ok (.istore_n 3, 1) := by decide +kernel
theorem dX5_allOf_4 : decode cX5_allOf 4 = .ok (.iload_n 3, 1) := by decide +kernel
theorem dX5_allOf_5 : decode cX5_allOf 5 = .ok (.bipush 8, 2) := by decide +kernel
theorem dX5_allOf_7 : decode cX5_allOf 7 = .ok (.if_icmp .ge 23, 3) := by decide +kernel
theorem dX5_allOf_10 : decode cX5_allOf 10 = .ok (.iload_n 2, 1) := by decide +kernel
theorem dX5_allOf_11 : decode cX5_allOf 11 = .ok (.aload_n 0, 1) := by decide +kernel
theorem dX5_allOf_12 : decode cX5_allOf 12 = .ok (.getfield 9, 3) := by decide +kernel
theorem dX5_allOf_15 : decode cX5_allOf 15 = .ok (.iload_n 1, 1) := by decide +kernel
theorem dX5_allOf_16 : decode cX5_allOf 16 = .ok (.bipush 8, 2) := by decide +kernel
theorem dX5_allOf_18 : decode cX5_allOf 18 = .ok (.imul, 1) := by decide +kernel
theorem dX5_allOf_19 : decode cX5_allOf 19 = .ok (.iload_n 3, 1) := by decide +kernel
theorem dX5_allOf_20 : decode cX5_allOf 20 = .ok (.iadd, 1) := by decide +kernel
theorem dX5_allOf_21 : decode cX5_allOf 21 = .ok (.iaload, 1) := by decide +kernel
theorem dX5_allOf_22 : decode cX5_allOf 22 = .ok (.iadd, 1) := by decide +kernel
theorem dX5_allOf_23 : decode cX5_allOf 23 = .ok (.istore_n 2, 1) := by decide +kernel
theorem dX5_allOf_24 : decode cX5_allOf 24 = .ok (.iinc 3 1, 3) := by decide +kernel
theorem dX5_allOf_27 : decode cX5_allOf 27 = .ok (.goto (-23), 3) := by decide +kernel
theorem dX5_allOf_30 : decode cX5_allOf 30 = .ok (.iload_n 2, 1) := by decide +kernel
theorem dX5_allOf_31 : decode cX5_allOf 31 = .ok (.ireturn, 1) := by decide +kernel
theorem dX5_likeliest_0 : decode cX5_likeliest 0 = .ok (.iconst (-1), 1) := by decide +kernel
theorem dX5_likeliest_1 : decode cX5_likeliest 1 = .ok (.istore 4, 2) := by decide +kernel
theorem dX5_likeliest_3 : decode cX5_likeliest 3 = .ok (.iconst 0, 1) := by decide +kernel
theorem dX5_likeliest_4 : decode cX5_likeliest 4 = .ok (.istore 5, 2) := by decide +kernel
theorem dX5_likeliest_6 : decode cX5_likeliest 6 = .ok (.lconst 0, 1) := by decide +kernel
theorem dX5_likeliest_7 : decode cX5_likeliest 7 = .ok (.lstore 6, 2) := by decide +kernel
theorem dX5_likeliest_9 : decode cX5_likeliest 9 = .ok (.lconst 1, 1) := by decide +kernel
theorem dX5_likeliest_10 : decode cX5_likeliest 10 = .ok (.lstore 8, 2) := by decide +kernel
theorem dX5_likeliest_12 : decode cX5_likeliest 12 = .ok (.iconst 0, 1) := by decide +kernel
theorem dX5_likeliest_13 : decode cX5_likeliest 13 = .ok (.istore 10, 2) := by decide +kernel
theorem dX5_likeliest_15 : decode cX5_likeliest 15 = .ok (.iload 10, 2) := by decide +kernel
theorem dX5_likeliest_17 : decode cX5_likeliest 17 = .ok (.aload_n 1, 1) := by decide +kernel
theorem dX5_likeliest_18 : decode cX5_likeliest 18 = .ok (.getfield 37, 3) := by decide +kernel
theorem dX5_likeliest_21 : decode cX5_likeliest 21 = .ok (.if_icmp .ge 84, 3) := by decide +kernel
theorem dX5_likeliest_24 : decode cX5_likeliest 24 = .ok (.aload_n 0, 1) := by decide +kernel
theorem dX5_likeliest_25 : decode cX5_likeliest 25 = .ok (.aload_n 1, 1) := by decide +kernel
theorem dX5_likeliest_26 : decode cX5_likeliest 26 = .ok (.iload 10, 2) := by decide +kernel
theorem dX5_likeliest_28 : decode cX5_likeliest 28 = .ok (.aload_n 2, 1) := by decide +kernel
theorem dX5_likeliest_29 : decode cX5_likeliest 29 = .ok (.invokevirtual 40, 3) := by decide +kernel
theorem dX5_likeliest_32 : decode cX5_likeliest 32 = .ok (.lstore 11, 2) := by decide +kernel
theorem dX5_likeliest_34 : decode cX5_likeliest 34 = .ok (.aload_n 0, 1) := by decide +kernel
theorem dX5_likeliest_35 : decode cX5_likeliest 35 = .ok (.aload_n 1, 1) := by decide +kernel
theorem dX5_likeliest_36 : decode cX5_likeliest 36 = .ok (.iload 10, 2) := by decide +kernel
theorem dX5_likeliest_38 : decode cX5_likeliest 38 = .ok (.lload 11, 2) := by decide +kernel
theorem dX5_likeliest_40 : decode cX5_likeliest 40 = .ok (.invokevirtual 44, 3) := by decide +kernel
theorem dX5_likeliest_43 : decode cX5_likeliest 43 = .ok (.lstore 13, 2) := by decide +kernel
theorem dX5_likeliest_45 : decode cX5_likeliest 45 = .ok (.lload 11, 2) := by decide +kernel
theorem dX5_likeliest_47 : decode cX5_likeliest 47 = .ok (.lload 8, 2) := by decide +kernel
theorem dX5_likeliest_49 : decode cX5_likeliest 49 = .ok (.lmul, 1) := by decide +kernel
theorem dX5_likeliest_50 : decode cX5_likeliest 50 = .ok (.lload 6, 2) := by decide +kernel
theorem dX5_likeliest_52 : decode cX5_likeliest 52 = .ok (.lload 13, 2) := by decide +kernel
theorem dX5_likeliest_54 : decode cX5_likeliest 54 = .ok (.lmul, 1) := by decide +kernel
theorem dX5_likeliest_55 : decode cX5_likeliest 55 = .ok (.invokestatic 48, 3) := by decide +kernel
theorem dX5_likeliest_58 : decode cX5_likeliest 58 = .ok (.istore 15, 2) := by decide +kernel
theorem dX5_likeliest_60 : decode cX5_likeliest 60 = .ok (.iload 15, 2) := by decide +kernel
theorem dX5_likeliest_62 : decode cX5_likeliest 62 = .ok (.ifCond .le 15, 3) := by decide +kernel
theorem dX5_likeliest_65 : decode cX5_likeliest 65 = .ok (.iload 10, 2) := by decide +kernel
theorem dX5_likeliest_67 : decode cX5_likeliest 67 = .ok (.istore 4, 2) := by decide +kernel
theorem dX5_likeliest_69 : decode cX5_likeliest 69 = .ok (.lload 11, 2) := by decide +kernel
theorem dX5_likeliest_71 : decode cX5_likeliest 71 = .ok (.lstore 6, 2) := by decide +kernel
theorem dX5_likeliest_73 : decode cX5_likeliest 73 = .ok (.lload 13, 2) := by decide +kernel
theorem dX5_likeliest_75 : decode cX5_likeliest 75 = .ok (.lstore 8, 2) := by decide +kernel
theorem dX5_likeliest_77 : decode cX5_likeliest 77 = .ok (.iload 15, 2) := by decide +kernel
theorem dX5_likeliest_79 : decode cX5_likeliest 79 = .ok (.ifCond .gt 13, 3) := by decide +kernel
theorem dX5_likeliest_82 : decode cX5_likeliest 82 = .ok (.iload 5, 2) := by decide +kernel
theorem dX5_likeliest_84 : decode cX5_likeliest 84 = .ok (.ifCond .eq 12, 3) := by decide +kernel
theorem dX5_likeliest_87 : decode cX5_likeliest 87 = .ok (.iload 15, 2) := by decide +kernel
theorem dX5_likeliest_89 : decode cX5_likeliest 89 = .ok (.ifCond .ge 7, 3) := by decide +kernel
theorem dX5_likeliest_92 : decode cX5_likeliest 92 = .ok (.iconst 1, 1) := by decide +kernel
theorem dX5_likeliest_93 : decode cX5_likeliest 93 = .ok (.goto 4, 3) := by decide +kernel
theorem dX5_likeliest_96 : decode cX5_likeliest 96 = .ok (.iconst 0, 1) := by decide +kernel
theorem dX5_likeliest_97 : decode cX5_likeliest 97 = .ok (.istore 5, 2) := by decide +kernel
theorem dX5_likeliest_99 : decode cX5_likeliest 99 = .ok (.iinc 10 1, 3) := by decide +kernel
theorem dX5_likeliest_102 : decode cX5_likeliest 102 = .ok (.goto (-87), 3) := by decide +kernel
theorem dX5_likeliest_105 : decode cX5_likeliest 105 = .ok (.iload_n 3, 1) := by decide +kernel
theorem dX5_likeliest_106 : decode cX5_likeliest 106 = .ok (.ifCond .eq 14, 3) := by decide +kernel
theorem dX5_likeliest_109 : decode cX5_likeliest 109 = .ok (.iload 5, 2) := by decide +kernel
theorem dX5_likeliest_111 : decode cX5_likeliest 111 = .ok (.ifCond .eq 7, 3) := by decide +kernel
theorem dX5_likeliest_114 : decode cX5_likeliest 114 = .ok (.iconst 1, 1) := by decide +kernel
theorem dX5_likeliest_115 : decode cX5_likeliest 115 = .ok (.goto 4, 3) := by decide +kernel
theorem dX5_likeliest_118 : decode cX5_likeliest 118 = .ok (.iconst 0, 1) := by decide +kernel
theorem dX5_likeliest_119 : decode cX5_likeliest 119 = .ok (.ireturn, 1) := by decide +kernel
theorem dX5_likeliest_120 : decode cX5_likeliest 120 = .ok (.iload 4, 2) := by decide +kernel
theorem dX5_likeliest_122 : decode cX5_likeliest 122 = .ok (.ireturn, 1) := by decide +kernel
theorem dX6_init_0 : decode cX6_init 0 = .ok (.aload_n 0, 1) := by decide +kernel
theorem dX6_init_1 : decode cX6_init 1 = .ok (.invokespecial 3, 3) := by decide +kernel
theorem dX6_init_4 : decode cX6_init 4 = .ok (.aload_n 0, 1) := by decide +kernel
theorem dX6_init_5 : decode cX6_init 5 = .ok (.sipush 400, 3) := by decide +kernel
theorem dX6_init_8 : decode cX6_init 8 = .ok (.newarray .int, 2) := by decide +kernel
theorem dX6_init_10 : decode cX6_init 10 = .ok (.putfield 9, 3) := by decide +kernel
theorem dX6_init_13 : decode cX6_init 13 = .ok (.return_, 1) := by decide +kernel
theorem dX6_take_0 : decode cX6_take 0 = .ok (.aload_n 1, 1) := by decide +kernel
theorem dX6_take_1 : decode cX6_take 1 = .ok (.iconst 0, 1) := by decide +kernel
theorem dX6_take_2 : decode cX6_take 2 = .ok (.aload_n 0, 1) := by decide +kernel
theorem dX6_take_3 : decode cX6_take 3 = .ok (.getfield 9, 3) := by decide +kernel
theorem dX6_take_6 : decode cX6_take 6 = .ok (.iconst 0, 1) := by decide +kernel
theorem dX6_take_7 : decode cX6_take 7 = .ok (.sipush 400, 3) := by decide +kernel
theorem dX6_take_10 : decode cX6_take 10 = .ok (.invokestatic 15, 3) := by decide +kernel
theorem dX6_take_13 : decode cX6_take 13 = .ok (.aload_n 0, 1) := by decide +kernel
theorem dX6_take_14 : decode cX6_take 14 = .ok (.iload_n 2, 1) := by decide +kernel
theorem dX6_take_15 : decode cX6_take 15 = .ok (.putfield 21, 3) := by decide +kernel
theorem dX6_take_18 : decode cX6_take 18 = .ok (.aload_n 0, 1) := by decide +kernel
theorem dX6_take_19 : decode cX6_take 19 = .ok (.iload_n 3, 1) := by decide +kernel
theorem dX6_take_20 : decode cX6_take 20 = .ok (.putfield 25, 3) := by decide +kernel
theorem dX6_take_23 : decode cX6_take 23 = .ok (.return_, 1) := by decide +kernel
theorem dX6_worth_0 : decode cX6_worth 0 = .ok (.iconst 0, 1) := by decide +kernel
theorem dX6_worth_1 : decode cX6_worth 1 = .ok (.istore_n 3, 1) := by decide +kernel
theorem dX6_worth_2 : decode cX6_worth 2 = .ok (.iconst 0, 1) := by decide +kernel
theorem dX6_worth_3 : decode cX6_worth 3 = .ok (.istore 4, 2) := by decide +kernel
theorem dX6_worth_5 : decode cX6_worth 5 = .ok (.iload 4, 2) := by decide +kernel
theorem dX6_worth_7 : decode cX6_worth 7 = .ok (.aload_n 0, 1) := by decide +kernel
theorem dX6_worth_8 : decode cX6_worth 8 = .ok (.getfield 21, 3) := by decide +kernel
theorem dX6_worth_11 : decode cX6_worth 11 = .ok (.if_icmp .ge 153, 3) := by decide +kernel
theorem dX6_worth_14 : decode cX6_worth 14 = .ok (.aload_n 0, 1) := by decide +kernel
theorem dX6_worth_15 : decode cX6_worth 15 = .ok (.getfield 9, 3) := by decide +kernel
theorem dX6_worth_18 : decode cX6_worth 18 = .ok (.iload 4, 2) := by decide +kernel
theorem dX6_worth_20 : decode cX6_worth 20 = .ok (.iaload, 1) := by decide +kernel
theorem dX6_worth_21 : decode cX6_worth 21 = .ok (.istore 5, 2) := by decide +kernel
theorem dX6_worth_23 : decode cX6_worth 23 = .ok (.iload 5, 2) := by decide +kernel
theorem dX6_worth_25 : decode cX6_worth 25 = .ok (.ifCond .lt 24, 3) := by decide +kernel
theorem dX6_worth_28 : decode cX6_worth 28 = .ok (.iload_n 3, 1) := by decide +kernel
theorem dX6_worth_29 : decode cX6_worth 29 = .ok (.bipush 64, 2) := by decide +kernel
theorem dX6_worth_31 : decode cX6_worth 31 = .ok (.if_icmp .ge 127, 3) := by decide +kernel
theorem dX6_worth_34 : decode cX6_worth 34 = .ok (.aload_n 2, 1) := by decide +kernel
theorem dX6_worth_35 : decode cX6_worth 35 = .ok (.iload_n 3, 1) := by decide +kernel
theorem dX6_worth_36 : decode cX6_worth 36 = .ok (.iload 5, 2) := by decide +kernel
theorem dX6_worth_38 : decode cX6_worth 38 = .ok (.aload_n 1, 1) := by decide +kernel
theorem dX6_worth_39 : decode cX6_worth 39 = .ok (.invokestatic 28, 3) := by decide +kernel
theorem dX6_worth_42 : decode cX6_worth 42 = .ok (.iastore, 1) := by decide +kernel
theorem dX6_worth_43 : decode cX6_worth 43 = .ok (.iinc 3 1, 3) := by decide +kernel
theorem dX6_worth_46 : decode cX6_worth 46 = .ok (.goto 112, 3) := by decide +kernel
theorem dX6_worth_49 : decode cX6_worth 49 = .ok (.iload 5, 2) := by decide +kernel
theorem dX6_worth_51 : decode cX6_worth 51 = .ok (.bipush (-59), 2) := by decide +kernel
theorem dX6_worth_53 : decode cX6_worth 53 = .ok (.if_icmp .ne 17, 3) := by decide +kernel
theorem dX6_worth_56 : decode cX6_worth 56 = .ok (.iload_n 3, 1) := by decide +kernel
theorem dX6_worth_57 : decode cX6_worth 57 = .ok (.ifCond .le 11, 3) := by decide +kernel
theorem dX6_worth_60 : decode cX6_worth 60 = .ok (.aload_n 2, 1) := by decide +kernel
theorem dX6_worth_61 : decode cX6_worth 61 = .ok (.iload_n 3, 1) := by decide +kernel
theorem dX6_worth_62 : decode cX6_worth 62 = .ok (.iconst 1, 1) := by decide +kernel
theorem dX6_worth_63 : decode cX6_worth 63 = .ok (.isub, 1) := by decide +kernel
theorem dX6_worth_64 : decode cX6_worth 64 = .ok (.iaload, 1) := by decide +kernel
theorem dX6_worth_65 : decode cX6_worth 65 = .ok (.goto 4, 3) := by decide +kernel
theorem dX6_worth_68 : decode cX6_worth 68 = .ok (.iconst 0, 1) := by decide +kernel
theorem dX6_worth_69 : decode cX6_worth 69 = .ok (.ireturn, 1) := by decide +kernel
theorem dX6_worth_70 : decode cX6_worth 70 = .ok (.iload 5, 2) := by decide +kernel
theorem dX6_worth_72 : decode cX6_worth 72 = .ok (.sipush (-257), 3) := by decide +kernel
theorem dX6_worth_75 : decode cX6_worth 75 = .ok (.if_icmp .ne 27, 3) := by decide +kernel
theorem dX6_worth_78 : decode cX6_worth 78 = .ok (.iload_n 3, 1) := by decide +kernel
theorem dX6_worth_79 : decode cX6_worth 79 = .ok (.iconst 1, 1) := by decide +kernel
theorem dX6_worth_80 : decode cX6_worth 80 = .ok (.if_icmp .le 17, 3) := by decide +kernel
theorem dX6_worth_83 : decode cX6_worth 83 = .ok (.aload_n 2, 1) := by decide +kernel
theorem dX6_worth_84 : decode cX6_worth 84 = .ok (.iload_n 3, 1) := by decide +kernel
theorem dX6_worth_85 : decode cX6_worth 85 = .ok (.iconst 1, 1) := by decide +kernel
theorem dX6_worth_86 : decode cX6_worth 86 = .ok (.isub, 1) := by decide +kernel
theorem dX6_worth_87 : decode cX6_worth 87 = .ok (.iaload, 1) := by decide +kernel
theorem dX6_worth_88 : decode cX6_worth 88 = .ok (.ifCond .eq 9, 3) := by decide +kernel
theorem dX6_worth_91 : decode cX6_worth 91 = .ok (.aload_n 2, 1) := by decide +kernel
theorem dX6_worth_92 : decode cX6_worth 92 = .ok (.iload_n 3, 1) := by decide +kernel
theorem dX6_worth_93 : decode cX6_worth 93 = .ok (.iconst 2, 1) := by decide +kernel
theorem dX6_worth_94 : decode cX6_worth 94 = .ok (.isub, 1) := by decide +kernel
theorem dX6_worth_95 : decode cX6_worth 95 = .ok (.iaload, 1) := by decide +kernel
theorem dX6_worth_96 : decode cX6_worth 96 = .ok (.ireturn, 1) := by decide +kernel
theorem dX6_worth_97 : decode cX6_worth 97 = .ok (.iconst 0, 1) := by decide +kernel
theorem dX6_worth_98 : decode cX6_worth 98 = .ok (.istore_n 3, 1) := by decide +kernel
theorem dX6_worth_99 : decode cX6_worth 99 = .ok (.goto 59, 3) := by decide +kernel
theorem dX6_worth_102 : decode cX6_worth 102 = .ok (.iload 5, 2) := by decide +kernel
theorem dX6_worth_104 : decode cX6_worth 104 = .ok (.sipush (-260), 3) := by decide +kernel
theorem dX6_worth_107 : decode cX6_worth 107 = .ok (.if_icmp .ne 22, 3) := by decide +kernel
theorem dX6_worth_110 : decode cX6_worth 110 = .ok (.iload_n 3, 1) := by decide +kernel
theorem dX6_worth_111 : decode cX6_worth 111 = .ok (.ifCond .le 47, 3) := by decide +kernel
theorem dX6_worth_114 : decode cX6_worth 114 = .ok (.aload_n 2, 1) := by decide +kernel
theorem dX6_worth_115 : decode cX6_worth 115 = .ok (.iload_n 3, 1) := by decide +kernel
theorem dX6_worth_116 : decode cX6_worth 116 = .ok (.iconst 1, 1) := by decide +kernel
theorem dX6_worth_117 : decode cX6_worth 117 = .ok (.isub, 1) := by decide +kernel
theorem dX6_worth_118 : decode cX6_worth 118 = .ok (.iconst 1, 1) := by decide +kernel
theorem dX6_worth_119 : decode cX6_worth 119 = .ok (.aload_n 2, 1) := by decide +kernel
theorem dX6_worth_120 : decode cX6_worth 120 = .ok (.iload_n 3, 1) := by decide +kernel
theorem dX6_worth_121 : decode cX6_worth 121 = .ok (.iconst 1, 1) := by decide +kernel
theorem dX6_worth_122 : decode cX6_worth 122 = .ok (.isub, 1) := by decide +kernel
theorem dX6_worth_123 : decode cX6_worth 123 = .ok (.iaload, 1) := by decide +kernel
theorem dX6_worth_124 : decode cX6_worth 124 = .ok (.isub, 1) := by decide +kernel
theorem dX6_worth_125 : decode cX6_worth 125 = .ok (.iastore, 1) := by decide +kernel
theorem dX6_worth_126 : decode cX6_worth 126 = .ok (.goto 32, 3) := by decide +kernel
theorem dX6_worth_129 : decode cX6_worth 129 = .ok (.iload_n 3, 1) := by decide +kernel
theorem dX6_worth_130 : decode cX6_worth 130 = .ok (.iconst 1, 1) := by decide +kernel
theorem dX6_worth_131 : decode cX6_worth 131 = .ok (.if_icmp .le 27, 3) := by decide +kernel
theorem dX6_worth_134 : decode cX6_worth 134 = .ok (.aload_n 2, 1) := by decide +kernel
theorem dX6_worth_135 : decode cX6_worth 135 = .ok (.iload_n 3, 1) := by decide +kernel
theorem dX6_worth_136 : decode cX6_worth 136 = .ok (.iconst 2, 1) := by decide +kernel
theorem dX6_worth_137 : decode cX6_worth 137 = .ok (.isub, 1) := by decide +kernel
theorem dX6_worth_138 : decode cX6_worth 138 = .ok (.iload 5, 2) := by decide +kernel
theorem dX6_worth_140 : decode cX6_worth 140 = .ok (.ineg, 1) := by decide +kernel
theorem dX6_worth_141 : decode cX6_worth 141 = .ok (.aload_n 2, 1) := by decide +kernel
theorem dX6_worth_142 : decode cX6_worth 142 = .ok (.iload_n 3, 1) := by decide +kernel
theorem dX6_worth_143 : decode cX6_worth 143 = .ok (.iconst 2, 1) := by decide +kernel
theorem dX6_worth_144 : decode cX6_worth 144 = .ok (.isub, 1) := by decide +kernel
theorem dX6_worth_145 : decode cX6_worth 145 = .ok (.iaload, 1) := by decide +kernel
theorem dX6_worth_146 : decode cX6_worth 146 = .ok (.aload_n 2, 1) := by decide +kernel
theorem dX6_worth_147 : decode cX6_worth 147 = .ok (.iload_n 3, 1) := by decide +kernel
theorem dX6_worth_148 : decode cX6_worth 148 = .ok (.iconst 1, 1) := by decide +kernel
theorem dX6_worth_149 : decode cX6_worth 149 = .ok (.isub, 1) := by decide +kernel
theorem dX6_worth_150 : decode cX6_worth 150 = .ok (.iaload, 1) := by decide +kernel
theorem dX6_worth_151 : decode cX6_worth 151 = .ok (.invokestatic 32, 3) := by decide +kernel
theorem dX6_worth_154 : decode cX6_worth 154 = .ok (.iastore, 1) := by decide +kernel
theorem dX6_worth_155 : decode cX6_worth 155 = .ok (.iinc 3 (-1), 3) := by decide +kernel
theorem dX6_worth_158 : decode cX6_worth 158 = .ok (.iinc 4 1, 3) := by decide +kernel
theorem dX6_worth_161 : decode cX6_worth 161 = .ok (.goto (-156), 3) := by decide +kernel
theorem dX6_worth_164 : decode cX6_worth 164 = .ok (.iconst 0, 1) := by decide +kernel
theorem dX6_worth_165 : decode cX6_worth 165 = .ok (.ireturn, 1) := by decide +kernel
theorem dX6_valueOf_0 : decode cX6_valueOf 0 = .ok (.iload_n 0, 1) := by decide +kernel
theorem dX6_valueOf_1 : decode cX6_valueOf 1 = .ok (.sipush 10000, 3) := by decide +kernel
theorem dX6_valueOf_4 : decode cX6_valueOf 4 = .ok (.if_icmp .ge 5, 3) := by decide +kernel
theorem dX6_valueOf_7 : decode cX6_valueOf 7 = .ok (.iload_n 0, 1) := by decide +kernel
theorem dX6_valueOf_8 : decode cX6_valueOf 8 = .ok (.ireturn, 1) := by decide +kernel
theorem dX6_valueOf_9 : decode cX6_valueOf 9 = .ok (.iload_n 0, 1) := by decide +kernel
theorem dX6_valueOf_10 : decode cX6_valueOf 10 = .ok (.sipush 10000, 3) := by decide +kernel
theorem dX6_valueOf_13 : decode cX6_valueOf 13 = .ok (.isub, 1) := by decide +kernel
theorem dX6_valueOf_14 : decode cX6_valueOf 14 = .ok (.istore_n 2, 1) := by decide +kernel
theorem dX6_valueOf_15 : decode cX6_valueOf 15 = .ok (.iload_n 2, 1) := by decide +kernel
theorem dX6_valueOf_16 : decode cX6_valueOf 16 = .ok (.bipush 10, 2) := by decide +kernel
theorem dX6_valueOf_18 : decode cX6_valueOf 18 = .ok (.if_icmp .ge 9, 3) := by decide +kernel
theorem dX6_valueOf_21 : decode cX6_valueOf 21 = .ok (.aload_n 1, 1) := by decide +kernel
theorem dX6_valueOf_22 : decode cX6_valueOf 22 = .ok (.iload_n 2, 1) := by decide +kernel
theorem dX6_valueOf_23 : decode cX6_valueOf 23 = .ok (.iaload, 1) := by decide +kernel
theorem dX6_valueOf_24 : decode cX6_valueOf 24 = .ok (.goto 4, 3) := by decide +kernel
theorem dX6_valueOf_27 : decode cX6_valueOf 27 = .ok (.iconst 0, 1) := by decide +kernel
theorem dX6_valueOf_28 : decode cX6_valueOf 28 = .ok (.ireturn, 1) := by decide +kernel
theorem dX6_apply_0 : decode cX6_apply 0 = .ok (.iload_n 0, 1) := by decide +kernel
theorem dX6_apply_1 : decode cX6_apply 1 = .ok (.lookupswitch 136 #[(42, 83), (43, 75), (45, 79), (47, 87), (60, 99), (61, 110), (62, 121), (259, 132)], 75) := by decide +kernel
theorem dX6_apply_76 : decode cX6_apply 76 = .ok (.iload_n 1, 1) := by decide +kernel
theorem dX6_apply_77 : decode cX6_apply 77 = .ok (.iload_n 2, 1) := by decide +kernel
theorem dX6_apply_78 : decode cX6_apply 78 = .ok (.iadd, 1) := by decide +kernel
theorem dX6_apply_79 : decode cX6_apply 79 = .ok (.ireturn, 1) := by decide +kernel
theorem dX6_apply_80 : decode cX6_apply 80 = .ok (.iload_n 1, 1) := by decide +kernel
theorem dX6_apply_81 : decode cX6_apply 81 = .ok (.iload_n 2, 1) := by decide +kernel
theorem dX6_apply_82 : decode cX6_apply 82 = .ok (.isub, 1) := by decide +kernel
theorem dX6_apply_83 : decode cX6_apply 83 = .ok (.ireturn, 1) := by decide +kernel
theorem dX6_apply_84 : decode cX6_apply 84 = .ok (.iload_n 1, 1) := by decide +kernel
theorem dX6_apply_85 : decode cX6_apply 85 = .ok (.iload_n 2, 1) := by decide +kernel
theorem dX6_apply_86 : decode cX6_apply 86 = .ok (.imul, 1) := by decide +kernel
theorem dX6_apply_87 : decode cX6_apply 87 = .ok (.ireturn, 1) := by decide +kernel
theorem dX6_apply_88 : decode cX6_apply 88 = .ok (.iload_n 2, 1) := by decide +kernel
theorem dX6_apply_89 : decode cX6_apply 89 = .ok (.ifCond .ne 7, 3) := by decide +kernel
theorem dX6_apply_92 : decode cX6_apply 92 = .ok (.iconst 0, 1) := by decide +kernel
theorem dX6_apply_93 : decode cX6_apply 93 = .ok (.goto 6, 3) := by decide +kernel
theorem dX6_apply_96 : decode cX6_apply 96 = .ok (.iload_n 1, 1) := by decide +kernel
theorem dX6_apply_97 : decode cX6_apply 97 = .ok (.iload_n 2, 1) := by decide +kernel
theorem dX6_apply_98 : decode cX6_apply 98 = .ok (.idiv, 1) := by decide +kernel
theorem dX6_apply_99 : decode cX6_apply 99 = .ok (.ireturn, 1) := by decide +kernel
theorem dX6_apply_100 : decode cX6_apply 100 = .ok (.iload_n 1, 1) := by decide +kernel
theorem dX6_apply_101 : decode cX6_apply 101 = .ok (.iload_n 2, 1) := by decide +kernel
theorem dX6_apply_102 : decode cX6_apply 102 = .ok (.if_icmp .ge 7, 3) := by decide +kernel
theorem dX6_apply_105 : decode cX6_apply 105 = .ok (.iconst 1, 1) := by decide +kernel
theorem dX6_apply_106 : decode cX6_apply 106 = .ok (.goto 4, 3) := by decide +kernel
theorem dX6_apply_109 : decode cX6_apply 109 = .ok (.iconst 0, 1) := by decide +kernel
theorem dX6_apply_110 : decode cX6_apply 110 = .ok (.ireturn, 1) := by decide +kernel
theorem dX6_apply_111 : decode cX6_apply 111 = .ok (.iload_n 1, 1) := by decide +kernel
theorem dX6_apply_112 : decode cX6_apply 112 = .ok (.iload_n 2, 1) := by decide +kernel
theorem dX6_apply_113 : decode cX6_apply 113 = .ok (.if_icmp .ne 7, 3) := by decide +kernel
theorem dX6_apply_116 : decode cX6_apply 116 = .ok (.iconst 1, 1) := by decide +kernel
theorem dX6_apply_117 : decode cX6_apply 117 = .ok (.goto 4, 3) := by decide +kernel
theorem dX6_apply_120 : decode cX6_apply 120 = .ok (.iconst 0, 1) := by decide +kernel
theorem dX6_apply_121 : decode cX6_apply 121 = .ok (.ireturn, 1) := by decide +kernel
theorem dX6_apply_122 : decode cX6_apply 122 = .ok (.iload_n 1, 1) := by decide +kernel
theorem dX6_apply_123 : decode cX6_apply 123 = .ok (.iload_n 2, 1) := by decide +kernel
theorem dX6_apply_124 : decode cX6_apply 124 = .ok (.if_icmp .le 7, 3) := by decide +kernel
theorem dX6_apply_127 : decode cX6_apply 127 = .ok (.iconst 1, 1) := by decide +kernel
theorem dX6_apply_128 : decode cX6_apply 128 = .ok (.goto 4, 3) := by decide +kernel
theorem dX6_apply_131 : decode cX6_apply 131 = .ok (.iconst 0, 1) := by decide +kernel
theorem dX6_apply_132 : decode cX6_apply 132 = .ok (.ireturn, 1) := by decide +kernel
theorem dX6_apply_133 : decode cX6_apply 133 = .ok (.iload_n 1, 1) := by decide +kernel
theorem dX6_apply_134 : decode cX6_apply 134 = .ok (.iload_n 2, 1) := by decide +kernel
theorem dX6_apply_135 : decode cX6_apply 135 = .ok (.iand, 1) := by decide +kernel
theorem dX6_apply_136 : decode cX6_apply 136 = .ok (.ireturn, 1) := by decide +kernel
theorem dX6_apply_137 : decode cX6_apply 137 = .ok (.iload_n 1, 1) := by decide +kernel
theorem dX6_apply_138 : decode cX6_apply 138 = .ok (.iload_n 2, 1) := by decide +kernel
theorem dX6_apply_139 : decode cX6_apply 139 = .ok (.ior, 1) := by decide +kernel
theorem dX6_apply_140 : decode cX6_apply 140 = .ok (.ireturn, 1) := by decide +kernel
theorem dX7_init_0 : decode cX7_init 0 = .ok (.aload_n 0, 1) := by decide +kernel
theorem dX7_init_1 : decode cX7_init 1 = .ok (.invokespecial 3, 3) := by decide +kernel
theorem dX7_init_4 : decode cX7_init 4 = .ok (.aload_n 0, 1) := by decide +kernel
theorem dX7_init_5 : decode cX7_init 5 = .ok (.sipush 400, 3) := by decide +kernel
theorem dX7_init_8 : decode cX7_init 8 = .ok (.newarray .int, 2) := by decide +kernel
theorem dX7_init_10 : decode cX7_init 10 = .ok (.putfield 9, 3) := by decide +kernel
theorem dX7_init_13 : decode cX7_init 13 = .ok (.aload_n 0, 1) := by decide +kernel
theorem dX7_init_14 : decode cX7_init 14 = .ok (.iconst (-1), 1) := by decide +kernel
theorem dX7_init_15 : decode cX7_init 15 = .ok (.putfield 15, 3) := by decide +kernel
theorem dX7_init_18 : decode cX7_init 18 = .ok (.aload_n 0, 1) := by decide +kernel
theorem dX7_init_19 : decode cX7_init 19 = .ok (.bipush 64, 2) := by decide +kernel
theorem dX7_init_21 : decode cX7_init 21 = .ok (.newarray .int, 2) := by decide +kernel
theorem dX7_init_23 : decode cX7_init 23 = .ok (.putfield 19, 3) := by decide +kernel
theorem dX7_init_26 : decode cX7_init 26 = .ok (.aload_n 0, 1) := by decide +kernel
theorem dX7_init_27 : decode cX7_init 27 = .ok (.aload_n 1, 1) := by decide +kernel
theorem dX7_init_28 : decode cX7_init 28 = .ok (.putfield 22, 3) := by decide +kernel
theorem dX7_init_31 : decode cX7_init 31 = .ok (.return_, 1) := by decide +kernel
theorem dX7_read_0 : decode cX7_read 0 = .ok (.aload_n 0, 1) := by decide +kernel
theorem dX7_read_1 : decode cX7_read 1 = .ok (.invokevirtual 26, 3) := by decide +kernel
theorem dX7_read_4 : decode cX7_read 4 = .ok (.iconst 0, 1) := by decide +kernel
theorem dX7_read_5 : decode cX7_read 5 = .ok (.istore_n 1, 1) := by decide +kernel
theorem dX7_read_6 : decode cX7_read 6 = .ok (.iload_n 1, 1) := by decide +kernel
theorem dX7_read_7 : decode cX7_read 7 = .ok (.aload_n 0, 1) := by decide +kernel
theorem dX7_read_8 : decode cX7_read 8 = .ok (.getfield 22, 3) := by decide +kernel
theorem dX7_read_11 : decode cX7_read 11 = .ok (.getfield 29, 3) := by decide +kernel
theorem dX7_read_14 : decode cX7_read 14 = .ok (.if_icmp .gt 57, 3) := by decide +kernel
theorem dX7_read_17 : decode cX7_read 17 = .ok (.aload_n 0, 1) := by decide +kernel
theorem dX7_read_18 : decode cX7_read 18 = .ok (.invokevirtual 34, 3) := by decide +kernel
theorem dX7_read_21 : decode cX7_read 21 = .ok (.aload_n 0, 1) := by decide +kernel
theorem dX7_read_22 : decode cX7_read 22 = .ok (.getfield 37, 3) := by decide +kernel
theorem dX7_read_25 : decode cX7_read 25 = .ok (.sipush 301, 3) := by decide +kernel
theorem dX7_read_28 : decode cX7_read 28 = .ok (.if_icmp .ne 12, 3) := by decide +kernel
theorem dX7_read_31 : decode cX7_read 31 = .ok (.aload_n 0, 1) := by decide +kernel
theorem dX7_read_32 : decode cX7_read 32 = .ok (.getfield 40, 3) := by decide +kernel
theorem dX7_read_35 : decode cX7_read 35 = .ok (.ifCond .ne 5, 3) := by decide +kernel
theorem dX7_read_38 : decode cX7_read 38 = .ok (.iconst 1, 1) := by decide +kernel
theorem dX7_read_39 : decode cX7_read 39 = .ok (.ireturn, 1) := by decide +kernel
theorem dX7_read_40 : decode cX7_read 40 = .ok (.aload_n 0, 1) := by decide +kernel
theorem dX7_read_41 : decode cX7_read 41 = .ok (.aload_n 0, 1) := by decide +kernel
theorem dX7_read_42 : decode cX7_read 42 = .ok (.invokevirtual 43, 3) := by decide +kernel
theorem dX7_read_45 : decode cX7_read 45 = .ok (.putfield 47, 3) := by decide +kernel
theorem dX7_read_48 : decode cX7_read 48 = .ok (.aload_n 0, 1) := by decide +kernel
theorem dX7_read_49 : decode cX7_read 49 = .ok (.getfield 47, 3) := by decide +kernel
theorem dX7_read_52 : decode cX7_read 52 = .ok (.ifCond .eq 13, 3) := by decide +kernel
theorem dX7_read_55 : decode cX7_read 55 = .ok (.aload_n 0, 1) := by decide +kernel
theorem dX7_read_56 : decode cX7_read 56 = .ok (.aload_n 0, 1) := by decide +kernel
theorem dX7_read_57 : decode cX7_read 57 = .ok (.getfield 50, 3) := by decide +kernel
theorem dX7_read_60 : decode cX7_read 60 = .ok (.putfield 15, 3) := by decide +kernel
theorem dX7_read_63 : decode cX7_read 63 = .ok (.iconst 0, 1) := by decide +kernel
theorem dX7_read_64 : decode cX7_read 64 = .ok (.ireturn, 1) := by decide +kernel
theorem dX7_read_65 : decode cX7_read 65 = .ok (.iinc 1 1, 3) := by decide +kernel
theorem dX7_read_68 : decode cX7_read 68 = .ok (.goto (-62), 3) := by decide +kernel
theorem dX7_read_71 : decode cX7_read 71 = .ok (.iconst 0, 1) := by decide +kernel
theorem dX7_read_72 : decode cX7_read 72 = .ok (.ireturn, 1) := by decide +kernel
theorem dX7_begin_0 : decode cX7_begin 0 = .ok (.aload_n 0, 1) := by decide +kernel
theorem dX7_begin_1 : decode cX7_begin 1 = .ok (.iconst 0, 1) := by decide +kernel
theorem dX7_begin_2 : decode cX7_begin 2 = .ok (.putfield 53, 3) := by decide +kernel
theorem dX7_begin_5 : decode cX7_begin 5 = .ok (.aload_n 0, 1) := by decide +kernel
theorem dX7_begin_6 : decode cX7_begin 6 = .ok (.iconst 0, 1) := by decide +kernel
theorem dX7_begin_7 : decode cX7_begin 7 = .ok (.putfield 56, 3) := by decide +kernel
theorem dX7_begin_10 : decode cX7_begin 10 = .ok (.aload_n 0, 1) := by decide +kernel
theorem dX7_begin_11 : decode cX7_begin 11 = .ok (.iconst 0, 1) := by decide +kernel
theorem dX7_begin_12 : decode cX7_begin 12 = .ok (.putfield 47, 3) := by decide +kernel
theorem dX7_begin_15 : decode cX7_begin 15 = .ok (.aload_n 0, 1) := by decide +kernel
theorem dX7_begin_16 : decode cX7_begin 16 = .ok (.iconst (-1), 1) := by decide +kernel
theorem dX7_begin_17 : decode cX7_begin 17 = .ok (.putfield 15, 3) := by decide +kernel
theorem dX7_begin_20 : decode cX7_begin 20 = .ok (.aload_n 0, 1) := by decide +kernel
theorem dX7_begin_21 : decode cX7_begin 21 = .ok (.iconst 0, 1) := by decide +kernel
theorem dX7_begin_22 : decode cX7_begin 22 = .ok (.putfield 59, 3) := by decide +kernel
theorem dX7_begin_25 : decode cX7_begin 25 = .ok (.aload_n 0, 1) := by decide +kernel
theorem dX7_begin_26 : decode cX7_begin 26 = .ok (.iconst 0, 1) := by decide +kernel
theorem dX7_begin_27 : decode cX7_begin 27 = .ok (.putfield 40, 3) := by decide +kernel
theorem dX7_begin_30 : decode cX7_begin 30 = .ok (.aload_n 0, 1) := by decide +kernel
theorem dX7_begin_31 : decode cX7_begin 31 = .ok (.iconst 4, 1) := by decide +kernel
theorem dX7_begin_32 : decode cX7_begin 32 = .ok (.putfield 62, 3) := by decide +kernel
theorem dX7_begin_35 : decode cX7_begin 35 = .ok (.aload_n 0, 1) := by decide +kernel
theorem dX7_begin_36 : decode cX7_begin 36 = .ok (.iconst 0, 1) := by decide +kernel
theorem dX7_begin_37 : decode cX7_begin 37 = .ok (.putfield 65, 3) := by decide +kernel
theorem dX7_begin_40 : decode cX7_begin 40 = .ok (.aload_n 0, 1) := by decide +kernel
theorem dX7_begin_41 : decode cX7_begin 41 = .ok (.iconst 0, 1) := by decide +kernel
theorem dX7_begin_42 : decode cX7_begin 42 = .ok (.putfield 68, 3) := by decide +kernel
theorem dX7_begin_45 : decode cX7_begin 45 = .ok (.aload_n 0, 1) := by decide +kernel
theorem dX7_begin_46 : decode cX7_begin 46 = .ok (.iconst 0, 1) := by decide +kernel
theorem dX7_begin_47 : decode cX7_begin 47 = .ok (.putfield 71, 3) := by decide +kernel
theorem dX7_begin_50 : decode cX7_begin 50 = .ok (.return_, 1) := by decide +kernel
theorem dX7_readToken_0 : decode cX7_readToken 0 = .ok (.aload_n 0, 1) := by decide +kernel
theorem dX7_readToken_1 : decode cX7_readToken 1 = .ok (.invokevirtual 74, 3) := by decide +kernel
theorem dX7_readToken_4 : decode cX7_readToken 4 = .ok (.aload_n 0, 1) := by decide +kernel
theorem dX7_readToken_5 : decode cX7_readToken 5 = .ok (.aload_n 0, 1) := by decide +kernel
theorem dX7_readToken_6 : decode cX7_readToken 6 = .ok (.getfield 71, 3) := by decide +kernel
theorem dX7_readToken_9 : decode cX7_readToken 9 = .ok (.putfield 50, 3) := by decide +kernel
theorem dX7_readToken_12 : decode cX7_readToken 12 = .ok (.aload_n 0, 1) := by decide +kernel
theorem dX7_readToken_13 : decode cX7_readToken 13 = .ok (.getfield 71, 3) := by decide +kernel
theorem dX7_readToken_16 : decode cX7_readToken 16 = .ok (.aload_n 0, 1) := by decide +kernel
theorem dX7_readToken_17 : decode cX7_readToken 17 = .ok (.getfield 22, 3) := by decide +kernel
theorem dX7_readToken_20 : decode cX7_readToken 20 = .ok (.getfield 29, 3) := by decide +kernel
theorem dX7_readToken_23 : decode cX7_readToken 23 = .ok (.if_icmp .lt 13, 3) := by decide +kernel
theorem dX7_readToken_26 : decode cX7_readToken 26 = .ok (.aload_n 0, 1) := by decide +kernel
theorem dX7_readToken_27 : decode cX7_readToken 27 = .ok (.sipush 301, 3) := by decide +kernel
theorem dX7_readToken_30 : decode cX7_readToken 30 = .ok (.putfield 37, 3) := by decide +kernel
theorem dX7_readToken_33 : decode cX7_readToken 33 = .ok (.goto 92, 3) := by decide +kernel
theorem dX7_readToken_36 : decode cX7_readToken 36 = .ok (.aload_n 0, 1) := by decide +kernel
theorem dX7_readToken_37 : decode cX7_readToken 37 = .ok (.aload_n 0, 1) := by decide +kernel
theorem dX7_readToken_38 : decode cX7_readToken 38 = .ok (.getfield 71, 3) := by decide +kernel
theorem dX7_readToken_41 : decode cX7_readToken 41 = .ok (.invokevirtual 77, 3) := by decide +kernel
theorem dX7_readToken_44 : decode cX7_readToken 44 = .ok (.ifCond .eq 10, 3) := by decide +kernel
theorem dX7_readToken_47 : decode cX7_readToken 47 = .ok (.aload_n 0, 1) := by decide +kernel
theorem dX7_readToken_48 : decode cX7_readToken 48 = .ok (.invokevirtual 81, 3) := by decide +kernel
theorem dX7_readToken_51 : decode cX7_readToken 51 = .ok (.goto 74, 3) := by decide +kernel
theorem dX7_readToken_54 : decode cX7_readToken 54 = .ok (.aload_n 0, 1) := by decide +kernel
theorem dX7_readToken_55 : decode cX7_readToken 55 = .ok (.aload_n 0, 1) := by decide +kernel
theorem dX7_readToken_56 : decode cX7_readToken 56 = .ok (.getfield 71, 3) := by decide +kernel
theorem dX7_readToken_59 : decode cX7_readToken 59 = .ok (.invokevirtual 84, 3) := by decide +kernel
theorem dX7_readToken_62 : decode cX7_readToken 62 = .ok (.ifCond .eq 10, 3) := by decide +kernel
theorem dX7_readToken_65 : decode cX7_readToken 65 = .ok (.aload_n 0, 1) := by decide +kernel
theorem dX7_readToken_66 : decode cX7_readToken 66 = .ok (.invokevirtual 87, 3) := by decide +kernel
theorem dX7_readToken_69 : decode cX7_readToken 69 = .ok (.goto 56, 3) := by decide +kernel
theorem dX7_readToken_72 : decode cX7_readToken 72 = .ok (.aload_n 0, 1) := by decide +kernel
theorem dX7_readToken_73 : decode cX7_readToken 73 = .ok (.ldc 90, 2) := by decide +kernel
theorem dX7_readToken_75 : decode cX7_readToken 75 = .ok (.aload_n 0, 1) := by decide +kernel
theorem dX7_readToken_76 : decode cX7_readToken 76 = .ok (.getfield 22, 3) := by decide +kernel
theorem dX7_readToken_79 : decode cX7_readToken 79 = .ok (.getfield 92, 3) := by decide +kernel
theorem dX7_readToken_82 : decode cX7_readToken 82 = .ok (.aload_n 0, 1) := by decide +kernel
theorem dX7_readToken_83 : decode cX7_readToken 83 = .ok (.getfield 71, 3) := by decide +kernel
theorem dX7_readToken_86 : decode cX7_readToken 86 = .ok (.iaload, 1) := by decide +kernel
theorem dX7_readToken_87 : decode cX7_readToken 87 = .ok (.i2c, 1) := by decide +kernel
theorem dX7_readToken_88 : decode cX7_readToken 88 = .ok (.invokevirtual 95, 3) := by decide +kernel
theorem dX7_readToken_91 : decode cX7_readToken 91 = .ok (.ifCond .ge 9, 3) := by decide +kernel
theorem dX7_readToken_94 : decode cX7_readToken 94 = .ok (.sipush 302, 3) := by decide +kernel
theorem dX7_readToken_97 : decode cX7_readToken 97 = .ok (.goto 15, 3) := by decide +kernel
theorem dX7_readToken_100 : decode cX7_readToken 100 = .ok (.aload_n 0, 1) := by decide +kernel
theorem dX7_readToken_101 : decode cX7_readToken 101 = .ok (.getfield 22, 3) := by decide +kernel
theorem dX7_readToken_104 : decode cX7_readToken 104 = .ok (.getfield 92, 3) := by decide +kernel
theorem dX7_readToken_107 : decode cX7_readToken 107 = .ok (.aload_n 0, 1) := by decide +kernel
theorem dX7_readToken_108 : decode cX7_readToken 108 = .ok (.getfield 71, 3) := by decide +kernel
theorem dX7_readToken_111 : decode cX7_readToken 111 = .ok (.iaload, 1) := by decide +kernel
theorem dX7_readToken_112 : decode cX7_readToken 112 = .ok (.putfield 37, 3) := by decide +kernel
theorem dX7_readToken_115 : decode cX7_readToken 115 = .ok (.aload_n 0, 1) := by decide +kernel
theorem dX7_readToken_116 : decode cX7_readToken 116 = .ok (.dup, 1) := by decide +kernel
theorem dX7_readToken_117 : decode cX7_readToken 117 = .ok (.getfield 71, 3) := by decide +kernel
theorem dX7_readToken_120 : decode cX7_readToken 120 = .ok (.iconst 1, 1) := by decide +kernel
theorem dX7_readToken_121 : decode cX7_readToken 121 = .ok (.iadd, 1) := by decide +kernel
theorem dX7_readToken_122 : decode cX7_readToken 122 = .ok (.putfield 71, 3) := by decide +kernel
theorem dX7_readToken_125 : decode cX7_readToken 125 = .ok (.return_, 1) := by decide +kernel
theorem dX7_skipBlanks_0 : decode cX7_skipBlanks 0 = .ok (.aload_n 0, 1) := by decide +kernel
theorem dX7_skipBlanks_1 : decode cX7_skipBlanks 1 = .ok (.getfield 71, 3) := by decide +kernel
theorem dX7_skipBlanks_4 : decode cX7_skipBlanks 4 = .ok (.aload_n 0, 1) := by decide +kernel
theorem dX7_skipBlanks_5 : decode cX7_skipBlanks 5 = .ok (.getfield 22, 3) := by decide +kernel
theorem dX7_skipBlanks_8 : decode cX7_skipBlanks 8 = .ok (.getfield 29, 3) := by decide +kernel
theorem dX7_skipBlanks_11 : decode cX7_skipBlanks 11 = .ok (.if_icmp .ge 50, 3) := by decide +kernel
theorem dX7_skipBlanks_14 : decode cX7_skipBlanks 14 = .ok (.aload_n 0, 1) := by decide +kernel
theorem dX7_skipBlanks_15 : decode cX7_skipBlanks 15 = .ok (.getfield 22, 3) := by decide +kernel
theorem dX7_skipBlanks_18 : decode cX7_skipBlanks 18 = .ok (.getfield 92, 3) := by decide +kernel
theorem dX7_skipBlanks_21 : decode cX7_skipBlanks 21 = .ok (.aload_n 0, 1) := by decide +kernel
theorem dX7_skipBlanks_22 : decode cX7_skipBlanks 22 = .ok (.getfield 71, 3) := by decide +kernel
theorem dX7_skipBlanks_25 : decode cX7_skipBlanks 25 = .ok (.iaload, 1) := by decide +kernel
theorem dX7_skipBlanks_26 : decode cX7_skipBlanks 26 = .ok (.bipush 32, 2) := by decide +kernel
theorem dX7_skipBlanks_28 : decode cX7_skipBlanks 28 = .ok (.if_icmp .eq 20, 3) := by decide +kernel
theorem dX7_skipBlanks_31 : decode cX7_skipBlanks 31 = .ok (.aload_n 0, 1) := by decide +kernel
theorem dX7_skipBlanks_32 : decode cX7_skipBlanks 32 = .ok (.getfield 22, 3) := by decide +kernel
theorem dX7_skipBlanks_35 : decode cX7_skipBlanks 35 = .ok (.getfield 92, 3) := by decide +kernel
theorem dX7_skipBlanks_38 : decode cX7_skipBlanks 38 = .ok (.aload_n 0, 1) := by decide +kernel
theorem dX7_skipBlanks_39 : decode cX7_skipBlanks 39 = .ok (.getfield 71, 3) := by decide +kernel
theorem dX7_skipBlanks_42 : decode cX7_skipBlanks 42 = .ok (.iaload, 1) := by decide +kernel
theorem dX7_skipBlanks_43 : decode cX7_skipBlanks 43 = .ok (.bipush 10, 2) := by decide +kernel
theorem dX7_skipBlanks_45 : decode cX7_skipBlanks 45 = .ok (.if_icmp .ne 16, 3) := by decide +kernel
theorem dX7_skipBlanks_48 : decode cX7_skipBlanks 48 = .ok (.aload_n 0, 1) := by decide +kernel
theorem dX7_skipBlanks_49 : decode cX7_skipBlanks 49 = .ok (.dup, 1) := by decide +kernel
theorem dX7_skipBlanks_50 : decode cX7_skipBlanks 50 = .ok (.getfield 71, 3) := by decide +kernel
theorem dX7_skipBlanks_53 : decode cX7_skipBlanks 53 = .ok (.iconst 1, 1) := by decide +kernel
theorem dX7_skipBlanks_54 : decode cX7_skipBlanks 54 = .ok (.iadd, 1) := by decide +kernel
theorem dX7_skipBlanks_55 : decode cX7_skipBlanks 55 = .ok (.putfield 71, 3) := by decide +kernel
theorem dX7_skipBlanks_58 : decode cX7_skipBlanks 58 = .ok (.goto (-58), 3) := by decide +kernel
theorem dX7_skipBlanks_61 : decode cX7_skipBlanks 61 = .ok (.return_, 1) := by decide +kernel
theorem dX7_isLetter_0 : decode cX7_isLetter 0 = .ok (.aload_n 0, 1) := by decide +kernel
theorem dX7_isLetter_1 : decode cX7_isLetter 1 = .ok (.getfield 22, 3) := by decide +kernel
theorem dX7_isLetter_4 : decode cX7_isLetter 4 = .ok (.getfield 92, 3) := by decide +kernel
theorem dX7_isLetter_7 : decode cX7_isLetter 7 = .ok (.iload_n 1, 1) := by decide +kernel
theorem dX7_isLetter_8 : decode cX7_isLetter 8 = .ok (.iaload, 1) := by decide +kernel
theorem dX7_isLetter_9 : decode cX7_isLetter 9 = .ok (.bipush 97, 2) := by decide +kernel
theorem dX7_isLetter_11 : decode cX7_isLetter 11 = .ok (.bipush 122, 2) := by decide +kernel
theorem dX7_isLetter_13 : decode cX7_isLetter 13 = .ok (.invokestatic 101, 3) := by decide +kernel
theorem dX7_isLetter_16 : decode cX7_isLetter 16 = .ok (.ifCond .ne 22, 3) := by decide +kernel
theorem dX7_isLetter_19 : decode cX7_isLetter 19 = .ok (.aload_n 0, 1) := by decide +kernel
theorem dX7_isLetter_20 : decode cX7_isLetter 20 = .ok (.getfield 22, 3) := by decide +kernel
theorem dX7_isLetter_23 : decode cX7_isLetter 23 = .ok (.getfield 92, 3) := by decide +kernel
theorem dX7_isLetter_26 : decode cX7_isLetter 26 = .ok (.iload_n 1, 1) := by decide +kernel
theorem dX7_isLetter_27 : decode cX7_isLetter 27 = .ok (.iaload, 1) := by decide +kernel
theorem dX7_isLetter_28 : decode cX7_isLetter 28 = .ok (.bipush 65, 2) := by decide +kernel
theorem dX7_isLetter_30 : decode cX7_isLetter 30 = .ok (.bipush 90, 2) := by decide +kernel
theorem dX7_isLetter_32 : decode cX7_isLetter 32 = .ok (.invokestatic 101, 3) := by decide +kernel
theorem dX7_isLetter_35 : decode cX7_isLetter 35 = .ok (.ifCond .eq 7, 3) := by decide +kernel
theorem dX7_isLetter_38 : decode cX7_isLetter 38 = .ok (.iconst 1, 1) := by decide +kernel
theorem dX7_isLetter_39 : decode cX7_isLetter 39 = .ok (.goto 4, 3) := by decide +kernel
theorem dX7_isLetter_42 : decode cX7_isLetter 42 = .ok (.iconst 0, 1) := by decide +kernel
theorem dX7_isLetter_43 : decode cX7_isLetter 43 = .ok (.ireturn, 1) := by decide +kernel
theorem dX7_isDigit_0 : decode cX7_isDigit 0 = .ok (.aload_n 0, 1) := by decide +kernel
theorem dX7_isDigit_1 : decode cX7_isDigit 1 = .ok (.getfield 22, 3) := by decide +kernel
theorem dX7_isDigit_4 : decode cX7_isDigit 4 = .ok (.getfield 92, 3) := by decide +kernel
theorem dX7_isDigit_7 : decode cX7_isDigit 7 = .ok (.iload_n 1, 1) := by decide +kernel
theorem dX7_isDigit_8 : decode cX7_isDigit 8 = .ok (.iaload, 1) := by decide +kernel
theorem dX7_isDigit_9 : decode cX7_isDigit 9 = .ok (.bipush 48, 2) := by decide +kernel
theorem dX7_isDigit_11 : decode cX7_isDigit 11 = .ok (.bipush 57, 2) := by decide +kernel
theorem dX7_isDigit_13 : decode cX7_isDigit 13 = .ok (.invokestatic 101, 3) := by decide +kernel
theorem dX7_isDigit_16 : decode cX7_isDigit 16 = .ok (.ireturn, 1) := by decide +kernel
theorem dX7_readKeyword_0 : decode cX7_readKeyword 0 = .ok (.aload_n 0, 1) := by decide +kernel
theorem dX7_readKeyword_1 : decode cX7_readKeyword 1 = .ok (.getfield 71, 3) := by decide +kernel
theorem dX7_readKeyword_4 : decode cX7_readKeyword 4 = .ok (.aload_n 0, 1) := by decide +kernel
theorem dX7_readKeyword_5 : decode cX7_readKeyword 5 = .ok (.getfield 22, 3) := by decide +kernel
theorem dX7_readKeyword_8 : decode cX7_readKeyword 8 = .ok (.getfield 29, 3) := by decide +kernel
theorem dX7_readKeyword_11 : decode cX7_readKeyword 11 = .ok (.if_icmp .ge 27, 3) := by decide +kernel
theorem dX7_readKeyword_14 : decode cX7_readKeyword 14 = .ok (.aload_n 0, 1) := by decide +kernel
theorem dX7_readKeyword_15 : decode cX7_readKeyword 15 = .ok (.aload_n 0, 1) := by decide +kernel
theorem dX7_readKeyword_16 : decode cX7_readKeyword 16 = .ok (.getfield 71, 3) := by decide +kernel
theorem dX7_readKeyword_19 : decode cX7_readKeyword 19 = .ok (.invokevirtual 77, 3) := by decide +kernel
theorem dX7_readKeyword_22 : decode cX7_readKeyword 22 = .ok (.ifCond .eq 16, 3) := by decide +kernel
theorem dX7_readKeyword_25 : decode cX7_readKeyword 25 = .ok (.aload_n 0, 1) := by decide +kernel
theorem dX7_readKeyword_26 : decode cX7_readKeyword 26 = .ok (.dup, 1) := by decide +kernel
theorem dX7_readKeyword_27 : decode cX7_readKeyword 27 = .ok (.getfield 71, 3) := by decide +kernel
theorem dX7_readKeyword_30 : decode cX7_readKeyword 30 = .ok (.iconst 1, 1) := by decide +kernel
theorem dX7_readKeyword_31 : decode cX7_readKeyword 31 = .ok (.iadd, 1) := by decide +kernel
theorem dX7_readKeyword_32 : decode cX7_readKeyword 32 = .ok (.putfield 71, 3) := by decide +kernel
theorem dX7_readKeyword_35 : decode cX7_readKeyword 35 = .ok (.goto (-35), 3) := by decide +kernel
theorem dX7_readKeyword_38 : decode cX7_readKeyword 38 = .ok (.aload_n 0, 1) := by decide +kernel
theorem dX7_readKeyword_39 : decode cX7_readKeyword 39 = .ok (.sipush 302, 3) := by decide +kernel
theorem dX7_readKeyword_42 : decode cX7_readKeyword 42 = .ok (.putfield 37, 3) := by decide +kernel
theorem dX7_readKeyword_45 : decode cX7_readKeyword 45 = .ok (.aload_n 0, 1) := by decide +kernel
theorem dX7_readKeyword_46 : decode cX7_readKeyword 46 = .ok (.getfield 71, 3) := by decide +kernel
theorem dX7_readKeyword_49 : decode cX7_readKeyword 49 = .ok (.aload_n 0, 1) := by decide +kernel
theorem dX7_readKeyword_50 : decode cX7_readKeyword 50 = .ok (.getfield 50, 3) := by decide +kernel
theorem dX7_readKeyword_53 : decode cX7_readKeyword 53 = .ok (.isub, 1) := by decide +kernel
theorem dX7_readKeyword_54 : decode cX7_readKeyword 54 = .ok (.iconst 5, 1) := by decide +kernel
theorem dX7_readKeyword_55 : decode cX7_readKeyword 55 = .ok (.if_icmp .le 4, 3) := by decide +kernel
theorem dX7_readKeyword_58 : decode cX7_readKeyword 58 = .ok (.return_, 1) := by decide +kernel
theorem dX7_readKeyword_59 : decode cX7_readKeyword 59 = .ok (.iconst 0, 1) := by decide +kernel
theorem dX7_readKeyword_60 : decode cX7_readKeyword 60 = .ok (.istore_n 1, 1) := by decide +kernel
theorem dX7_readKeyword_61 : decode cX7_readKeyword 61 = .ok (.iload_n 1, 1) := by decide +kernel
theorem dX7_readKeyword_62 : decode cX7_readKeyword 62 = .ok (.bipush 15, 2) := by decide +kernel
theorem dX7_readKeyword_64 : decode cX7_readKeyword 64 = .ok (.if_icmp .ge 26, 3) := by decide +kernel
theorem dX7_readKeyword_67 : decode cX7_readKeyword 67 = .ok (.aload_n 0, 1) := by decide +kernel
theorem dX7_readKeyword_68 : decode cX7_readKeyword 68 = .ok (.iload_n 1, 1) := by decide +kernel
theorem dX7_readKeyword_69 : decode cX7_readKeyword 69 = .ok (.invokevirtual 105, 3) := by decide +kernel
theorem dX7_readKeyword_72 : decode cX7_readKeyword 72 = .ok (.ifCond .eq 12, 3) := by decide +kernel
theorem dX7_readKeyword_75 : decode cX7_readKeyword 75 = .ok (.aload_n 0, 1) := by decide +kernel
theorem dX7_readKeyword_76 : decode cX7_readKeyword 76 = .ok (.sipush 256, 3) := by decide +kernel
theorem dX7_readKeyword_79 : decode cX7_readKeyword 79 = .ok (.iload_n 1, 1) := by decide +kernel
theorem dX7_readKeyword_80 : decode cX7_readKeyword 80 = .ok (.iadd, 1) := by decide +kernel
theorem dX7_readKeyword_81 : decode cX7_readKeyword 81 = .ok (.putfield 37, 3) := by decide +kernel
theorem dX7_readKeyword_84 : decode cX7_readKeyword 84 = .ok (.iinc 1 1, 3) := by decide +kernel
theorem dX7_readKeyword_87 : decode cX7_readKeyword 87 = .ok (.goto (-26), 3) := by decide +kernel
theorem dX7_readKeyword_90 : decode cX7_readKeyword 90 = .ok (.return_, 1) := by decide +kernel
theorem dX7_isKeyword_0 : decode cX7_isKeyword 0 = .ok (.iconst 0, 1) := by decide +kernel
theorem dX7_isKeyword_1 : decode cX7_isKeyword 1 = .ok (.istore_n 2, 1) := by decide +kernel
theorem dX7_isKeyword_2 : decode cX7_isKeyword 2 = .ok (.iload_n 2, 1) := by decide +kernel
theorem dX7_isKeyword_3 : decode cX7_isKeyword 3 = .ok (.iconst 5, 1) := by decide +kernel
theorem dX7_isKeyword_4 : decode cX7_isKeyword 4 = .ok (.if_icmp .ge 58, 3) := by decide +kernel
theorem dX7_isKeyword_7 : decode cX7_isKeyword 7 = .ok (.aload_n 0, 1) := by decide +kernel
theorem dX7_isKeyword_8 : decode cX7_isKeyword 8 = .ok (.getfield 50, 3) := by decide +kernel
theorem dX7_isKeyword_11 : decode cX7_isKeyword 11 = .ok (.iload_n 2, 1) := by decide +kernel
theorem dX7_isKeyword_12 : decode cX7_isKeyword 12 = .ok (.iadd, 1) := by decide +kernel
theorem dX7_isKeyword_13 : decode cX7_isKeyword 13 = .ok (.aload_n 0, 1) := by decide +kernel
theorem dX7_isKeyword_14 : decode cX7_isKeyword 14 = .ok (.getfield 71, 3) := by decide +kernel
theorem dX7_isKeyword_17 : decode cX7_isKeyword 17 = .ok (.if_icmp .ge 20, 3) := by decide +kernel
theorem dX7_isKeyword_20 : decode cX7_isKeyword 20 = .ok (.aload_n 0, 1) := by decide +kernel
theorem dX7_isKeyword_21 : decode cX7_isKeyword 21 = .ok (.getfield 22, 3) := by decide +kernel
theorem dX7_isKeyword_24 : decode cX7_isKeyword 24 = .ok (.getfield 92, 3) := by decide +kernel
theorem dX7_isKeyword_27 : decode cX7_isKeyword 27 = .ok (.aload_n 0, 1) := by decide +kernel
theorem dX7_isKeyword_28 : decode cX7_isKeyword 28 = .ok (.getfield 50, 3) := by decide +kernel
theorem dX7_isKeyword_31 : decode cX7_isKeyword 31 = .ok (.iload_n 2, 1) := by decide +kernel
theorem dX7_isKeyword_32 : decode cX7_isKeyword 32 = .ok (.iadd, 1) := by decide +kernel
theorem dX7_isKeyword_33 : decode cX7_isKeyword 33 = .ok (.iaload, 1) := by decide +kernel
theorem dX7_isKeyword_34 : decode cX7_isKeyword 34 = .ok (.goto 5, 3) := by decide +kernel
theorem dX7_isKeyword_37 : decode cX7_isKeyword 37 = .ok (.bipush 32, 2) := by decide +kernel
theorem dX7_isKeyword_39 : decode cX7_isKeyword 39 = .ok (.istore_n 3, 1) := by decide +kernel
theorem dX7_isKeyword_40 : decode cX7_isKeyword 40 = .ok (.ldc 108, 2) := by decide +kernel
theorem dX7_isKeyword_42 : decode cX7_isKeyword 42 = .ok (.iload_n 1, 1) := by decide +kernel
theorem dX7_isKeyword_43 : decode cX7_isKeyword 43 = .ok (.iconst 5, 1) := by decide +kernel
theorem dX7_isKeyword_44 : decode cX7_isKeyword 44 = .ok (.imul, 1) := by decide +kernel
theorem dX7_isKeyword_45 : decode cX7_isKeyword 45 = .ok (.iload_n 2, 1) := by decide +kernel
theorem dX7_isKeyword_46 : decode cX7_isKeyword 46 = .ok (.iadd, 1) := by decide +kernel
theorem dX7_isKeyword_47 : decode cX7_isKeyword 47 = .ok (.invokevirtual 110, 3) := by decide +kernel
theorem dX7_isKeyword_50 : decode cX7_isKeyword 50 = .ok (.iload_n 3, 1) := by decide +kernel
theorem dX7_isKeyword_51 : decode cX7_isKeyword 51 = .ok (.if_icmp .eq 5, 3) := by decide +kernel
theorem dX7_isKeyword_54 : decode cX7_isKeyword 54 = .ok (.iconst 0, 1) := by decide +kernel
theorem dX7_isKeyword_55 : decode cX7_isKeyword 55 = .ok (.ireturn, 1) := by decide +kernel
theorem dX7_isKeyword_56 : decode cX7_isKeyword 56 = .ok (.iinc 2 1, 3) := by decide +kernel
theorem dX7_isKeyword_59 : decode cX7_isKeyword 59 = .ok (.goto (-57), 3) := by decide +kernel
theorem dX7_isKeyword_62 : decode cX7_isKeyword 62 = .ok (.iconst 1, 1) := by decide +kernel
theorem dX7_isKeyword_63 : decode cX7_isKeyword 63 = .ok (.ireturn, 1) := by decide +kernel
theorem dX7_readNumber_0 : decode cX7_readNumber 0 = .ok (.aload_n 0, 1) := by decide +kernel
theorem dX7_readNumber_1 : decode cX7_readNumber 1 = .ok (.iconst 0, 1) := by decide +kernel
theorem dX7_readNumber_2 : decode cX7_readNumber 2 = .ok (.putfield 114, 3) := by decide +kernel
theorem dX7_readNumber_5 : decode cX7_readNumber 5 = .ok (.aload_n 0, 1) := by decide +kernel
theorem dX7_readNumber_6 : decode cX7_readNumber 6 = .ok (.getfield 71, 3) := by decide +kernel
theorem dX7_readNumber_9 : decode cX7_readNumber 9 = .ok (.aload_n 0, 1) := by decide +kernel
theorem dX7_readNumber_10 : decode cX7_readNumber 10 = .ok (.getfield 22, 3) := by decide +kernel
theorem dX7_readNumber_13 : decode cX7_readNumber 13 = .ok (.getfield 29, 3) := by decide +kernel
theorem dX7_readNumber_16 : decode cX7_readNumber 16 = .ok (.if_icmp .ge 54, 3) := by decide +kernel
theorem dX7_readNumber_19 : decode cX7_readNumber 19 = .ok (.aload_n 0, 1) := by decide +kernel
theorem dX7_readNumber_20 : decode cX7_readNumber 20 = .ok (.aload_n 0, 1) := by decide +kernel
theorem dX7_readNumber_21 : decode cX7_readNumber 21 = .ok (.getfield 71, 3) := by decide +kernel
theorem dX7_readNumber_24 : decode cX7_readNumber 24 = .ok (.invokevirtual 84, 3) := by decide +kernel
theorem dX7_readNumber_27 : decode cX7_readNumber 27 = .ok (.ifCond .eq 43, 3) := by decide +kernel
theorem dX7_readNumber_30 : decode cX7_readNumber 30 = .ok (.aload_n 0, 1) := by decide +kernel
theorem dX7_readNumber_31 : decode cX7_readNumber 31 = .ok (.aload_n 0, 1) := by decide +kernel
theorem dX7_readNumber_32 : decode cX7_readNumber 32 = .ok (.getfield 114, 3) := by decide +kernel
theorem dX7_readNumber_35 : decode cX7_readNumber 35 = .ok (.bipush 10, 2) := by decide +kernel
theorem dX7_readNumber_37 : decode cX7_readNumber 37 = .ok (.imul, 1) := by decide +kernel
theorem dX7_readNumber_38 : decode cX7_readNumber 38 = .ok (.aload_n 0, 1) := by decide +kernel
theorem dX7_readNumber_39 : decode cX7_readNumber 39 = .ok (.getfield 22, 3) := by decide +kernel
theorem dX7_readNumber_42 : decode cX7_readNumber 42 = .ok (.getfield 92, 3) := by decide +kernel
theorem dX7_readNumber_45 : decode cX7_readNumber 45 = .ok (.aload_n 0, 1) := by decide +kernel
theorem dX7_readNumber_46 : decode cX7_readNumber 46 = .ok (.getfield 71, 3) := by decide +kernel
theorem dX7_readNumber_49 : decode cX7_readNumber 49 = .ok (.iaload, 1) := by decide +kernel
theorem dX7_readNumber_50 : decode cX7_readNumber 50 = .ok (.iadd, 1) := by decide +kernel
theorem dX7_readNumber_51 : decode cX7_readNumber 51 = .ok (.bipush 48, 2) := by decide +kernel
theorem dX7_readNumber_53 : decode cX7_readNumber 53 = .ok (.isub, 1) := by decide +kernel
theorem dX7_readNumber_54 : decode cX7_readNumber 54 = .ok (.putfield 114, 3) := by decide +kernel
theorem dX7_readNumber_57 : decode cX7_readNumber 57 = .ok (.aload_n 0, 1) := by decide +kernel
theorem dX7_readNumber_58 : decode cX7_readNumber 58 = .ok (.dup, 1) := by decide +kernel
theorem dX7_readNumber_59 : decode cX7_readNumber 59 = .ok (.getfield 71, 3) := by decide +kernel
theorem dX7_readNumber_62 : decode cX7_readNumber 62 = .ok (.iconst 1, 1) := by decide +kernel
theorem dX7_readNumber_63 : decode cX7_readNumber 63 = .ok (.iadd, 1) := by decide +kernel
theorem dX7_readNumber_64 : decode cX7_readNumber 64 = .ok (.putfield 71, 3) := by decide +kernel
theorem dX7_readNumber_67 : decode cX7_readNumber 67 = .ok (.goto (-62), 3) := by decide +kernel
theorem dX7_readNumber_70 : decode cX7_readNumber 70 = .ok (.aload_n 0, 1) := by decide +kernel
theorem dX7_readNumber_71 : decode cX7_readNumber 71 = .ok (.aload_n 0, 1) := by decide +kernel
theorem dX7_readNumber_72 : decode cX7_readNumber 72 = .ok (.getfield 71, 3) := by decide +kernel
theorem dX7_readNumber_75 : decode cX7_readNumber 75 = .ok (.aload_n 0, 1) := by decide +kernel
theorem dX7_readNumber_76 : decode cX7_readNumber 76 = .ok (.getfield 50, 3) := by decide +kernel
theorem dX7_readNumber_79 : decode cX7_readNumber 79 = .ok (.isub, 1) := by decide +kernel
theorem dX7_readNumber_80 : decode cX7_readNumber 80 = .ok (.iconst 4, 1) := by decide +kernel
theorem dX7_readNumber_81 : decode cX7_readNumber 81 = .ok (.if_icmp .le 9, 3) := by decide +kernel
theorem dX7_readNumber_84 : decode cX7_readNumber 84 = .ok (.sipush 302, 3) := by decide +kernel
theorem dX7_readNumber_87 : decode cX7_readNumber 87 = .ok (.goto 6, 3) := by decide +kernel
theorem dX7_readNumber_90 : decode cX7_readNumber 90 = .ok (.sipush 300, 3) := by decide +kernel
theorem dX7_readNumber_93 : decode cX7_readNumber 93 = .ok (.putfield 37, 3) := by decide +kernel
theorem dX7_readNumber_96 : decode cX7_readNumber 96 = .ok (.return_, 1) := by decide +kernel
theorem dX7_judge_0 : decode cX7_judge 0 = .ok (.aload_n 0, 1) := by decide +kernel
theorem dX7_judge_1 : decode cX7_judge 1 = .ok (.getfield 40, 3) := by decide +kernel
theorem dX7_judge_4 : decode cX7_judge 4 = .ok (.tableswitch 73 0 7 #[48, 53, 58, 63, 73, 73, 73, 68], 48) := by decide +kernel
theorem dX7_judge_52 : decode cX7_judge 52 = .ok (.aload_n 0, 1) := by decide +kernel
theorem dX7_judge_53 : decode cX7_judge 53 = .ok (.invokevirtual 117, 3) := by decide +kernel
theorem dX7_judge_56 : decode cX7_judge 56 = .ok (.ireturn, 1) := by decide +kernel
theorem dX7_judge_57 : decode cX7_judge 57 = .ok (.aload_n 0, 1) := by decide +kernel
theorem dX7_judge_58 : decode cX7_judge 58 = .ok (.invokevirtual 120, 3) := by decide +kernel
theorem dX7_judge_61 : decode cX7_judge 61 = .ok (.ireturn, 1) := by decide +kernel
theorem dX7_judge_62 : decode cX7_judge 62 = .ok (.aload_n 0, 1) := by decide +kernel
theorem dX7_judge_63 : decode cX7_judge 63 = .ok (.invokevirtual 123, 3) := by decide +kernel
theorem dX7_judge_66 : decode cX7_judge 66 = .ok (.ireturn, 1) := by decide +kernel
theorem dX7_judge_67 : decode cX7_judge 67 = .ok (.aload_n 0, 1) := by decide +kernel
theorem dX7_judge_68 : decode cX7_judge 68 = .ok (.invokevirtual 126, 3) := by decide +kernel
theorem dX7_judge_71 : decode cX7_judge 71 = .ok (.ireturn, 1) := by decide +kernel
theorem dX7_judge_72 : decode cX7_judge 72 = .ok (.aload_n 0, 1) := by decide +kernel
theorem dX7_judge_73 : decode cX7_judge 73 = .ok (.invokevirtual 129, 3) := by decide +kernel
theorem dX7_judge_76 : decode cX7_judge 76 = .ok (.ireturn, 1) := by decide +kernel
theorem dX7_judge_77 : decode cX7_judge 77 = .ok (.aload_n 0, 1) := by decide +kernel
theorem dX7_judge_78 : decode cX7_judge 78 = .ok (.getfield 37, 3) := by decide +kernel
theorem dX7_judge_81 : decode cX7_judge 81 = .ok (.bipush 43, 2) := by decide +kernel
theorem dX7_judge_83 : decode cX7_judge 83 = .ok (.if_icmp .eq 30, 3) := by decide +kernel
theorem dX7_judge_86 : decode cX7_judge 86 = .ok (.aload_n 0, 1) := by decide +kernel
theorem dX7_judge_87 : decode cX7_judge 87 = .ok (.getfield 37, 3) := by decide +kernel
theorem dX7_judge_90 : decode cX7_judge 90 = .ok (.bipush 45, 2) := by decide +kernel
theorem dX7_judge_92 : decode cX7_judge 92 = .ok (.if_icmp .eq 21, 3) := by decide +kernel
theorem dX7_judge_95 : decode cX7_judge 95 = .ok (.aload_n 0, 1) := by decide +kernel
theorem dX7_judge_96 : decode cX7_judge 96 = .ok (.getfield 37, 3) := by decide +kernel
theorem dX7_judge_99 : decode cX7_judge 99 = .ok (.bipush 42, 2) := by decide +kernel
theorem dX7_judge_101 : decode cX7_judge 101 = .ok (.if_icmp .eq 12, 3) := by decide +kernel
theorem dX7_judge_104 : decode cX7_judge 104 = .ok (.aload_n 0, 1) := by decide +kernel
theorem dX7_judge_105 : decode cX7_judge 105 = .ok (.getfield 37, 3) := by decide +kernel
theorem dX7_judge_108 : decode cX7_judge 108 = .ok (.bipush 47, 2) := by decide +kernel
theorem dX7_judge_110 : decode cX7_judge 110 = .ok (.if_icmp .ne 23, 3) := by decide +kernel
theorem dX7_judge_113 : decode cX7_judge 113 = .ok (.aload_n 0, 1) := by decide +kernel
theorem dX7_judge_114 : decode cX7_judge 114 = .ok (.aload_n 0, 1) := by decide +kernel
theorem dX7_judge_115 : decode cX7_judge 115 = .ok (.getfield 37, 3) := by decide +kernel
theorem dX7_judge_118 : decode cX7_judge 118 = .ok (.bipush 47, 2) := by decide +kernel
theorem dX7_judge_120 : decode cX7_judge 120 = .ok (.if_icmp .ne 7, 3) := by decide +kernel
theorem dX7_judge_123 : decode cX7_judge 123 = .ok (.iconst 3, 1) := by decide +kernel
theorem dX7_judge_124 : decode cX7_judge 124 = .ok (.goto 4, 3) := by decide +kernel
theorem dX7_judge_127 : decode cX7_judge 127 = .ok (.iconst 2, 1) := by decide +kernel
theorem dX7_judge_128 : decode cX7_judge 128 = .ok (.invokevirtual 132, 3) := by decide +kernel
theorem dX7_judge_131 : decode cX7_judge 131 = .ok (.iconst 0, 1) := by decide +kernel
theorem dX7_judge_132 : decode cX7_judge 132 = .ok (.ireturn, 1) := by decide +kernel
theorem dX7_judge_133 : decode cX7_judge 133 = .ok (.aload_n 0, 1) := by decide +kernel
theorem dX7_judge_134 : decode cX7_judge 134 = .ok (.getfield 40, 3) := by decide +kernel
theorem dX7_judge_137 : decode cX7_judge 137 = .ok (.lookupswitch 37 #[(4, 27), (5, 32)], 27) := by decide +kernel
theorem dX7_judge_164 : decode cX7_judge 164 = .ok (.aload_n 0, 1) := by decide +kernel
theorem dX7_judge_165 : decode cX7_judge 165 = .ok (.invokevirtual 136, 3) := by decide +kernel
theorem dX7_judge_168 : decode cX7_judge 168 = .ok (.ireturn, 1) := by decide +kernel
theorem dX7_judge_169 : decode cX7_judge 169 = .ok (.aload_n 0, 1) := by decide +kernel
theorem dX7_judge_170 : decode cX7_judge 170 = .ok (.invokevirtual 139, 3) := by decide +kernel
theorem dX7_judge_173 : decode cX7_judge 173 = .ok (.ireturn, 1) := by decide +kernel
theorem dX7_judge_174 : decode cX7_judge 174 = .ok (.aload_n 0, 1) := by decide +kernel
theorem dX7_judge_175 : decode cX7_judge 175 = .ok (.invokevirtual 129, 3) := by decide +kernel
theorem dX7_judge_178 : decode cX7_judge 178 = .ok (.ireturn, 1) := by decide +kernel
theorem dX7_judgeLine_0 : decode cX7_judgeLine 0 = .ok (.aload_n 0, 1) := by decide +kernel
theorem dX7_judgeLine_1 : decode cX7_judgeLine 1 = .ok (.getfield 37, 3) := by decide +kernel
theorem dX7_judgeLine_4 : decode cX7_judgeLine 4 = .ok (.sipush 256, 3) := by decide +kernel
