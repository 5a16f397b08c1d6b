theorem dX12_of_32 : decode cX12_of 32 = .ok (.if_icmp .ne 9, 3) := by decide +kernel
theorem dX12_of_35 : decode cX12_of 35 = .ok (.aload_n 0, 1) := by decide +kernel
theorem dX12_of_36 : decode cX12_of 36 = .ok (.iload_n 1, 1) := by decide +kernel
theorem dX12_of_37 : decode cX12_of 37 = .ok (.invokevirtual 232, 3) := by decide +kernel
theorem dX12_of_40 : decode cX12_of 40 = .ok (.ireturn, 1) := by decide +kernel
theorem dX12_of_41 : decode cX12_of 41 = .ok (.iload_n 2, 1) := by decide +kernel
theorem dX12_of_42 : decode cX12_of 42 = .ok (.bipush 10, 2) := by decide +kernel
theorem dX12_of_44 : decode cX12_of 44 = .ok (.bipush 9, 2) := by decide +kernel
theorem dX12_of_46 : decode cX12_of 46 = .ok (.aload_n 0, 1) := by decide +kernel
theorem dX12_of_47 : decode cX12_of 47 = .ok (.iload_n 1, 1) := by decide +kernel
theorem dX12_of_48 : decode cX12_of 48 = .ok (.bipush 9, 2) := by decide +kernel
theorem dX12_of_50 : decode cX12_of 50 = .ok (.invokevirtual 220, 3) := by decide +kernel
theorem dX12_of_53 : decode cX12_of 53 = .ok (.iadd, 1) := by decide +kernel
theorem dX12_of_54 : decode cX12_of 54 = .ok (.invokestatic 66, 3) := by decide +kernel
theorem dX12_of_57 : decode cX12_of 57 = .ok (.ifCond .eq 18, 3) := by decide +kernel
theorem dX12_of_60 : decode cX12_of 60 = .ok (.aload_n 0, 1) := by decide +kernel
theorem dX12_of_61 : decode cX12_of 61 = .ok (.iload_n 1, 1) := by decide +kernel
theorem dX12_of_62 : decode cX12_of 62 = .ok (.bipush 10, 2) := by decide +kernel
theorem dX12_of_64 : decode cX12_of 64 = .ok (.iload_n 2, 1) := by decide +kernel
theorem dX12_of_65 : decode cX12_of 65 = .ok (.iadd, 1) := by decide +kernel
theorem dX12_of_66 : decode cX12_of 66 = .ok (.bipush 10, 2) := by decide +kernel
theorem dX12_of_68 : decode cX12_of 68 = .ok (.isub, 1) := by decide +kernel
theorem dX12_of_69 : decode cX12_of 69 = .ok (.invokevirtual 220, 3) := by decide +kernel
theorem dX12_of_72 : decode cX12_of 72 = .ok (.goto 6, 3) := by decide +kernel
theorem dX12_of_75 : decode cX12_of 75 = .ok (.ldc_w 259, 3) := by decide +kernel
theorem dX12_of_78 : decode cX12_of 78 = .ok (.ireturn, 1) := by decide +kernel
theorem dX12_book_0 : decode cX12_book 0 = .ok (.aload_n 0, 1) := by decide +kernel
theorem dX12_book_1 : decode cX12_book 1 = .ok (.getfield 7, 3) := by decide +kernel
theorem dX12_book_4 : decode cX12_book 4 = .ok (.bipush 9, 2) := by decide +kernel
theorem dX12_book_6 : decode cX12_book 6 = .ok (.iaload, 1) := by decide +kernel
theorem dX12_book_7 : decode cX12_book 7 = .ok (.iconst (-1), 1) := by decide +kernel
theorem dX12_book_8 : decode cX12_book 8 = .ok (.if_icmp .ne 5, 3) := by decide +kernel
theorem dX12_book_11 : decode cX12_book 11 = .ok (.iconst (-1), 1) := by decide +kernel
theorem dX12_book_12 : decode cX12_book 12 = .ok (.ireturn, 1) := by decide +kernel
theorem dX12_book_13 : decode cX12_book 13 = .ok (.iload_n 1, 1) := by decide +kernel
theorem dX12_book_14 : decode cX12_book 14 = .ok (.bipush 100, 2) := by decide +kernel
theorem dX12_book_16 : decode cX12_book 16 = .ok (.if_icmp .ne 13, 3) := by decide +kernel
theorem dX12_book_19 : decode cX12_book 19 = .ok (.aload_n 0, 1) := by decide +kernel
theorem dX12_book_20 : decode cX12_book 20 = .ok (.getfield 7, 3) := by decide +kernel
theorem dX12_book_23 : decode cX12_book 23 = .ok (.bipush 10, 2) := by decide +kernel
theorem dX12_book_25 : decode cX12_book 25 = .ok (.iaload, 1) := by decide +kernel
theorem dX12_book_26 : decode cX12_book 26 = .ok (.goto 34, 3) := by decide +kernel
theorem dX12_book_29 : decode cX12_book 29 = .ok (.iload_n 1, 1) := by decide +kernel
theorem dX12_book_30 : decode cX12_book 30 = .ok (.iconst 0, 1) := by decide +kernel
theorem dX12_book_31 : decode cX12_book 31 = .ok (.aload_n 0, 1) := by decide +kernel
theorem dX12_book_32 : decode cX12_book 32 = .ok (.getfield 7, 3) := by decide +kernel
theorem dX12_book_35 : decode cX12_book 35 = .ok (.bipush 9, 2) := by decide +kernel
theorem dX12_book_37 : decode cX12_book 37 = .ok (.iaload, 1) := by decide +kernel
theorem dX12_book_38 : decode cX12_book 38 = .ok (.iconst 1, 1) := by decide +kernel
theorem dX12_book_39 : decode cX12_book 39 = .ok (.isub, 1) := by decide +kernel
theorem dX12_book_40 : decode cX12_book 40 = .ok (.invokestatic 66, 3) := by decide +kernel
theorem dX12_book_43 : decode cX12_book 43 = .ok (.ifCond .eq 16, 3) := by decide +kernel
theorem dX12_book_46 : decode cX12_book 46 = .ok (.aload_n 0, 1) := by decide +kernel
theorem dX12_book_47 : decode cX12_book 47 = .ok (.getfield 7, 3) := by decide +kernel
theorem dX12_book_50 : decode cX12_book 50 = .ok (.sipush 170, 3) := by decide +kernel
theorem dX12_book_53 : decode cX12_book 53 = .ok (.iload_n 1, 1) := by decide +kernel
theorem dX12_book_54 : decode cX12_book 54 = .ok (.iadd, 1) := by decide +kernel
theorem dX12_book_55 : decode cX12_book 55 = .ok (.iaload, 1) := by decide +kernel
theorem dX12_book_56 : decode cX12_book 56 = .ok (.goto 4, 3) := by decide +kernel
theorem dX12_book_59 : decode cX12_book 59 = .ok (.iconst (-1), 1) := by decide +kernel
theorem dX12_book_60 : decode cX12_book 60 = .ok (.ireturn, 1) := by decide +kernel
theorem dX12_bakes_0 : decode cX12_bakes 0 = .ok (.iconst 0, 1) := by decide +kernel
theorem dX12_bakes_1 : decode cX12_bakes 1 = .ok (.istore_n 1, 1) := by decide +kernel
theorem dX12_bakes_2 : decode cX12_bakes 2 = .ok (.aload_n 0, 1) := by decide +kernel
theorem dX12_bakes_3 : decode cX12_bakes 3 = .ok (.iconst 0, 1) := by decide +kernel
theorem dX12_bakes_4 : decode cX12_bakes 4 = .ok (.putfield 247, 3) := by decide +kernel
theorem dX12_bakes_7 : decode cX12_bakes 7 = .ok (.iconst 0, 1) := by decide +kernel
theorem dX12_bakes_8 : decode cX12_bakes 8 = .ok (.istore_n 2, 1) := by decide +kernel
theorem dX12_bakes_9 : decode cX12_bakes 9 = .ok (.iload_n 2, 1) := by decide +kernel
theorem dX12_bakes_10 : decode cX12_bakes 10 = .ok (.aload_n 0, 1) := by decide +kernel
theorem dX12_bakes_11 : decode cX12_bakes 11 = .ok (.getfield 7, 3) := by decide +kernel
theorem dX12_bakes_14 : decode cX12_bakes 14 = .ok (.iconst 4, 1) := by decide +kernel
theorem dX12_bakes_15 : decode cX12_bakes 15 = .ok (.iaload, 1) := by decide +kernel
theorem dX12_bakes_16 : decode cX12_bakes 16 = .ok (.if_icmp .ge 34, 3) := by decide +kernel
theorem dX12_bakes_19 : decode cX12_bakes 19 = .ok (.aload_n 0, 1) := by decide +kernel
theorem dX12_bakes_20 : decode cX12_bakes 20 = .ok (.getfield 47, 3) := by decide +kernel
theorem dX12_bakes_23 : decode cX12_bakes 23 = .ok (.iload_n 2, 1) := by decide +kernel
theorem dX12_bakes_24 : decode cX12_bakes 24 = .ok (.aload_n 0, 1) := by decide +kernel
theorem dX12_bakes_25 : decode cX12_bakes 25 = .ok (.aload_n 0, 1) := by decide +kernel
theorem dX12_bakes_26 : decode cX12_bakes 26 = .ok (.getfield 44, 3) := by decide +kernel
theorem dX12_bakes_29 : decode cX12_bakes 29 = .ok (.iload_n 2, 1) := by decide +kernel
theorem dX12_bakes_30 : decode cX12_bakes 30 = .ok (.iaload, 1) := by decide +kernel
theorem dX12_bakes_31 : decode cX12_bakes 31 = .ok (.invokevirtual 253, 3) := by decide +kernel
theorem dX12_bakes_34 : decode cX12_bakes 34 = .ok (.iastore, 1) := by decide +kernel
theorem dX12_bakes_35 : decode cX12_bakes 35 = .ok (.iload_n 1, 1) := by decide +kernel
theorem dX12_bakes_36 : decode cX12_bakes 36 = .ok (.aload_n 0, 1) := by decide +kernel
theorem dX12_bakes_37 : decode cX12_bakes 37 = .ok (.getfield 47, 3) := by decide +kernel
theorem dX12_bakes_40 : decode cX12_bakes 40 = .ok (.iload_n 2, 1) := by decide +kernel
theorem dX12_bakes_41 : decode cX12_bakes 41 = .ok (.iaload, 1) := by decide +kernel
theorem dX12_bakes_42 : decode cX12_bakes 42 = .ok (.iadd, 1) := by decide +kernel
theorem dX12_bakes_43 : decode cX12_bakes 43 = .ok (.istore_n 1, 1) := by decide +kernel
theorem dX12_bakes_44 : decode cX12_bakes 44 = .ok (.iinc 2 1, 3) := by decide +kernel
theorem dX12_bakes_47 : decode cX12_bakes 47 = .ok (.goto (-38), 3) := by decide +kernel
theorem dX12_bakes_50 : decode cX12_bakes 50 = .ok (.iload_n 1, 1) := by decide +kernel
theorem dX12_bakes_51 : decode cX12_bakes 51 = .ok (.ireturn, 1) := by decide +kernel
theorem dX12_gainAt_0 : decode cX12_gainAt 0 = .ok (.iload_n 1, 1) := by decide +kernel
theorem dX12_gainAt_1 : decode cX12_gainAt 1 = .ok (.ifCond .ne 7, 3) := by decide +kernel
theorem dX12_gainAt_4 : decode cX12_gainAt 4 = .ok (.iconst 0, 1) := by decide +kernel
theorem dX12_gainAt_5 : decode cX12_gainAt 5 = .ok (.goto 17, 3) := by decide +kernel
theorem dX12_gainAt_8 : decode cX12_gainAt 8 = .ok (.aload_n 0, 1) := by decide +kernel
theorem dX12_gainAt_9 : decode cX12_gainAt 9 = .ok (.aload_n 0, 1) := by decide +kernel
theorem dX12_gainAt_10 : decode cX12_gainAt 10 = .ok (.getfield 44, 3) := by decide +kernel
theorem dX12_gainAt_13 : decode cX12_gainAt 13 = .ok (.iload_n 1, 1) := by decide +kernel
theorem dX12_gainAt_14 : decode cX12_gainAt 14 = .ok (.iaload, 1) := by decide +kernel
theorem dX12_gainAt_15 : decode cX12_gainAt 15 = .ok (.invokevirtual 244, 3) := by decide +kernel
theorem dX12_gainAt_18 : decode cX12_gainAt 18 = .ok (.bipush 9, 2) := by decide +kernel
theorem dX12_gainAt_20 : decode cX12_gainAt 20 = .ok (.idiv, 1) := by decide +kernel
theorem dX12_gainAt_21 : decode cX12_gainAt 21 = .ok (.ineg, 1) := by decide +kernel
theorem dX12_gainAt_22 : decode cX12_gainAt 22 = .ok (.istore_n 2, 1) := by decide +kernel
theorem dX12_gainAt_23 : decode cX12_gainAt 23 = .ok (.iload_n 1, 1) := by decide +kernel
theorem dX12_gainAt_24 : decode cX12_gainAt 24 = .ok (.iconst 1, 1) := by decide +kernel
theorem dX12_gainAt_25 : decode cX12_gainAt 25 = .ok (.iadd, 1) := by decide +kernel
theorem dX12_gainAt_26 : decode cX12_gainAt 26 = .ok (.aload_n 0, 1) := by decide +kernel
theorem dX12_gainAt_27 : decode cX12_gainAt 27 = .ok (.getfield 7, 3) := by decide +kernel
theorem dX12_gainAt_30 : decode cX12_gainAt 30 = .ok (.iconst 4, 1) := by decide +kernel
theorem dX12_gainAt_31 : decode cX12_gainAt 31 = .ok (.iaload, 1) := by decide +kernel
theorem dX12_gainAt_32 : decode cX12_gainAt 32 = .ok (.if_icmp .ge 21, 3) := by decide +kernel
theorem dX12_gainAt_35 : decode cX12_gainAt 35 = .ok (.iload_n 2, 1) := by decide +kernel
theorem dX12_gainAt_36 : decode cX12_gainAt 36 = .ok (.aload_n 0, 1) := by decide +kernel
theorem dX12_gainAt_37 : decode cX12_gainAt 37 = .ok (.aload_n 0, 1) := by decide +kernel
theorem dX12_gainAt_38 : decode cX12_gainAt 38 = .ok (.getfield 44, 3) := by decide +kernel
theorem dX12_gainAt_41 : decode cX12_gainAt 41 = .ok (.iload_n 1, 1) := by decide +kernel
theorem dX12_gainAt_42 : decode cX12_gainAt 42 = .ok (.iconst 1, 1) := by decide +kernel
theorem dX12_gainAt_43 : decode cX12_gainAt 43 = .ok (.iadd, 1) := by decide +kernel
theorem dX12_gainAt_44 : decode cX12_gainAt 44 = .ok (.iaload, 1) := by decide +kernel
theorem dX12_gainAt_45 : decode cX12_gainAt 45 = .ok (.invokevirtual 244, 3) := by decide +kernel
theorem dX12_gainAt_48 : decode cX12_gainAt 48 = .ok (.bipush 9, 2) := by decide +kernel
theorem dX12_gainAt_50 : decode cX12_gainAt 50 = .ok (.idiv, 1) := by decide +kernel
theorem dX12_gainAt_51 : decode cX12_gainAt 51 = .ok (.iadd, 1) := by decide +kernel
theorem dX12_gainAt_52 : decode cX12_gainAt 52 = .ok (.istore_n 2, 1) := by decide +kernel
theorem dX12_gainAt_53 : decode cX12_gainAt 53 = .ok (.iload_n 2, 1) := by decide +kernel
theorem dX12_gainAt_54 : decode cX12_gainAt 54 = .ok (.aload_n 0, 1) := by decide +kernel
theorem dX12_gainAt_55 : decode cX12_gainAt 55 = .ok (.getfield 7, 3) := by decide +kernel
theorem dX12_gainAt_58 : decode cX12_gainAt 58 = .ok (.iconst 2, 1) := by decide +kernel
theorem dX12_gainAt_59 : decode cX12_gainAt 59 = .ok (.iaload, 1) := by decide +kernel
theorem dX12_gainAt_60 : decode cX12_gainAt 60 = .ok (.aload_n 0, 1) := by decide +kernel
theorem dX12_gainAt_61 : decode cX12_gainAt 61 = .ok (.getfield 47, 3) := by decide +kernel
theorem dX12_gainAt_64 : decode cX12_gainAt 64 = .ok (.iload_n 1, 1) := by decide +kernel
theorem dX12_gainAt_65 : decode cX12_gainAt 65 = .ok (.iaload, 1) := by decide +kernel
theorem dX12_gainAt_66 : decode cX12_gainAt 66 = .ok (.imul, 1) := by decide +kernel
theorem dX12_gainAt_67 : decode cX12_gainAt 67 = .ok (.isub, 1) := by decide +kernel
theorem dX12_gainAt_68 : decode cX12_gainAt 68 = .ok (.ireturn, 1) := by decide +kernel
theorem dX12_gain_0 : decode cX12_gain 0 = .ok (.aload_n 0, 1) := by decide +kernel
theorem dX12_gain_1 : decode cX12_gain 1 = .ok (.getfield 75, 3) := by decide +kernel
theorem dX12_gain_4 : decode cX12_gain 4 = .ok (.istore_n 2, 1) := by decide +kernel
theorem dX12_gain_5 : decode cX12_gain 5 = .ok (.aload_n 0, 1) := by decide +kernel
theorem dX12_gain_6 : decode cX12_gain 6 = .ok (.iconst 0, 1) := by decide +kernel
theorem dX12_gain_7 : decode cX12_gain 7 = .ok (.putfield 75, 3) := by decide +kernel
theorem dX12_gain_10 : decode cX12_gain 10 = .ok (.aload_n 0, 1) := by decide +kernel
theorem dX12_gain_11 : decode cX12_gain 11 = .ok (.iload_n 1, 1) := by decide +kernel
theorem dX12_gain_12 : decode cX12_gain 12 = .ok (.invokevirtual 216, 3) := by decide +kernel
theorem dX12_gain_15 : decode cX12_gain 15 = .ok (.ifCond .eq 13, 3) := by decide +kernel
theorem dX12_gain_18 : decode cX12_gain 18 = .ok (.iload_n 2, 1) := by decide +kernel
theorem dX12_gain_19 : decode cX12_gain 19 = .ok (.aload_n 0, 1) := by decide +kernel
theorem dX12_gain_20 : decode cX12_gain 20 = .ok (.getfield 7, 3) := by decide +kernel
theorem dX12_gain_23 : decode cX12_gain 23 = .ok (.iconst 4, 1) := by decide +kernel
theorem dX12_gain_24 : decode cX12_gain 24 = .ok (.iaload, 1) := by decide +kernel
theorem dX12_gain_25 : decode cX12_gain 25 = .ok (.if_icmp .eq 7, 3) := by decide +kernel
theorem dX12_gain_28 : decode cX12_gain 28 = .ok (.ldc_w 259, 3) := by decide +kernel
theorem dX12_gain_31 : decode cX12_gain 31 = .ok (.ireturn, 1) := by decide +kernel
theorem dX12_gain_32 : decode cX12_gain 32 = .ok (.iconst 0, 1) := by decide +kernel
theorem dX12_gain_33 : decode cX12_gain 33 = .ok (.istore_n 3, 1) := by decide +kernel
theorem dX12_gain_34 : decode cX12_gain 34 = .ok (.iconst (-1), 1) := by decide +kernel
theorem dX12_gain_35 : decode cX12_gain 35 = .ok (.istore 4, 2) := by decide +kernel
theorem dX12_gain_37 : decode cX12_gain 37 = .ok (.iconst 0, 1) := by decide +kernel
theorem dX12_gain_38 : decode cX12_gain 38 = .ok (.istore 5, 2) := by decide +kernel
theorem dX12_gain_40 : decode cX12_gain 40 = .ok (.iload 5, 2) := by decide +kernel
theorem dX12_gain_42 : decode cX12_gain 42 = .ok (.iload_n 2, 1) := by decide +kernel
theorem dX12_gain_43 : decode cX12_gain 43 = .ok (.if_icmp .ge 75, 3) := by decide +kernel
theorem dX12_gain_46 : decode cX12_gain 46 = .ok (.aload_n 0, 1) := by decide +kernel
theorem dX12_gain_47 : decode cX12_gain 47 = .ok (.getfield 25, 3) := by decide +kernel
theorem dX12_gain_50 : decode cX12_gain 50 = .ok (.iload 5, 2) := by decide +kernel
theorem dX12_gain_52 : decode cX12_gain 52 = .ok (.iaload, 1) := by decide +kernel
theorem dX12_gain_53 : decode cX12_gain 53 = .ok (.bipush 48, 2) := by decide +kernel
theorem dX12_gain_55 : decode cX12_gain 55 = .ok (.isub, 1) := by decide +kernel
theorem dX12_gain_56 : decode cX12_gain 56 = .ok (.istore 6, 2) := by decide +kernel
theorem dX12_gain_58 : decode cX12_gain 58 = .ok (.aload_n 0, 1) := by decide +kernel
theorem dX12_gain_59 : decode cX12_gain 59 = .ok (.iload 6, 2) := by decide +kernel
theorem dX12_gain_61 : decode cX12_gain 61 = .ok (.invokevirtual 216, 3) := by decide +kernel
theorem dX12_gain_64 : decode cX12_gain 64 = .ok (.ifCond .eq 13, 3) := by decide +kernel
theorem dX12_gain_67 : decode cX12_gain 67 = .ok (.iload_n 3, 1) := by decide +kernel
theorem dX12_gain_68 : decode cX12_gain 68 = .ok (.iload 6, 2) := by decide +kernel
theorem dX12_gain_70 : decode cX12_gain 70 = .ok (.ishr, 1) := by decide +kernel
theorem dX12_gain_71 : decode cX12_gain 71 = .ok (.iconst 1, 1) := by decide +kernel
theorem dX12_gain_72 : decode cX12_gain 72 = .ok (.iand, 1) := by decide +kernel
theorem dX12_gain_73 : decode cX12_gain 73 = .ok (.iconst 1, 1) := by decide +kernel
theorem dX12_gain_74 : decode cX12_gain 74 = .ok (.if_icmp .ne 7, 3) := by decide +kernel
theorem dX12_gain_77 : decode cX12_gain 77 = .ok (.ldc_w 259, 3) := by decide +kernel
theorem dX12_gain_80 : decode cX12_gain 80 = .ok (.ireturn, 1) := by decide +kernel
theorem dX12_gain_81 : decode cX12_gain 81 = .ok (.iload_n 3, 1) := by decide +kernel
theorem dX12_gain_82 : decode cX12_gain 82 = .ok (.iconst 1, 1) := by decide +kernel
theorem dX12_gain_83 : decode cX12_gain 83 = .ok (.iload 6, 2) := by decide +kernel
theorem dX12_gain_85 : decode cX12_gain 85 = .ok (.ishl, 1) := by decide +kernel
theorem dX12_gain_86 : decode cX12_gain 86 = .ok (.ior, 1) := by decide +kernel
theorem dX12_gain_87 : decode cX12_gain 87 = .ok (.istore_n 3, 1) := by decide +kernel
theorem dX12_gain_88 : decode cX12_gain 88 = .ok (.aload_n 0, 1) := by decide +kernel
theorem dX12_gain_89 : decode cX12_gain 89 = .ok (.getfield 44, 3) := by decide +kernel
theorem dX12_gain_92 : decode cX12_gain 92 = .ok (.iload 5, 2) := by decide +kernel
theorem dX12_gain_94 : decode cX12_gain 94 = .ok (.iload 6, 2) := by decide +kernel
theorem dX12_gain_96 : decode cX12_gain 96 = .ok (.iastore, 1) := by decide +kernel
theorem dX12_gain_97 : decode cX12_gain 97 = .ok (.iload 6, 2) := by decide +kernel
theorem dX12_gain_99 : decode cX12_gain 99 = .ok (.iload_n 1, 1) := by decide +kernel
theorem dX12_gain_100 : decode cX12_gain 100 = .ok (.if_icmp .ne 8, 3) := by decide +kernel
theorem dX12_gain_103 : decode cX12_gain 103 = .ok (.iload 5, 2) := by decide +kernel
theorem dX12_gain_105 : decode cX12_gain 105 = .ok (.goto 5, 3) := by decide +kernel
theorem dX12_gain_108 : decode cX12_gain 108 = .ok (.iload 4, 2) := by decide +kernel
theorem dX12_gain_110 : decode cX12_gain 110 = .ok (.istore 4, 2) := by decide +kernel
theorem dX12_gain_112 : decode cX12_gain 112 = .ok (.iinc 5 1, 3) := by decide +kernel
theorem dX12_gain_115 : decode cX12_gain 115 = .ok (.goto (-75), 3) := by decide +kernel
theorem dX12_gain_118 : decode cX12_gain 118 = .ok (.aload_n 0, 1) := by decide +kernel
theorem dX12_gain_119 : decode cX12_gain 119 = .ok (.invokevirtual 260, 3) := by decide +kernel
theorem dX12_gain_122 : decode cX12_gain 122 = .ok (.pop, 1) := by decide +kernel
theorem dX12_gain_123 : decode cX12_gain 123 = .ok (.aload_n 0, 1) := by decide +kernel
theorem dX12_gain_124 : decode cX12_gain 124 = .ok (.iload 4, 2) := by decide +kernel
theorem dX12_gain_126 : decode cX12_gain 126 = .ok (.invokevirtual 263, 3) := by decide +kernel
theorem dX12_gain_129 : decode cX12_gain 129 = .ok (.ireturn, 1) := by decide +kernel
theorem dX12_exchanges_0 : decode cX12_exchanges 0 = .ok (.aload_n 0, 1) := by decide +kernel
theorem dX12_exchanges_1 : decode cX12_exchanges 1 = .ok (.getfield 44, 3) := by decide +kernel
theorem dX12_exchanges_4 : decode cX12_exchanges 4 = .ok (.iload_n 1, 1) := by decide +kernel
theorem dX12_exchanges_5 : decode cX12_exchanges 5 = .ok (.iaload, 1) := by decide +kernel
theorem dX12_exchanges_6 : decode cX12_exchanges 6 = .ok (.istore_n 2, 1) := by decide +kernel
theorem dX12_exchanges_7 : decode cX12_exchanges 7 = .ok (.aload_n 0, 1) := by decide +kernel
theorem dX12_exchanges_8 : decode cX12_exchanges 8 = .ok (.getfield 44, 3) := by decide +kernel
theorem dX12_exchanges_11 : decode cX12_exchanges 11 = .ok (.iload_n 1, 1) := by decide +kernel
theorem dX12_exchanges_12 : decode cX12_exchanges 12 = .ok (.aload_n 0, 1) := by decide +kernel
theorem dX12_exchanges_13 : decode cX12_exchanges 13 = .ok (.getfield 44, 3) := by decide +kernel
theorem dX12_exchanges_16 : decode cX12_exchanges 16 = .ok (.iload_n 1, 1) := by decide +kernel
theorem dX12_exchanges_17 : decode cX12_exchanges 17 = .ok (.iconst 1, 1) := by decide +kernel
theorem dX12_exchanges_18 : decode cX12_exchanges 18 = .ok (.iadd, 1) := by decide +kernel
theorem dX12_exchanges_19 : decode cX12_exchanges 19 = .ok (.iaload, 1) := by decide +kernel
theorem dX12_exchanges_20 : decode cX12_exchanges 20 = .ok (.iastore, 1) := by decide +kernel
theorem dX12_exchanges_21 : decode cX12_exchanges 21 = .ok (.aload_n 0, 1) := by decide +kernel
theorem dX12_exchanges_22 : decode cX12_exchanges 22 = .ok (.getfield 44, 3) := by decide +kernel
theorem dX12_exchanges_25 : decode cX12_exchanges 25 = .ok (.iload_n 1, 1) := by decide +kernel
theorem dX12_exchanges_26 : decode cX12_exchanges 26 = .ok (.iconst 1, 1) := by decide +kernel
theorem dX12_exchanges_27 : decode cX12_exchanges 27 = .ok (.iadd, 1) := by decide +kernel
theorem dX12_exchanges_28 : decode cX12_exchanges 28 = .ok (.iload_n 2, 1) := by decide +kernel
theorem dX12_exchanges_29 : decode cX12_exchanges 29 = .ok (.iastore, 1) := by decide +kernel
theorem dX12_exchanges_30 : decode cX12_exchanges 30 = .ok (.return_, 1) := by decide +kernel
theorem dX12_wouldChange_0 : decode cX12_wouldChange 0 = .ok (.aload_n 0, 1) := by decide +kernel
theorem dX12_wouldChange_1 : decode cX12_wouldChange 1 = .ok (.invokevirtual 260, 3) := by decide +kernel
theorem dX12_wouldChange_4 : decode cX12_wouldChange 4 = .ok (.pop, 1) := by decide +kernel
theorem dX12_wouldChange_5 : decode cX12_wouldChange 5 = .ok (.aload_n 0, 1) := by decide +kernel
theorem dX12_wouldChange_6 : decode cX12_wouldChange 6 = .ok (.iload_n 1, 1) := by decide +kernel
theorem dX12_wouldChange_7 : decode cX12_wouldChange 7 = .ok (.invokevirtual 263, 3) := by decide +kernel
theorem dX12_wouldChange_10 : decode cX12_wouldChange 10 = .ok (.istore_n 2, 1) := by decide +kernel
theorem dX12_wouldChange_11 : decode cX12_wouldChange 11 = .ok (.aload_n 0, 1) := by decide +kernel
theorem dX12_wouldChange_12 : decode cX12_wouldChange 12 = .ok (.iload_n 1, 1) := by decide +kernel
theorem dX12_wouldChange_13 : decode cX12_wouldChange 13 = .ok (.iconst 1, 1) := by decide +kernel
theorem dX12_wouldChange_14 : decode cX12_wouldChange 14 = .ok (.iadd, 1) := by decide +kernel
theorem dX12_wouldChange_15 : decode cX12_wouldChange 15 = .ok (.invokevirtual 263, 3) := by decide +kernel
theorem dX12_wouldChange_18 : decode cX12_wouldChange 18 = .ok (.istore_n 3, 1) := by decide +kernel
theorem dX12_wouldChange_19 : decode cX12_wouldChange 19 = .ok (.aload_n 0, 1) := by decide +kernel
theorem dX12_wouldChange_20 : decode cX12_wouldChange 20 = .ok (.iload_n 1, 1) := by decide +kernel
theorem dX12_wouldChange_21 : decode cX12_wouldChange 21 = .ok (.invokevirtual 266, 3) := by decide +kernel
theorem dX12_wouldChange_24 : decode cX12_wouldChange 24 = .ok (.aload_n 0, 1) := by decide +kernel
theorem dX12_wouldChange_25 : decode cX12_wouldChange 25 = .ok (.invokevirtual 260, 3) := by decide +kernel
theorem dX12_wouldChange_28 : decode cX12_wouldChange 28 = .ok (.pop, 1) := by decide +kernel
theorem dX12_wouldChange_29 : decode cX12_wouldChange 29 = .ok (.aload_n 0, 1) := by decide +kernel
theorem dX12_wouldChange_30 : decode cX12_wouldChange 30 = .ok (.iload_n 1, 1) := by decide +kernel
theorem dX12_wouldChange_31 : decode cX12_wouldChange 31 = .ok (.iconst 1, 1) := by decide +kernel
theorem dX12_wouldChange_32 : decode cX12_wouldChange 32 = .ok (.iadd, 1) := by decide +kernel
theorem dX12_wouldChange_33 : decode cX12_wouldChange 33 = .ok (.invokevirtual 263, 3) := by decide +kernel
theorem dX12_wouldChange_36 : decode cX12_wouldChange 36 = .ok (.iload_n 2, 1) := by decide +kernel
theorem dX12_wouldChange_37 : decode cX12_wouldChange 37 = .ok (.if_icmp .le 16, 3) := by decide +kernel
theorem dX12_wouldChange_40 : decode cX12_wouldChange 40 = .ok (.aload_n 0, 1) := by decide +kernel
theorem dX12_wouldChange_41 : decode cX12_wouldChange 41 = .ok (.iload_n 1, 1) := by decide +kernel
theorem dX12_wouldChange_42 : decode cX12_wouldChange 42 = .ok (.invokevirtual 263, 3) := by decide +kernel
theorem dX12_wouldChange_45 : decode cX12_wouldChange 45 = .ok (.iload_n 3, 1) := by decide +kernel
theorem dX12_wouldChange_46 : decode cX12_wouldChange 46 = .ok (.if_icmp .le 7, 3) := by decide +kernel
theorem dX12_wouldChange_49 : decode cX12_wouldChange 49 = .ok (.iconst 1, 1) := by decide +kernel
theorem dX12_wouldChange_50 : decode cX12_wouldChange 50 = .ok (.goto 4, 3) := by decide +kernel
theorem dX12_wouldChange_53 : decode cX12_wouldChange 53 = .ok (.iconst 0, 1) := by decide +kernel
theorem dX12_wouldChange_54 : decode cX12_wouldChange 54 = .ok (.istore 4, 2) := by decide +kernel
theorem dX12_wouldChange_56 : decode cX12_wouldChange 56 = .ok (.aload_n 0, 1) := by decide +kernel
theorem dX12_wouldChange_57 : decode cX12_wouldChange 57 = .ok (.iload_n 1, 1) := by decide +kernel
theorem dX12_wouldChange_58 : decode cX12_wouldChange 58 = .ok (.invokevirtual 266, 3) := by decide +kernel
theorem dX12_wouldChange_61 : decode cX12_wouldChange 61 = .ok (.iload 4, 2) := by decide +kernel
theorem dX12_wouldChange_63 : decode cX12_wouldChange 63 = .ok (.ireturn, 1) := by decide +kernel
theorem dX12_firstChange_0 : decode cX12_firstChange 0 = .ok (.iconst 0, 1) := by decide +kernel
theorem dX12_firstChange_1 : decode cX12_firstChange 1 = .ok (.istore_n 1, 1) := by decide +kernel
theorem dX12_firstChange_2 : decode cX12_firstChange 2 = .ok (.iload_n 1, 1) := by decide +kernel
theorem dX12_firstChange_3 : decode cX12_firstChange 3 = .ok (.iconst 1, 1) := by decide +kernel
theorem dX12_firstChange_4 : decode cX12_firstChange 4 = .ok (.iadd, 1) := by decide +kernel
theorem dX12_firstChange_5 : decode cX12_firstChange 5 = .ok (.aload_n 0, 1) := by decide +kernel
theorem dX12_firstChange_6 : decode cX12_firstChange 6 = .ok (.getfield 7, 3) := by decide +kernel
theorem dX12_firstChange_9 : decode cX12_firstChange 9 = .ok (.iconst 4, 1) := by decide +kernel
theorem dX12_firstChange_10 : decode cX12_firstChange 10 = .ok (.iaload, 1) := by decide +kernel
theorem dX12_firstChange_11 : decode cX12_firstChange 11 = .ok (.if_icmp .ge 19, 3) := by decide +kernel
theorem dX12_firstChange_14 : decode cX12_firstChange 14 = .ok (.aload_n 0, 1) := by decide +kernel
theorem dX12_firstChange_15 : decode cX12_firstChange 15 = .ok (.iload_n 1, 1) := by decide +kernel
theorem dX12_firstChange_16 : decode cX12_firstChange 16 = .ok (.invokevirtual 270, 3) := by decide +kernel
theorem dX12_firstChange_19 : decode cX12_firstChange 19 = .ok (.ifCond .eq 5, 3) := by decide +kernel
theorem dX12_firstChange_22 : decode cX12_firstChange 22 = .ok (.iload_n 1, 1) := by decide +kernel
theorem dX12_firstChange_23 : decode cX12_firstChange 23 = .ok (.ireturn, 1) := by decide +kernel
theorem dX12_firstChange_24 : decode cX12_firstChange 24 = .ok (.iinc 1 1, 3) := by decide +kernel
theorem dX12_firstChange_27 : decode cX12_firstChange 27 = .ok (.goto (-25), 3) := by decide +kernel
theorem dX12_firstChange_30 : decode cX12_firstChange 30 = .ok (.iconst (-1), 1) := by decide +kernel
theorem dX12_firstChange_31 : decode cX12_firstChange 31 = .ok (.ireturn, 1) := by decide +kernel
theorem dX12_goesThrough_0 : decode cX12_goesThrough 0 = .ok (.aload_n 0, 1) := by decide +kernel
theorem dX12_goesThrough_1 : decode cX12_goesThrough 1 = .ok (.getfield 7, 3) := by decide +kernel
theorem dX12_goesThrough_4 : decode cX12_goesThrough 4 = .ok (.iconst 4, 1) := by decide +kernel
theorem dX12_goesThrough_5 : decode cX12_goesThrough 5 = .ok (.iaload, 1) := by decide +kernel
theorem dX12_goesThrough_6 : decode cX12_goesThrough 6 = .ok (.istore_n 3, 1) := by decide +kernel
theorem dX12_goesThrough_7 : decode cX12_goesThrough 7 = .ok (.iload_n 1, 1) := by decide +kernel
theorem dX12_goesThrough_8 : decode cX12_goesThrough 8 = .ok (.iload_n 3, 1) := by decide +kernel
theorem dX12_goesThrough_9 : decode cX12_goesThrough 9 = .ok (.if_icmp .ge 53, 3) := by decide +kernel
theorem dX12_goesThrough_12 : decode cX12_goesThrough 12 = .ok (.iconst 0, 1) := by decide +kernel
theorem dX12_goesThrough_13 : decode cX12_goesThrough 13 = .ok (.istore 4, 2) := by decide +kernel
theorem dX12_goesThrough_15 : decode cX12_goesThrough 15 = .ok (.iload 4, 2) := by decide +kernel
theorem dX12_goesThrough_17 : decode cX12_goesThrough 17 = .ok (.iload_n 3, 1) := by decide +kernel
theorem dX12_goesThrough_18 : decode cX12_goesThrough 18 = .ok (.if_icmp .ge 43, 3) := by decide +kernel
theorem dX12_goesThrough_21 : decode cX12_goesThrough 21 = .ok (.iload_n 2, 1) := by decide +kernel
theorem dX12_goesThrough_22 : decode cX12_goesThrough 22 = .ok (.iload 4, 2) := by decide +kernel
theorem dX12_goesThrough_24 : decode cX12_goesThrough 24 = .ok (.ishr, 1) := by decide +kernel
theorem dX12_goesThrough_25 : decode cX12_goesThrough 25 = .ok (.iconst 1, 1) := by decide +kernel
theorem dX12_goesThrough_26 : decode cX12_goesThrough 26 = .ok (.iand, 1) := by decide +kernel
theorem dX12_goesThrough_27 : decode cX12_goesThrough 27 = .ok (.iconst 1, 1) := by decide +kernel
theorem dX12_goesThrough_28 : decode cX12_goesThrough 28 = .ok (.if_icmp .ne 6, 3) := by decide +kernel
theorem dX12_goesThrough_31 : decode cX12_goesThrough 31 = .ok (.goto 24, 3) := by decide +kernel
theorem dX12_goesThrough_34 : decode cX12_goesThrough 34 = .ok (.aload_n 0, 1) := by decide +kernel
theorem dX12_goesThrough_35 : decode cX12_goesThrough 35 = .ok (.getfield 44, 3) := by decide +kernel
theorem dX12_goesThrough_38 : decode cX12_goesThrough 38 = .ok (.iload_n 1, 1) := by decide +kernel
theorem dX12_goesThrough_39 : decode cX12_goesThrough 39 = .ok (.iload 4, 2) := by decide +kernel
theorem dX12_goesThrough_41 : decode cX12_goesThrough 41 = .ok (.iastore, 1) := by decide +kernel
theorem dX12_goesThrough_42 : decode cX12_goesThrough 42 = .ok (.aload_n 0, 1) := by decide +kernel
theorem dX12_goesThrough_43 : decode cX12_goesThrough 43 = .ok (.iload_n 1, 1) := by decide +kernel
theorem dX12_goesThrough_44 : decode cX12_goesThrough 44 = .ok (.iconst 1, 1) := by decide +kernel
theorem dX12_goesThrough_45 : decode cX12_goesThrough 45 = .ok (.iadd, 1) := by decide +kernel
theorem dX12_goesThrough_46 : decode cX12_goesThrough 46 = .ok (.iload_n 2, 1) := by decide +kernel
theorem dX12_goesThrough_47 : decode cX12_goesThrough 47 = .ok (.iconst 1, 1) := by decide +kernel
theorem dX12_goesThrough_48 : decode cX12_goesThrough 48 = .ok (.iload 4, 2) := by decide +kernel
theorem dX12_goesThrough_50 : decode cX12_goesThrough 50 = .ok (.ishl, 1) := by decide +kernel
theorem dX12_goesThrough_51 : decode cX12_goesThrough 51 = .ok (.ior, 1) := by decide +kernel
theorem dX12_goesThrough_52 : decode cX12_goesThrough 52 = .ok (.invokevirtual 273, 3) := by decide +kernel
theorem dX12_goesThrough_55 : decode cX12_goesThrough 55 = .ok (.iinc 4 1, 3) := by decide +kernel
theorem dX12_goesThrough_58 : decode cX12_goesThrough 58 = .ok (.goto (-43), 3) := by decide +kernel
theorem dX12_goesThrough_61 : decode cX12_goesThrough 61 = .ok (.return_, 1) := by decide +kernel
theorem dX12_goesThrough_62 : decode cX12_goesThrough 62 = .ok (.aload_n 0, 1) := by decide +kernel
theorem dX12_goesThrough_63 : decode cX12_goesThrough 63 = .ok (.invokevirtual 260, 3) := by decide +kernel
theorem dX12_goesThrough_66 : decode cX12_goesThrough 66 = .ok (.istore 4, 2) := by decide +kernel
theorem dX12_goesThrough_68 : decode cX12_goesThrough 68 = .ok (.iconst 0, 1) := by decide +kernel
theorem dX12_goesThrough_69 : decode cX12_goesThrough 69 = .ok (.istore 5, 2) := by decide +kernel
theorem dX12_goesThrough_71 : decode cX12_goesThrough 71 = .ok (.iload 5, 2) := by decide +kernel
theorem dX12_goesThrough_73 : decode cX12_goesThrough 73 = .ok (.iload_n 3, 1) := by decide +kernel
theorem dX12_goesThrough_74 : decode cX12_goesThrough 74 = .ok (.if_icmp .ge 40, 3) := by decide +kernel
theorem dX12_goesThrough_77 : decode cX12_goesThrough 77 = .ok (.aload_n 0, 1) := by decide +kernel
theorem dX12_goesThrough_78 : decode cX12_goesThrough 78 = .ok (.getfield 276, 3) := by decide +kernel
theorem dX12_goesThrough_81 : decode cX12_goesThrough 81 = .ok (.iconst (-1), 1) := by decide +kernel
theorem dX12_goesThrough_82 : decode cX12_goesThrough 82 = .ok (.if_icmp .eq 12, 3) := by decide +kernel
theorem dX12_goesThrough_85 : decode cX12_goesThrough 85 = .ok (.iload 4, 2) := by decide +kernel
theorem dX12_goesThrough_87 : decode cX12_goesThrough 87 = .ok (.aload_n 0, 1) := by decide +kernel
theorem dX12_goesThrough_88 : decode cX12_goesThrough 88 = .ok (.getfield 276, 3) := by decide +kernel
theorem dX12_goesThrough_91 : decode cX12_goesThrough 91 = .ok (.if_icmp .ge 23, 3) := by decide +kernel
theorem dX12_goesThrough_94 : decode cX12_goesThrough 94 = .ok (.aload_n 0, 1) := by decide +kernel
theorem dX12_goesThrough_95 : decode cX12_goesThrough 95 = .ok (.getfield 53, 3) := by decide +kernel
theorem dX12_goesThrough_98 : decode cX12_goesThrough 98 = .ok (.iload 5, 2) := by decide +kernel
theorem dX12_goesThrough_100 : decode cX12_goesThrough 100 = .ok (.aload_n 0, 1) := by decide +kernel
theorem dX12_goesThrough_101 : decode cX12_goesThrough 101 = .ok (.getfield 44, 3) := by decide +kernel
theorem dX12_goesThrough_104 : decode cX12_goesThrough 104 = .ok (.iload 5, 2) := by decide +kernel
theorem dX12_goesThrough_106 : decode cX12_goesThrough 106 = .ok (.iaload, 1) := by decide +kernel
theorem dX12_goesThrough_107 : decode cX12_goesThrough 107 = .ok (.iastore, 1) := by decide +kernel
theorem dX12_goesThrough_108 : decode cX12_goesThrough 108 = .ok (.iinc 5 1, 3) := by decide +kernel
theorem dX12_goesThrough_111 : decode cX12_goesThrough 111 = .ok (.goto (-40), 3) := by decide +kernel
theorem dX12_goesThrough_114 : decode cX12_goesThrough 114 = .ok (.aload_n 0, 1) := by decide +kernel
theorem dX12_goesThrough_115 : decode cX12_goesThrough 115 = .ok (.aload_n 0, 1) := by decide +kernel
theorem dX12_goesThrough_116 : decode cX12_goesThrough 116 = .ok (.getfield 276, 3) := by decide +kernel
theorem dX12_goesThrough_119 : decode cX12_goesThrough 119 = .ok (.iconst (-1), 1) := by decide +kernel
theorem dX12_goesThrough_120 : decode cX12_goesThrough 120 = .ok (.if_icmp .eq 12, 3) := by decide +kernel
theorem dX12_goesThrough_123 : decode cX12_goesThrough 123 = .ok (.iload 4, 2) := by decide +kernel
theorem dX12_goesThrough_125 : decode cX12_goesThrough 125 = .ok (.aload_n 0, 1) := by decide +kernel
theorem dX12_goesThrough_126 : decode cX12_goesThrough 126 = .ok (.getfield 276, 3) := by decide +kernel
theorem dX12_goesThrough_129 : decode cX12_goesThrough 129 = .ok (.if_icmp .ge 8, 3) := by decide +kernel
theorem dX12_goesThrough_132 : decode cX12_goesThrough 132 = .ok (.iload 4, 2) := by decide +kernel
theorem dX12_goesThrough_134 : decode cX12_goesThrough 134 = .ok (.goto 7, 3) := by decide +kernel
theorem dX12_goesThrough_137 : decode cX12_goesThrough 137 = .ok (.aload_n 0, 1) := by decide +kernel
theorem dX12_goesThrough_138 : decode cX12_goesThrough 138 = .ok (.getfield 276, 3) := by decide +kernel
theorem dX12_goesThrough_141 : decode cX12_goesThrough 141 = .ok (.putfield 276, 3) := by decide +kernel
theorem dX12_goesThrough_144 : decode cX12_goesThrough 144 = .ok (.aload_n 0, 1) := by decide +kernel
theorem dX12_goesThrough_145 : decode cX12_goesThrough 145 = .ok (.invokevirtual 279, 3) := by decide +kernel
theorem dX12_goesThrough_148 : decode cX12_goesThrough 148 = .ok (.iconst (-1), 1) := by decide +kernel
theorem dX12_goesThrough_149 : decode cX12_goesThrough 149 = .ok (.if_icmp .eq 4, 3) := by decide +kernel
theorem dX12_goesThrough_152 : decode cX12_goesThrough 152 = .ok (.return_, 1) := by decide +kernel
theorem dX12_goesThrough_153 : decode cX12_goesThrough 153 = .ok (.iconst 0, 1) := by decide +kernel
theorem dX12_goesThrough_154 : decode cX12_goesThrough 154 = .ok (.istore 5, 2) := by decide +kernel
theorem dX12_goesThrough_156 : decode cX12_goesThrough 156 = .ok (.iload 5, 2) := by decide +kernel
theorem dX12_goesThrough_158 : decode cX12_goesThrough 158 = .ok (.iload_n 3, 1) := by decide +kernel
theorem dX12_goesThrough_159 : decode cX12_goesThrough 159 = .ok (.if_icmp .ge 30, 3) := by decide +kernel
theorem dX12_goesThrough_162 : decode cX12_goesThrough 162 = .ok (.aload_n 0, 1) := by decide +kernel
theorem dX12_goesThrough_163 : decode cX12_goesThrough 163 = .ok (.getfield 282, 3) := by decide +kernel
theorem dX12_goesThrough_166 : decode cX12_goesThrough 166 = .ok (.ifCond .ne 23, 3) := by decide +kernel
theorem dX12_goesThrough_169 : decode cX12_goesThrough 169 = .ok (.aload_n 0, 1) := by decide +kernel
theorem dX12_goesThrough_170 : decode cX12_goesThrough 170 = .ok (.getfield 50, 3) := by decide +kernel
theorem dX12_goesThrough_173 : decode cX12_goesThrough 173 = .ok (.iload 5, 2) := by decide +kernel
theorem dX12_goesThrough_175 : decode cX12_goesThrough 175 = .ok (.aload_n 0, 1) := by decide +kernel
theorem dX12_goesThrough_176 : decode cX12_goesThrough 176 = .ok (.getfield 44, 3) := by decide +kernel
theorem dX12_goesThrough_179 : decode cX12_goesThrough 179 = .ok (.iload 5, 2) := by decide +kernel
theorem dX12_goesThrough_181 : decode cX12_goesThrough 181 = .ok (.iaload, 1) := by decide +kernel
theorem dX12_goesThrough_182 : decode cX12_goesThrough 182 = .ok (.iastore, 1) := by decide +kernel
theorem dX12_goesThrough_183 : decode cX12_goesThrough 183 = .ok (.iinc 5 1, 3) := by decide +kernel
theorem dX12_goesThrough_186 : decode cX12_goesThrough 186 = .ok (.goto (-30), 3) := by decide +kernel
theorem dX12_goesThrough_189 : decode cX12_goesThrough 189 = .ok (.aload_n 0, 1) := by decide +kernel
theorem dX12_goesThrough_190 : decode cX12_goesThrough 190 = .ok (.dup, 1) := by decide +kernel
theorem dX12_goesThrough_191 : decode cX12_goesThrough 191 = .ok (.getfield 282, 3) := by decide +kernel
theorem dX12_goesThrough_194 : decode cX12_goesThrough 194 = .ok (.iconst 1, 1) := by decide +kernel
theorem dX12_goesThrough_195 : decode cX12_goesThrough 195 = .ok (.iadd, 1) := by decide +kernel
theorem dX12_goesThrough_196 : decode cX12_goesThrough 196 = .ok (.putfield 282, 3) := by decide +kernel
theorem dX12_goesThrough_199 : decode cX12_goesThrough 199 = .ok (.return_, 1) := by decide +kernel
theorem dX12_isTold_0 : decode cX12_isTold 0 = .ok (.aload_n 0, 1) := by decide +kernel
theorem dX12_isTold_1 : decode cX12_isTold 1 = .ok (.getfield 7, 3) := by decide +kernel
theorem dX12_isTold_4 : decode cX12_isTold 4 = .ok (.iconst 4, 1) := by decide +kernel
theorem dX12_isTold_5 : decode cX12_isTold 5 = .ok (.iaload, 1) := by decide +kernel
theorem dX12_isTold_6 : decode cX12_isTold 6 = .ok (.bipush 7, 2) := by decide +kernel
theorem dX12_isTold_8 : decode cX12_isTold 8 = .ok (.if_icmp .gt 25, 3) := by decide +kernel
theorem dX12_isTold_11 : decode cX12_isTold 11 = .ok (.iload_n 1, 1) := by decide +kernel
theorem dX12_isTold_12 : decode cX12_isTold 12 = .ok (.ifCond .eq 23, 3) := by decide +kernel
theorem dX12_isTold_15 : decode cX12_isTold 15 = .ok (.iload_n 1, 1) := by decide +kernel
theorem dX12_isTold_16 : decode cX12_isTold 16 = .ok (.bipush 10, 2) := by decide +kernel
theorem dX12_isTold_18 : decode cX12_isTold 18 = .ok (.bipush 9, 2) := by decide +kernel
theorem dX12_isTold_20 : decode cX12_isTold 20 = .ok (.aload_n 0, 1) := by decide +kernel
theorem dX12_isTold_21 : decode cX12_isTold 21 = .ok (.getfield 7, 3) := by decide +kernel
theorem dX12_isTold_24 : decode cX12_isTold 24 = .ok (.iconst 4, 1) := by decide +kernel
theorem dX12_isTold_25 : decode cX12_isTold 25 = .ok (.iaload, 1) := by decide +kernel
theorem dX12_isTold_26 : decode cX12_isTold 26 = .ok (.iadd, 1) := by decide +kernel
theorem dX12_isTold_27 : decode cX12_isTold 27 = .ok (.invokestatic 66, 3) := by decide +kernel
theorem dX12_isTold_30 : decode cX12_isTold 30 = .ok (.ifCond .ne 5, 3) := by decide +kernel
theorem dX12_isTold_33 : decode cX12_isTold 33 = .ok (.iconst 0, 1) := by decide +kernel
theorem dX12_isTold_34 : decode cX12_isTold 34 = .ok (.ireturn, 1) := by decide +kernel
theorem dX12_isTold_35 : decode cX12_isTold 35 = .ok (.aload_n 0, 1) := by decide +kernel
theorem dX12_isTold_36 : decode cX12_isTold 36 = .ok (.iconst 0, 1) := by decide +kernel
theorem dX12_isTold_37 : decode cX12_isTold 37 = .ok (.putfield 282, 3) := by decide +kernel
theorem dX12_isTold_40 : decode cX12_isTold 40 = .ok (.aload_n 0, 1) := by decide +kernel
theorem dX12_isTold_41 : decode cX12_isTold 41 = .ok (.iconst (-1), 1) := by decide +kernel
theorem dX12_isTold_42 : decode cX12_isTold 42 = .ok (.putfield 276, 3) := by decide +kernel
theorem dX12_isTold_45 : decode cX12_isTold 45 = .ok (.aload_n 0, 1) := by decide +kernel
theorem dX12_isTold_46 : decode cX12_isTold 46 = .ok (.iconst 0, 1) := by decide +kernel
theorem dX12_isTold_47 : decode cX12_isTold 47 = .ok (.iconst 0, 1) := by decide +kernel
theorem dX12_isTold_48 : decode cX12_isTold 48 = .ok (.invokevirtual 273, 3) := by decide +kernel
theorem dX12_isTold_51 : decode cX12_isTold 51 = .ok (.iconst 1, 1) := by decide +kernel
theorem dX12_isTold_52 : decode cX12_isTold 52 = .ok (.ireturn, 1) := by decide +kernel
theorem dX12_orders_0 : decode cX12_orders 0 = .ok (.aload_n 0, 1) := by decide +kernel
theorem dX12_orders_1 : decode cX12_orders 1 = .ok (.iload_n 1, 1) := by decide +kernel
theorem dX12_orders_2 : decode cX12_orders 2 = .ok (.invokevirtual 285, 3) := by decide +kernel
theorem dX12_orders_5 : decode cX12_orders 5 = .ok (.ifCond .ne 7, 3) := by decide +kernel
theorem dX12_orders_8 : decode cX12_orders 8 = .ok (.iconst (-1), 1) := by decide +kernel
theorem dX12_orders_9 : decode cX12_orders 9 = .ok (.goto 34, 3) := by decide +kernel
theorem dX12_orders_12 : decode cX12_orders 12 = .ok (.iload_n 1, 1) := by decide +kernel
theorem dX12_orders_13 : decode cX12_orders 13 = .ok (.ifCond .ne 10, 3) := by decide +kernel
theorem dX12_orders_16 : decode cX12_orders 16 = .ok (.aload_n 0, 1) := by decide +kernel
theorem dX12_orders_17 : decode cX12_orders 17 = .ok (.getfield 282, 3) := by decide +kernel
theorem dX12_orders_20 : decode cX12_orders 20 = .ok (.goto 23, 3) := by decide +kernel
theorem dX12_orders_23 : decode cX12_orders 23 = .ok (.aload_n 0, 1) := by decide +kernel
theorem dX12_orders_24 : decode cX12_orders 24 = .ok (.getfield 282, 3) := by decide +kernel
theorem dX12_orders_27 : decode cX12_orders 27 = .ok (.ifCond .ne 7, 3) := by decide +kernel
theorem dX12_orders_30 : decode cX12_orders 30 = .ok (.iconst (-1), 1) := by decide +kernel
theorem dX12_orders_31 : decode cX12_orders 31 = .ok (.goto 12, 3) := by decide +kernel
theorem dX12_orders_34 : decode cX12_orders 34 = .ok (.aload_n 0, 1) := by decide +kernel
theorem dX12_orders_35 : decode cX12_orders 35 = .ok (.getfield 50, 3) := by decide +kernel
theorem dX12_orders_38 : decode cX12_orders 38 = .ok (.iload_n 1, 1) := by decide +kernel
theorem dX12_orders_39 : decode cX12_orders 39 = .ok (.bipush 10, 2) := by decide +kernel
theorem dX12_orders_41 : decode cX12_orders 41 = .ok (.isub, 1) := by decide +kernel
theorem dX12_orders_42 : decode cX12_orders 42 = .ok (.iaload, 1) := by decide +kernel
theorem dX12_orders_43 : decode cX12_orders 43 = .ok (.ireturn, 1) := by decide +kernel
theorem dX12_least_0 : decode cX12_least 0 = .ok (.aload_n 0, 1) := by decide +kernel
theorem dX12_least_1 : decode cX12_least 1 = .ok (.iload_n 1, 1) := by decide +kernel
theorem dX12_least_2 : decode cX12_least 2 = .ok (.invokevirtual 285, 3) := by decide +kernel
theorem dX12_least_5 : decode cX12_least 5 = .ok (.ifCond .ne 7, 3) := by decide +kernel
theorem dX12_least_8 : decode cX12_least 8 = .ok (.iconst (-1), 1) := by decide +kernel
theorem dX12_least_9 : decode cX12_least 9 = .ok (.goto 23, 3) := by decide +kernel
theorem dX12_least_12 : decode cX12_least 12 = .ok (.iload_n 1, 1) := by decide +kernel
theorem dX12_least_13 : decode cX12_least 13 = .ok (.ifCond .ne 10, 3) := by decide +kernel
theorem dX12_least_16 : decode cX12_least 16 = .ok (.aload_n 0, 1) := by decide +kernel
theorem dX12_least_17 : decode cX12_least 17 = .ok (.getfield 276, 3) := by decide +kernel
theorem dX12_least_20 : decode cX12_least 20 = .ok (.goto 12, 3) := by decide +kernel
theorem dX12_least_23 : decode cX12_least 23 = .ok (.aload_n 0, 1) := by decide +kernel
theorem dX12_least_24 : decode cX12_least 24 = .ok (.getfield 53, 3) := by decide +kernel
theorem dX12_least_27 : decode cX12_least 27 = .ok (.iload_n 1, 1) := by decide +kernel
theorem dX12_least_28 : decode cX12_least 28 = .ok (.bipush 10, 2) := by decide +kernel
theorem dX12_least_30 : decode cX12_least 30 = .ok (.isub, 1) := by decide +kernel
theorem dX12_least_31 : decode cX12_least 31 = .ok (.iaload, 1) := by decide +kernel
theorem dX12_least_32 : decode cX12_least 32 = .ok (.ireturn, 1) := by decide +kernel
theorem dX12_isRow_0 : decode cX12_isRow 0 = .ok (.iconst 0, 1) := by decide +kernel
theorem dX12_isRow_1 : decode cX12_isRow 1 = .ok (.istore_n 2, 1) := by decide +kernel
theorem dX12_isRow_2 : decode cX12_isRow 2 = .ok (.iload_n 2, 1) := by decide +kernel
theorem dX12_isRow_3 : decode cX12_isRow 3 = .ok (.aload_n 0, 1) := by decide +kernel
theorem dX12_isRow_4 : decode cX12_isRow 4 = .ok (.getfield 7, 3) := by decide +kernel
theorem dX12_isRow_7 : decode cX12_isRow 7 = .ok (.iconst 4, 1) := by decide +kernel
theorem dX12_isRow_8 : decode cX12_isRow 8 = .ok (.iaload, 1) := by decide +kernel
theorem dX12_isRow_9 : decode cX12_isRow 9 = .ok (.if_icmp .ge 31, 3) := by decide +kernel
theorem dX12_isRow_12 : decode cX12_isRow 12 = .ok (.aload_n 0, 1) := by decide +kernel
theorem dX12_isRow_13 : decode cX12_isRow 13 = .ok (.getfield 56, 3) := by decide +kernel
theorem dX12_isRow_16 : decode cX12_isRow 16 = .ok (.bipush 9, 2) := by decide +kernel
theorem dX12_isRow_18 : decode cX12_isRow 18 = .ok (.iload_n 1, 1) := by decide +kernel
theorem dX12_isRow_19 : decode cX12_isRow 19 = .ok (.imul, 1) := by decide +kernel
theorem dX12_isRow_20 : decode cX12_isRow 20 = .ok (.iload_n 2, 1) := by decide +kernel
theorem dX12_isRow_21 : decode cX12_isRow 21 = .ok (.iadd, 1) := by decide +kernel
theorem dX12_isRow_22 : decode cX12_isRow 22 = .ok (.iaload, 1) := by decide +kernel
theorem dX12_isRow_23 : decode cX12_isRow 23 = .ok (.aload_n 0, 1) := by decide +kernel
theorem dX12_isRow_24 : decode cX12_isRow 24 = .ok (.getfield 44, 3) := by decide +kernel
theorem dX12_isRow_27 : decode cX12_isRow 27 = .ok (.iload_n 2, 1) := by decide +kernel
theorem dX12_isRow_28 : decode cX12_isRow 28 = .ok (.iaload, 1) := by decide +kernel
theorem dX12_isRow_29 : decode cX12_isRow 29 = .ok (.if_icmp .eq 5, 3) := by decide +kernel
theorem dX12_isRow_32 : decode cX12_isRow 32 = .ok (.iconst 0, 1) := by decide +kernel
theorem dX12_isRow_33 : decode cX12_isRow 33 = .ok (.ireturn, 1) := by decide +kernel
theorem dX12_isRow_34 : decode cX12_isRow 34 = .ok (.iinc 2 1, 3) := by decide +kernel
theorem dX12_isRow_37 : decode cX12_isRow 37 = .ok (.goto (-35), 3) := by decide +kernel
theorem dX12_isRow_40 : decode cX12_isRow 40 = .ok (.iconst 1, 1) := by decide +kernel
theorem dX12_isRow_41 : decode cX12_isRow 41 = .ok (.ireturn, 1) := by decide +kernel
theorem dX12_round_0 : decode cX12_round 0 = .ok (.iload_n 1, 1) := by decide +kernel
theorem dX12_round_1 : decode cX12_round 1 = .ok (.iconst 0, 1) := by decide +kernel
theorem dX12_round_2 : decode cX12_round 2 = .ok (.iconst 1, 1) := by decide +kernel
theorem dX12_round_3 : decode cX12_round 3 = .ok (.invokestatic 66, 3) := by decide +kernel
theorem dX12_round_6 : decode cX12_round 6 = .ok (.ifCond .ne 5, 3) := by decide +kernel
theorem dX12_round_9 : decode cX12_round 9 = .ok (.iconst (-1), 1) := by decide +kernel
theorem dX12_round_10 : decode cX12_round 10 = .ok (.ireturn, 1) := by decide +kernel
theorem dX12_round_11 : decode cX12_round 11 = .ok (.aload_n 0, 1) := by decide +kernel
theorem dX12_round_12 : decode cX12_round 12 = .ok (.iconst 0, 1) := by decide +kernel
theorem dX12_round_13 : decode cX12_round 13 = .ok (.invokevirtual 240, 3) := by decide +kernel
theorem dX12_round_16 : decode cX12_round 16 = .ok (.iconst 0, 1) := by decide +kernel
theorem dX12_round_17 : decode cX12_round 17 = .ok (.istore_n 2, 1) := by decide +kernel
theorem dX12_round_18 : decode cX12_round 18 = .ok (.iload_n 2, 1) := by decide +kernel
theorem dX12_round_19 : decode cX12_round 19 = .ok (.aload_n 0, 1) := by decide +kernel
theorem dX12_round_20 : decode cX12_round 20 = .ok (.getfield 7, 3) := by decide +kernel
theorem dX12_round_23 : decode cX12_round 23 = .ok (.iconst 4, 1) := by decide +kernel
theorem dX12_round_24 : decode cX12_round 24 = .ok (.iaload, 1) := by decide +kernel
theorem dX12_round_25 : decode cX12_round 25 = .ok (.if_icmp .ge 21, 3) := by decide +kernel
theorem dX12_round_28 : decode cX12_round 28 = .ok (.aload_n 0, 1) := by decide +kernel
theorem dX12_round_29 : decode cX12_round 29 = .ok (.getfield 44, 3) := by decide +kernel
theorem dX12_round_32 : decode cX12_round 32 = .ok (.iload_n 2, 1) := by decide +kernel
theorem dX12_round_33 : decode cX12_round 33 = .ok (.aload_n 0, 1) := by decide +kernel
theorem dX12_round_34 : decode cX12_round 34 = .ok (.getfield 38, 3) := by decide +kernel
theorem dX12_round_37 : decode cX12_round 37 = .ok (.iload_n 2, 1) := by decide +kernel
theorem dX12_round_38 : decode cX12_round 38 = .ok (.iaload, 1) := by decide +kernel
theorem dX12_round_39 : decode cX12_round 39 = .ok (.iastore, 1) := by decide +kernel
theorem dX12_round_40 : decode cX12_round 40 = .ok (.iinc 2 1, 3) := by decide +kernel
theorem dX12_round_43 : decode cX12_round 43 = .ok (.goto (-25), 3) := by decide +kernel
theorem dX12_round_46 : decode cX12_round 46 = .ok (.iconst 0, 1) := by decide +kernel
theorem dX12_round_47 : decode cX12_round 47 = .ok (.istore_n 2, 1) := by decide +kernel
theorem dX12_round_48 : decode cX12_round 48 = .ok (.iload_n 2, 1) := by decide +kernel
theorem dX12_round_49 : decode cX12_round 49 = .ok (.sipush 200, 3) := by decide +kernel
theorem dX12_round_52 : decode cX12_round 52 = .ok (.if_icmp .gt 102, 3) := by decide +kernel
theorem dX12_round_55 : decode cX12_round 55 = .ok (.iconst 0, 1) := by decide +kernel
theorem dX12_round_56 : decode cX12_round 56 = .ok (.istore_n 3, 1) := by decide +kernel
theorem dX12_round_57 : decode cX12_round 57 = .ok (.iload_n 3, 1) := by decide +kernel
theorem dX12_round_58 : decode cX12_round 58 = .ok (.iload_n 2, 1) := by decide +kernel
theorem dX12_round_59 : decode cX12_round 59 = .ok (.if_icmp .ge 29, 3) := by decide +kernel
theorem dX12_round_62 : decode cX12_round 62 = .ok (.aload_n 0, 1) := by decide +kernel
theorem dX12_round_63 : decode cX12_round 63 = .ok (.iload_n 3, 1) := by decide +kernel
theorem dX12_round_64 : decode cX12_round 64 = .ok (.invokevirtual 288, 3) := by decide +kernel
theorem dX12_round_67 : decode cX12_round 67 = .ok (.ifCond .eq 15, 3) := by decide +kernel
theorem dX12_round_70 : decode cX12_round 70 = .ok (.iload_n 1, 1) := by decide +kernel
theorem dX12_round_71 : decode cX12_round 71 = .ok (.ifCond .ne 7, 3) := by decide +kernel
theorem dX12_round_74 : decode cX12_round 74 = .ok (.iconst (-1), 1) := by decide +kernel
theorem dX12_round_75 : decode cX12_round 75 = .ok (.goto 6, 3) := by decide +kernel
theorem dX12_round_78 : decode cX12_round 78 = .ok (.iload_n 2, 1) := by decide +kernel
theorem dX12_round_79 : decode cX12_round 79 = .ok (.iload_n 3, 1) := by decide +kernel
theorem dX12_round_80 : decode cX12_round 80 = .ok (.isub, 1) := by decide +kernel
theorem dX12_round_81 : decode cX12_round 81 = .ok (.ireturn, 1) := by decide +kernel
theorem dX12_round_82 : decode cX12_round 82 = .ok (.iinc 3 1, 3) := by decide +kernel
theorem dX12_round_85 : decode cX12_round 85 = .ok (.goto (-28), 3) := by decide +kernel
theorem dX12_round_88 : decode cX12_round 88 = .ok (.iconst 0, 1) := by decide +kernel
theorem dX12_round_89 : decode cX12_round 89 = .ok (.istore_n 3, 1) := by decide +kernel
theorem dX12_round_90 : decode cX12_round 90 = .ok (.iload_n 3, 1) := by decide +kernel
theorem dX12_round_91 : decode cX12_round 91 = .ok (.aload_n 0, 1) := by decide +kernel
theorem dX12_round_92 : decode cX12_round 92 = .ok (.getfield 7, 3) := by decide +kernel
theorem dX12_round_95 : decode cX12_round 95 = .ok (.iconst 4, 1) := by decide +kernel
theorem dX12_round_96 : decode cX12_round 96 = .ok (.iaload, 1) := by decide +kernel
theorem dX12_round_97 : decode cX12_round 97 = .ok (.if_icmp .ge 26, 3) := by decide +kernel
theorem dX12_round_100 : decode cX12_round 100 = .ok (.aload_n 0, 1) := by decide +kernel
theorem dX12_round_101 : decode cX12_round 101 = .ok (.getfield 56, 3) := by decide +kernel
theorem dX12_round_104 : decode cX12_round 104 = .ok (.bipush 9, 2) := by decide +kernel
theorem dX12_round_106 : decode cX12_round 106 = .ok (.iload_n 2, 1) := by decide +kernel
theorem dX12_round_107 : decode cX12_round 107 = .ok (.imul, 1) := by decide +kernel
theorem dX12_round_108 : decode cX12_round 108 = .ok (.iload_n 3, 1) := by decide +kernel
theorem dX12_round_109 : decode cX12_round 109 = .ok (.iadd, 1) := by decide +kernel
theorem dX12_round_110 : decode cX12_round 110 = .ok (.aload_n 0, 1) := by decide +kernel
theorem dX12_round_111 : decode cX12_round 111 = .ok (.getfield 44, 3) := by decide +kernel
theorem dX12_round_114 : decode cX12_round 114 = .ok (.iload_n 3, 1) := by decide +kernel
theorem dX12_round_115 : decode cX12_round 115 = .ok (.iaload, 1) := by decide +kernel
theorem dX12_round_116 : decode cX12_round 116 = .ok (.iastore, 1) := by decide +kernel
theorem dX12_round_117 : decode cX12_round 117 = .ok (.iinc 3 1, 3) := by decide +kernel
theorem dX12_round_120 : decode cX12_round 120 = .ok (.goto (-30), 3) := by decide +kernel
theorem dX12_round_123 : decode cX12_round 123 = .ok (.aload_n 0, 1) := by decide +kernel
theorem dX12_round_124 : decode cX12_round 124 = .ok (.invokevirtual 279, 3) := by decide +kernel
theorem dX12_round_127 : decode cX12_round 127 = .ok (.istore_n 3, 1) := by decide +kernel
theorem dX12_round_128 : decode cX12_round 128 = .ok (.iload_n 3, 1) := by decide +kernel
theorem dX12_round_129 : decode cX12_round 129 = .ok (.iconst (-1), 1) := by decide +kernel
theorem dX12_round_130 : decode cX12_round 130 = .ok (.if_icmp .ne 13, 3) := by decide +kernel
theorem dX12_round_133 : decode cX12_round 133 = .ok (.iload_n 1, 1) := by decide +kernel
theorem dX12_round_134 : decode cX12_round 134 = .ok (.ifCond .ne 7, 3) := by decide +kernel
theorem dX12_round_137 : decode cX12_round 137 = .ok (.iload_n 2, 1) := by decide +kernel
theorem dX12_round_138 : decode cX12_round 138 = .ok (.goto 4, 3) := by decide +kernel
theorem dX12_round_141 : decode cX12_round 141 = .ok (.iconst 0, 1) := by decide +kernel
theorem dX12_round_142 : decode cX12_round 142 = .ok (.ireturn, 1) := by decide +kernel
theorem dX12_round_143 : decode cX12_round 143 = .ok (.aload_n 0, 1) := by decide +kernel
theorem dX12_round_144 : decode cX12_round 144 = .ok (.iload_n 3, 1) := by decide +kernel
theorem dX12_round_145 : decode cX12_round 145 = .ok (.invokevirtual 266, 3) := by decide +kernel
theorem dX12_round_148 : decode cX12_round 148 = .ok (.iinc 2 1, 3) := by decide +kernel
theorem dX12_round_151 : decode cX12_round 151 = .ok (.goto (-103), 3) := by decide +kernel
theorem dX12_round_154 : decode cX12_round 154 = .ok (.iload_n 1, 1) := by decide +kernel
theorem dX12_round_155 : decode cX12_round 155 = .ok (.ifCond .ne 7, 3) := by decide +kernel
theorem dX12_round_158 : decode cX12_round 158 = .ok (.iconst (-1), 1) := by decide +kernel
theorem dX12_round_159 : decode cX12_round 159 = .ok (.goto 4, 3) := by decide +kernel
theorem dX12_round_162 : decode cX12_round 162 = .ok (.iconst 0, 1) := by decide +kernel
theorem dX12_round_163 : decode cX12_round 163 = .ok (.ireturn, 1) := by decide +kernel
theorem dX12_isLeaven_0 : decode cX12_isLeaven 0 = .ok (.iload_n 1, 1) := by decide +kernel
theorem dX12_isLeaven_1 : decode cX12_isLeaven 1 = .ok (.iconst 0, 1) := by decide +kernel
theorem dX12_isLeaven_2 : decode cX12_isLeaven 2 = .ok (.aload_n 0, 1) := by decide +kernel
theorem dX12_isLeaven_3 : decode cX12_isLeaven 3 = .ok (.getfield 7, 3) := by decide +kernel
theorem dX12_isLeaven_6 : decode cX12_isLeaven 6 = .ok (.sipush 585, 3) := by decide +kernel
theorem dX12_isLeaven_9 : decode cX12_isLeaven 9 = .ok (.iaload, 1) := by decide +kernel
theorem dX12_isLeaven_10 : decode cX12_isLeaven 10 = .ok (.iconst 1, 1) := by decide +kernel
theorem dX12_isLeaven_11 : decode cX12_isLeaven 11 = .ok (.isub, 1) := by decide +kernel
theorem dX12_isLeaven_12 : decode cX12_isLeaven 12 = .ok (.invokestatic 66, 3) := by decide +kernel
theorem dX12_isLeaven_15 : decode cX12_isLeaven 15 = .ok (.ireturn, 1) := by decide +kernel
theorem dX12_ofLeaven_0 : decode cX12_ofLeaven 0 = .ok (.aload_n 0, 1) := by decide +kernel
theorem dX12_ofLeaven_1 : decode cX12_ofLeaven 1 = .ok (.getfield 7, 3) := by decide +kernel
theorem dX12_ofLeaven_4 : decode cX12_ofLeaven 4 = .ok (.sipush 340, 3) := by decide +kernel
theorem dX12_ofLeaven_7 : decode cX12_ofLeaven 7 = .ok (.iconst 4, 1) := by decide +kernel
theorem dX12_ofLeaven_8 : decode cX12_ofLeaven 8 = .ok (.iload_n 1, 1) := by decide +kernel
theorem dX12_ofLeaven_9 : decode cX12_ofLeaven 9 = .ok (.imul, 1) := by decide +kernel
theorem dX12_ofLeaven_10 : decode cX12_ofLeaven 10 = .ok (.iadd, 1) := by decide +kernel
theorem dX12_ofLeaven_11 : decode cX12_ofLeaven 11 = .ok (.iload_n 2, 1) := by decide +kernel
theorem dX12_ofLeaven_12 : decode cX12_ofLeaven 12 = .ok (.iadd, 1) := by decide +kernel
theorem dX12_ofLeaven_13 : decode cX12_ofLeaven 13 = .ok (.iaload, 1) := by decide +kernel
theorem dX12_ofLeaven_14 : decode cX12_ofLeaven 14 = .ok (.ireturn, 1) := by decide +kernel
theorem dX12_leaven_0 : decode cX12_leaven 0 = .ok (.aload_n 0, 1) := by decide +kernel
theorem dX12_leaven_1 : decode cX12_leaven 1 = .ok (.getfield 7, 3) := by decide +kernel
theorem dX12_leaven_4 : decode cX12_leaven 4 = .ok (.sipush 585, 3) := by decide +kernel
theorem dX12_leaven_7 : decode cX12_leaven 7 = .ok (.iaload, 1) := by decide +kernel
theorem dX12_leaven_8 : decode cX12_leaven 8 = .ok (.bipush 60, 2) := by decide +kernel
theorem dX12_leaven_10 : decode cX12_leaven 10 = .ok (.if_icmp .ne 5, 3) := by decide +kernel
theorem dX12_leaven_13 : decode cX12_leaven 13 = .ok (.iconst (-1), 1) := by decide +kernel
theorem dX12_leaven_14 : decode cX12_leaven 14 = .ok (.ireturn, 1) := by decide +kernel
theorem dX12_leaven_15 : decode cX12_leaven 15 = .ok (.sipush 340, 3) := by decide +kernel
theorem dX12_leaven_18 : decode cX12_leaven 18 = .ok (.iconst 4, 1) := by decide +kernel
theorem dX12_leaven_19 : decode cX12_leaven 19 = .ok (.aload_n 0, 1) := by decide +kernel
theorem dX12_leaven_20 : decode cX12_leaven 20 = .ok (.getfield 7, 3) := by decide +kernel
theorem dX12_leaven_23 : decode cX12_leaven 23 = .ok (.sipush 585, 3) := by decide +kernel
theorem dX12_leaven_26 : decode cX12_leaven 26 = .ok (.iaload, 1) := by decide +kernel
theorem dX12_leaven_27 : decode cX12_leaven 27 = .ok (.imul, 1) := by decide +kernel
theorem dX12_leaven_28 : decode cX12_leaven 28 = .ok (.iadd, 1) := by decide +kernel
theorem dX12_leaven_29 : decode cX12_leaven 29 = .ok (.istore_n 3, 1) := by decide +kernel
theorem dX12_leaven_30 : decode cX12_leaven 30 = .ok (.iload_n 2, 1) := by decide +kernel
theorem dX12_leaven_31 : decode cX12_leaven 31 = .ok (.iconst (-1), 1) := by decide +kernel
theorem dX12_leaven_32 : decode cX12_leaven 32 = .ok (.if_icmp .ne 50, 3) := by decide +kernel
theorem dX12_leaven_35 : decode cX12_leaven 35 = .ok (.aload_n 0, 1) := by decide +kernel
theorem dX12_leaven_36 : decode cX12_leaven 36 = .ok (.iload_n 1, 1) := by decide +kernel
theorem dX12_leaven_37 : decode cX12_leaven 37 = .ok (.invokevirtual 216, 3) := by decide +kernel
theorem dX12_leaven_40 : decode cX12_leaven 40 = .ok (.ifCond .ne 5, 3) := by decide +kernel
theorem dX12_leaven_43 : decode cX12_leaven 43 = .ok (.iconst (-1), 1) := by decide +kernel
theorem dX12_leaven_44 : decode cX12_leaven 44 = .ok (.ireturn, 1) := by decide +kernel
theorem dX12_leaven_45 : decode cX12_leaven 45 = .ok (.aload_n 0, 1) := by decide +kernel
theorem dX12_leaven_46 : decode cX12_leaven 46 = .ok (.getfield 7, 3) := by decide +kernel
theorem dX12_leaven_49 : decode cX12_leaven 49 = .ok (.iload_n 3, 1) := by decide +kernel
theorem dX12_leaven_50 : decode cX12_leaven 50 = .ok (.iconst (-1), 1) := by decide +kernel
theorem dX12_leaven_51 : decode cX12_leaven 51 = .ok (.iastore, 1) := by decide +kernel
theorem dX12_leaven_52 : decode cX12_leaven 52 = .ok (.aload_n 0, 1) := by decide +kernel
theorem dX12_leaven_53 : decode cX12_leaven 53 = .ok (.getfield 7, 3) := by decide +kernel
theorem dX12_leaven_56 : decode cX12_leaven 56 = .ok (.iload_n 3, 1) := by decide +kernel
theorem dX12_leaven_57 : decode cX12_leaven 57 = .ok (.iconst 1, 1) := by decide +kernel
theorem dX12_leaven_58 : decode cX12_leaven 58 = .ok (.iadd, 1) := by decide +kernel
theorem dX12_leaven_59 : decode cX12_leaven 59 = .ok (.iconst (-1), 1) := by decide +kernel
theorem dX12_leaven_60 : decode cX12_leaven 60 = .ok (.iastore, 1) := by decide +kernel
theorem dX12_leaven_61 : decode cX12_leaven 61 = .ok (.aload_n 0, 1) := by decide +kernel
theorem dX12_leaven_62 : decode cX12_leaven 62 = .ok (.getfield 7, 3) := by decide +kernel
theorem dX12_leaven_65 : decode cX12_leaven 65 = .ok (.iload_n 3, 1) := by decide +kernel
theorem dX12_leaven_66 : decode cX12_leaven 66 = .ok (.iconst 2, 1) := by decide +kernel
theorem dX12_leaven_67 : decode cX12_leaven 67 = .ok (.iadd, 1) := by decide +kernel
theorem dX12_leaven_68 : decode cX12_leaven 68 = .ok (.iload_n 1, 1) := by decide +kernel
theorem dX12_leaven_69 : decode cX12_leaven 69 = .ok (.iastore, 1) := by decide +kernel
theorem dX12_leaven_70 : decode cX12_leaven 70 = .ok (.aload_n 0, 1) := by decide +kernel
theorem dX12_leaven_71 : decode cX12_leaven 71 = .ok (.getfield 7, 3) := by decide +kernel
theorem dX12_leaven_74 : decode cX12_leaven 74 = .ok (.iload_n 3, 1) := by decide +kernel
theorem dX12_leaven_75 : decode cX12_leaven 75 = .ok (.iconst 3, 1) := by decide +kernel
theorem dX12_leaven_76 : decode cX12_leaven 76 = .ok (.iadd, 1) := by decide +kernel
theorem dX12_leaven_77 : decode cX12_leaven 77 = .ok (.iconst 0, 1) := by decide +kernel
theorem dX12_leaven_78 : decode cX12_leaven 78 = .ok (.iastore, 1) := by decide +kernel
theorem dX12_leaven_79 : decode cX12_leaven 79 = .ok (.goto 99, 3) := by decide +kernel
theorem dX12_leaven_82 : decode cX12_leaven 82 = .ok (.aload_n 0, 1) := by decide +kernel
theorem dX12_leaven_83 : decode cX12_leaven 83 = .ok (.iload_n 1, 1) := by decide +kernel
theorem dX12_leaven_84 : decode cX12_leaven 84 = .ok (.invokevirtual 291, 3) := by decide +kernel
theorem dX12_leaven_87 : decode cX12_leaven 87 = .ok (.ifCond .eq 11, 3) := by decide +kernel
theorem dX12_leaven_90 : decode cX12_leaven 90 = .ok (.aload_n 0, 1) := by decide +kernel
theorem dX12_leaven_91 : decode cX12_leaven 91 = .ok (.iload_n 2, 1) := by decide +kernel
theorem dX12_leaven_92 : decode cX12_leaven 92 = .ok (.invokevirtual 291, 3) := by decide +kernel
theorem dX12_leaven_95 : decode cX12_leaven 95 = .ok (.ifCond .ne 5, 3) := by decide +kernel
theorem dX12_leaven_98 : decode cX12_leaven 98 = .ok (.iconst (-1), 1) := by decide +kernel
theorem dX12_leaven_99 : decode cX12_leaven 99 = .ok (.ireturn, 1) := by decide +kernel
theorem dX12_leaven_100 : decode cX12_leaven 100 = .ok (.iconst 1, 1) := by decide +kernel
theorem dX12_leaven_101 : decode cX12_leaven 101 = .ok (.aload_n 0, 1) := by decide +kernel
theorem dX12_leaven_102 : decode cX12_leaven 102 = .ok (.iload_n 1, 1) := by decide +kernel
theorem dX12_leaven_103 : decode cX12_leaven 103 = .ok (.iconst 3, 1) := by decide +kernel
theorem dX12_leaven_104 : decode cX12_leaven 104 = .ok (.invokevirtual 294, 3) := by decide +kernel
theorem dX12_leaven_107 : decode cX12_leaven 107 = .ok (.aload_n 0, 1) := by decide +kernel
theorem dX12_leaven_108 : decode cX12_leaven 108 = .ok (.iload_n 2, 1) := by decide +kernel
theorem dX12_leaven_109 : decode cX12_leaven 109 = .ok (.iconst 3, 1) := by decide +kernel
theorem dX12_leaven_110 : decode cX12_leaven 110 = .ok (.invokevirtual 294, 3) := by decide +kernel
theorem dX12_leaven_113 : decode cX12_leaven 113 = .ok (.if_icmp .le 12, 3) := by decide +kernel
theorem dX12_leaven_116 : decode cX12_leaven 116 = .ok (.aload_n 0, 1) := by decide +kernel
theorem dX12_leaven_117 : decode cX12_leaven 117 = .ok (.iload_n 1, 1) := by decide +kernel
theorem dX12_leaven_118 : decode cX12_leaven 118 = .ok (.iconst 3, 1) := by decide +kernel
theorem dX12_leaven_119 : decode cX12_leaven 119 = .ok (.invokevirtual 294, 3) := by decide +kernel
theorem dX12_leaven_122 : decode cX12_leaven 122 = .ok (.goto 9, 3) := by decide +kernel
theorem dX12_leaven_125 : decode cX12_leaven 125 = .ok (.aload_n 0, 1) := by decide +kernel
theorem dX12_leaven_126 : decode cX12_leaven 126 = .ok (.iload_n 2, 1) := by decide +kernel
theorem dX12_leaven_127 : decode cX12_leaven 127 = .ok (.iconst 3, 1) := by decide +kernel
theorem dX12_leaven_128 : decode cX12_leaven 128 = .ok (.invokevirtual 294, 3) := by decide +kernel
theorem dX12_leaven_131 : decode cX12_leaven 131 = .ok (.iadd, 1) := by decide +kernel
theorem dX12_leaven_132 : decode cX12_leaven 132 = .ok (.istore 4, 2) := by decide +kernel
theorem dX12_leaven_134 : decode cX12_leaven 134 = .ok (.iload 4, 2) := by decide +kernel
theorem dX12_leaven_136 : decode cX12_leaven 136 = .ok (.bipush 30, 2) := by decide +kernel
theorem dX12_leaven_138 : decode cX12_leaven 138 = .ok (.if_icmp .le 5, 3) := by decide +kernel
theorem dX12_leaven_141 : decode cX12_leaven 141 = .ok (.iconst (-1), 1) := by decide +kernel
theorem dX12_leaven_142 : decode cX12_leaven 142 = .ok (.ireturn, 1) := by decide +kernel
theorem dX12_leaven_143 : decode cX12_leaven 143 = .ok (.aload_n 0, 1) := by decide +kernel
theorem dX12_leaven_144 : decode cX12_leaven 144 = .ok (.getfield 7, 3) := by decide +kernel
theorem dX12_leaven_147 : decode cX12_leaven 147 = .ok (.iload_n 3, 1) := by decide +kernel
theorem dX12_leaven_148 : decode cX12_leaven 148 = .ok (.iload_n 1, 1) := by decide +kernel
theorem dX12_leaven_149 : decode cX12_leaven 149 = .ok (.iastore, 1) := by decide +kernel
theorem dX12_leaven_150 : decode cX12_leaven 150 = .ok (.aload_n 0, 1) := by decide +kernel
theorem dX12_leaven_151 : decode cX12_leaven 151 = .ok (.getfield 7, 3) := by decide +kernel
theorem dX12_leaven_154 : decode cX12_leaven 154 = .ok (.iload_n 3, 1) := by decide +kernel
theorem dX12_leaven_155 : decode cX12_leaven 155 = .ok (.iconst 1, 1) := by decide +kernel
theorem dX12_leaven_156 : decode cX12_leaven 156 = .ok (.iadd, 1) := by decide +kernel
theorem dX12_leaven_157 : decode cX12_leaven 157 = .ok (.iload_n 2, 1) := by decide +kernel
theorem dX12_leaven_158 : decode cX12_leaven 158 = .ok (.iastore, 1) := by decide +kernel
theorem dX12_leaven_159 : decode cX12_leaven 159 = .ok (.aload_n 0, 1) := by decide +kernel
theorem dX12_leaven_160 : decode cX12_leaven 160 = .ok (.getfield 7, 3) := by decide +kernel
theorem dX12_leaven_163 : decode cX12_leaven 163 = .ok (.iload_n 3, 1) := by decide +kernel
theorem dX12_leaven_164 : decode cX12_leaven 164 = .ok (.iconst 2, 1) := by decide +kernel
theorem dX12_leaven_165 : decode cX12_leaven 165 = .ok (.iadd, 1) := by decide +kernel
theorem dX12_leaven_166 : decode cX12_leaven 166 = .ok (.iconst (-1), 1) := by decide +kernel
theorem dX12_leaven_167 : decode cX12_leaven 167 = .ok (.iastore, 1) := by decide +kernel
theorem dX12_leaven_168 : decode cX12_leaven 168 = .ok (.aload_n 0, 1) := by decide +kernel
theorem dX12_leaven_169 : decode cX12_leaven 169 = .ok (.getfield 7, 3) := by decide +kernel
theorem dX12_leaven_172 : decode cX12_leaven 172 = .ok (.iload_n 3, 1) := by decide +kernel
theorem dX12_leaven_173 : decode cX12_leaven 173 = .ok (.iconst 3, 1) := by decide +kernel
theorem dX12_leaven_174 : decode cX12_leaven 174 = .ok (.iadd, 1) := by decide +kernel
theorem dX12_leaven_175 : decode cX12_leaven 175 = .ok (.iload 4, 2) := by decide +kernel
theorem dX12_leaven_177 : decode cX12_leaven 177 = .ok (.iastore, 1) := by decide +kernel
theorem dX12_leaven_178 : decode cX12_leaven 178 = .ok (.aload_n 0, 1) := by decide +kernel
theorem dX12_leaven_179 : decode cX12_leaven 179 = .ok (.getfield 7, 3) := by decide +kernel
theorem dX12_leaven_182 : decode cX12_leaven 182 = .ok (.sipush 585, 3) := by decide +kernel
theorem dX12_leaven_185 : decode cX12_leaven 185 = .ok (.dup2, 1) := by decide +kernel
theorem dX12_leaven_186 : decode cX12_leaven 186 = .ok (.iaload, 1) := by decide +kernel
theorem dX12_leaven_187 : decode cX12_leaven 187 = .ok (.iconst 1, 1) := by decide +kernel
theorem dX12_leaven_188 : decode cX12_leaven 188 = .ok (.iadd, 1) := by decide +kernel
theorem dX12_leaven_189 : decode cX12_leaven 189 = .ok (.iastore, 1) := by decide +kernel
theorem dX12_leaven_190 : decode cX12_leaven 190 = .ok (.aload_n 0, 1) := by decide +kernel
theorem dX12_leaven_191 : decode cX12_leaven 191 = .ok (.getfield 7, 3) := by decide +kernel
theorem dX12_leaven_194 : decode cX12_leaven 194 = .ok (.sipush 585, 3) := by decide +kernel
theorem dX12_leaven_197 : decode cX12_leaven 197 = .ok (.iaload, 1) := by decide +kernel
theorem dX12_leaven_198 : decode cX12_leaven 198 = .ok (.iconst 1, 1) := by decide +kernel
theorem dX12_leaven_199 : decode cX12_leaven 199 = .ok (.isub, 1) := by decide +kernel
theorem dX12_leaven_200 : decode cX12_leaven 200 = .ok (.ireturn, 1) := by decide +kernel
theorem dX12_laysParts_0 : decode cX12_laysParts 0 = .ok (.iconst 0, 1) := by decide +kernel
theorem dX12_laysParts_1 : decode cX12_laysParts 1 = .ok (.istore_n 2, 1) := by decide +kernel
theorem dX12_laysParts_2 : decode cX12_laysParts 2 = .ok (.iload_n 2, 1) := by decide +kernel
theorem dX12_laysParts_3 : decode cX12_laysParts 3 = .ok (.aload_n 0, 1) := by decide +kernel
theorem dX12_laysParts_4 : decode cX12_laysParts 4 = .ok (.getfield 7, 3) := by decide +kernel
theorem dX12_laysParts_7 : decode cX12_laysParts 7 = .ok (.sipush 585, 3) := by decide +kernel
theorem dX12_laysParts_10 : decode cX12_laysParts 10 = .ok (.iaload, 1) := by decide +kernel
theorem dX12_laysParts_11 : decode cX12_laysParts 11 = .ok (.if_icmp .ge 109, 3) := by decide +kernel
theorem dX12_laysParts_14 : decode cX12_laysParts 14 = .ok (.aload_n 0, 1) := by decide +kernel
theorem dX12_laysParts_15 : decode cX12_laysParts 15 = .ok (.iload_n 2, 1) := by decide +kernel
theorem dX12_laysParts_16 : decode cX12_laysParts 16 = .ok (.iconst 0, 1) := by decide +kernel
theorem dX12_laysParts_17 : decode cX12_laysParts 17 = .ok (.invokevirtual 294, 3) := by decide +kernel
theorem dX12_laysParts_20 : decode cX12_laysParts 20 = .ok (.istore_n 3, 1) := by decide +kernel
theorem dX12_laysParts_21 : decode cX12_laysParts 21 = .ok (.aload_n 0, 1) := by decide +kernel
theorem dX12_laysParts_22 : decode cX12_laysParts 22 = .ok (.iload_n 2, 1) := by decide +kernel
theorem dX12_laysParts_23 : decode cX12_laysParts 23 = .ok (.iconst 1, 1) := by decide +kernel
theorem dX12_laysParts_24 : decode cX12_laysParts 24 = .ok (.invokevirtual 294, 3) := by decide +kernel
theorem dX12_laysParts_27 : decode cX12_laysParts 27 = .ok (.istore 4, 2) := by decide +kernel
theorem dX12_laysParts_29 : decode cX12_laysParts 29 = .ok (.aload_n 0, 1) := by decide +kernel
theorem dX12_laysParts_30 : decode cX12_laysParts 30 = .ok (.iload_n 2, 1) := by decide +kernel
theorem dX12_laysParts_31 : decode cX12_laysParts 31 = .ok (.iconst 3, 1) := by decide +kernel
theorem dX12_laysParts_32 : decode cX12_laysParts 32 = .ok (.invokevirtual 294, 3) := by decide +kernel
theorem dX12_laysParts_35 : decode cX12_laysParts 35 = .ok (.istore 5, 2) := by decide +kernel
theorem dX12_laysParts_37 : decode cX12_laysParts 37 = .ok (.aload_n 0, 1) := by decide +kernel
theorem dX12_laysParts_38 : decode cX12_laysParts 38 = .ok (.getfield 59, 3) := by decide +kernel
theorem dX12_laysParts_41 : decode cX12_laysParts 41 = .ok (.iload_n 2, 1) := by decide +kernel
theorem dX12_laysParts_42 : decode cX12_laysParts 42 = .ok (.iload_n 2, 1) := by decide +kernel
theorem dX12_laysParts_43 : decode cX12_laysParts 43 = .ok (.iload_n 1, 1) := by decide +kernel
theorem dX12_laysParts_44 : decode cX12_laysParts 44 = .ok (.if_icmp .ne 10, 3) := by decide +kernel
theorem dX12_laysParts_47 : decode cX12_laysParts 47 = .ok (.lconst 1, 1) := by decide +kernel
theorem dX12_laysParts_48 : decode cX12_laysParts 48 = .ok (.iload 5, 2) := by decide +kernel
theorem dX12_laysParts_50 : decode cX12_laysParts 50 = .ok (.lshl, 1) := by decide +kernel
theorem dX12_laysParts_51 : decode cX12_laysParts 51 = .ok (.goto 4, 3) := by decide +kernel
theorem dX12_laysParts_54 : decode cX12_laysParts 54 = .ok (.lconst 0, 1) := by decide +kernel
theorem dX12_laysParts_55 : decode cX12_laysParts 55 = .ok (.lastore, 1) := by decide +kernel
theorem dX12_laysParts_56 : decode cX12_laysParts 56 = .ok (.iload_n 2, 1) := by decide +kernel
theorem dX12_laysParts_57 : decode cX12_laysParts 57 = .ok (.iload_n 1, 1) := by decide +kernel
theorem dX12_laysParts_58 : decode cX12_laysParts 58 = .ok (.if_icmp .eq 56, 3) := by decide +kernel
theorem dX12_laysParts_61 : decode cX12_laysParts 61 = .ok (.iload_n 3, 1) := by decide +kernel
theorem dX12_laysParts_62 : decode cX12_laysParts 62 = .ok (.iconst (-1), 1) := by decide +kernel
theorem dX12_laysParts_63 : decode cX12_laysParts 63 = .ok (.if_icmp .ne 6, 3) := by decide +kernel
theorem dX12_laysParts_66 : decode cX12_laysParts 66 = .ok (.goto 48, 3) := by decide +kernel
theorem dX12_laysParts_69 : decode cX12_laysParts 69 = .ok (.aload_n 0, 1) := by decide +kernel
theorem dX12_laysParts_70 : decode cX12_laysParts 70 = .ok (.getfield 59, 3) := by decide +kernel
theorem dX12_laysParts_73 : decode cX12_laysParts 73 = .ok (.iload_n 2, 1) := by decide +kernel
theorem dX12_laysParts_74 : decode cX12_laysParts 74 = .ok (.aload_n 0, 1) := by decide +kernel
theorem dX12_laysParts_75 : decode cX12_laysParts 75 = .ok (.getfield 59, 3) := by decide +kernel
theorem dX12_laysParts_78 : decode cX12_laysParts 78 = .ok (.iload_n 3, 1) := by decide +kernel
theorem dX12_laysParts_79 : decode cX12_laysParts 79 = .ok (.laload, 1) := by decide +kernel
theorem dX12_laysParts_80 : decode cX12_laysParts 80 = .ok (.iload 5, 2) := by decide +kernel
theorem dX12_laysParts_82 : decode cX12_laysParts 82 = .ok (.iconst 1, 1) := by decide +kernel
theorem dX12_laysParts_83 : decode cX12_laysParts 83 = .ok (.isub, 1) := by decide +kernel
theorem dX12_laysParts_84 : decode cX12_laysParts 84 = .ok (.aload_n 0, 1) := by decide +kernel
theorem dX12_laysParts_85 : decode cX12_laysParts 85 = .ok (.iload_n 3, 1) := by decide +kernel
theorem dX12_laysParts_86 : decode cX12_laysParts 86 = .ok (.iconst 3, 1) := by decide +kernel
theorem dX12_laysParts_87 : decode cX12_laysParts 87 = .ok (.invokevirtual 294, 3) := by decide +kernel
theorem dX12_laysParts_90 : decode cX12_laysParts 90 = .ok (.isub, 1) := by decide +kernel
theorem dX12_laysParts_91 : decode cX12_laysParts 91 = .ok (.lshl, 1) := by decide +kernel
theorem dX12_laysParts_92 : decode cX12_laysParts 92 = .ok (.aload_n 0, 1) := by decide +kernel
theorem dX12_laysParts_93 : decode cX12_laysParts 93 = .ok (.getfield 59, 3) := by decide +kernel
theorem dX12_laysParts_96 : decode cX12_laysParts 96 = .ok (.iload 4, 2) := by decide +kernel
theorem dX12_laysParts_98 : decode cX12_laysParts 98 = .ok (.laload, 1) := by decide +kernel
theorem dX12_laysParts_99 : decode cX12_laysParts 99 = .ok (.iload 5, 2) := by decide +kernel
theorem dX12_laysParts_101 : decode cX12_laysParts 101 = .ok (.iconst 1, 1) := by decide +kernel
theorem dX12_laysParts_102 : decode cX12_laysParts 102 = .ok (.isub, 1) := by decide +kernel
theorem dX12_laysParts_103 : decode cX12_laysParts 103 = .ok (.aload_n 0, 1) := by decide +kernel
theorem dX12_laysParts_104 : decode cX12_laysParts 104 = .ok (.iload 4, 2) := by decide +kernel
theorem dX12_laysParts_106 : decode cX12_laysParts 106 = .ok (.iconst 3, 1) := by decide +kernel
theorem dX12_laysParts_107 : decode cX12_laysParts 107 = .ok (.invokevirtual 294, 3) := by decide +kernel
theorem dX12_laysParts_110 : decode cX12_laysParts 110 = .ok (.isub, 1) := by decide +kernel
theorem dX12_laysParts_111 : decode cX12_laysParts 111 = .ok (.lshl, 1) := by decide +kernel
theorem dX12_laysParts_112 : decode cX12_laysParts 112 = .ok (.ladd, 1) := by decide +kernel
theorem dX12_laysParts_113 : decode cX12_laysParts 113 = .ok (.lastore, 1) := by decide +kernel
theorem dX12_laysParts_114 : decode cX12_laysParts 114 = .ok (.iinc 2 1, 3) := by decide +kernel
theorem dX12_laysParts_117 : decode cX12_laysParts 117 = .ok (.goto (-115), 3) := by decide +kernel
theorem dX12_laysParts_120 : decode cX12_laysParts 120 = .ok (.return_, 1) := by decide +kernel
theorem dX12_part_0 : decode cX12_part 0 = .ok (.aload_n 0, 1) := by decide +kernel
theorem dX12_part_1 : decode cX12_part 1 = .ok (.iload_n 1, 1) := by decide +kernel
theorem dX12_part_2 : decode cX12_part 2 = .ok (.invokevirtual 291, 3) := by decide +kernel
theorem dX12_part_5 : decode cX12_part 5 = .ok (.ifCond .eq 30, 3) := by decide +kernel
theorem dX12_part_8 : decode cX12_part 8 = .ok (.aload_n 0, 1) := by decide +kernel
theorem dX12_part_9 : decode cX12_part 9 = .ok (.iload_n 2, 1) := by decide +kernel
theorem dX12_part_10 : decode cX12_part 10 = .ok (.invokevirtual 291, 3) := by decide +kernel
theorem dX12_part_13 : decode cX12_part 13 = .ok (.ifCond .eq 22, 3) := by decide +kernel
theorem dX12_part_16 : decode cX12_part 16 = .ok (.aload_n 0, 1) := by decide +kernel
theorem dX12_part_17 : decode cX12_part 17 = .ok (.iload_n 2, 1) := by decide +kernel
theorem dX12_part_18 : decode cX12_part 18 = .ok (.iconst 0, 1) := by decide +kernel
theorem dX12_part_19 : decode cX12_part 19 = .ok (.invokevirtual 294, 3) := by decide +kernel
theorem dX12_part_22 : decode cX12_part 22 = .ok (.iconst (-1), 1) := by decide +kernel
theorem dX12_part_23 : decode cX12_part 23 = .ok (.if_icmp .ne 12, 3) := by decide +kernel
theorem dX12_part_26 : decode cX12_part 26 = .ok (.iload_n 3, 1) := by decide +kernel
theorem dX12_part_27 : decode cX12_part 27 = .ok (.iconst 0, 1) := by decide +kernel
theorem dX12_part_28 : decode cX12_part 28 = .ok (.iconst 1, 1) := by decide +kernel
theorem dX12_part_29 : decode cX12_part 29 = .ok (.invokestatic 66, 3) := by decide +kernel
theorem dX12_part_32 : decode cX12_part 32 = .ok (.ifCond .ne 5, 3) := by decide +kernel
theorem dX12_part_35 : decode cX12_part 35 = .ok (.iconst (-1), 1) := by decide +kernel
theorem dX12_part_36 : decode cX12_part 36 = .ok (.ireturn, 1) := by decide +kernel
theorem dX12_part_37 : decode cX12_part 37 = .ok (.aload_n 0, 1) := by decide +kernel
theorem dX12_part_38 : decode cX12_part 38 = .ok (.iload_n 2, 1) := by decide +kernel
theorem dX12_part_39 : decode cX12_part 39 = .ok (.invokevirtual 297, 3) := by decide +kernel
theorem dX12_part_42 : decode cX12_part 42 = .ok (.aload_n 0, 1) := by decide +kernel
theorem dX12_part_43 : decode cX12_part 43 = .ok (.getfield 59, 3) := by decide +kernel
theorem dX12_part_46 : decode cX12_part 46 = .ok (.iload_n 1, 1) := by decide +kernel
theorem dX12_part_47 : decode cX12_part 47 = .ok (.laload, 1) := by decide +kernel
theorem dX12_part_48 : decode cX12_part 48 = .ok (.lstore 4, 2) := by decide +kernel
theorem dX12_part_50 : decode cX12_part 50 = .ok (.lconst 1, 1) := by decide +kernel
theorem dX12_part_51 : decode cX12_part 51 = .ok (.aload_n 0, 1) := by decide +kernel
theorem dX12_part_52 : decode cX12_part 52 = .ok (.iload_n 1, 1) := by decide +kernel
theorem dX12_part_53 : decode cX12_part 53 = .ok (.iconst 3, 1) := by decide +kernel
theorem dX12_part_54 : decode cX12_part 54 = .ok (.invokevirtual 294, 3) := by decide +kernel
theorem dX12_part_57 : decode cX12_part 57 = .ok (.lshl, 1) := by decide +kernel
theorem dX12_part_58 : decode cX12_part 58 = .ok (.lstore 6, 2) := by decide +kernel
theorem dX12_part_60 : decode cX12_part 60 = .ok (.lload 4, 2) := by decide +kernel
theorem dX12_part_62 : decode cX12_part 62 = .ok (.lconst 0, 1) := by decide +kernel
theorem dX12_part_63 : decode cX12_part 63 = .ok (.lcmp, 1) := by decide +kernel
theorem dX12_part_64 : decode cX12_part 64 = .ok (.ifCond .ne 5, 3) := by decide +kernel
theorem dX12_part_67 : decode cX12_part 67 = .ok (.iload_n 3, 1) := by decide +kernel
theorem dX12_part_68 : decode cX12_part 68 = .ok (.ireturn, 1) := by decide +kernel
theorem dX12_part_69 : decode cX12_part 69 = .ok (.lload 4, 2) := by decide +kernel
theorem dX12_part_71 : decode cX12_part 71 = .ok (.ldc2_w 300, 3) := by decide +kernel
theorem dX12_part_74 : decode cX12_part 74 = .ok (.lrem, 1) := by decide +kernel
theorem dX12_part_75 : decode cX12_part 75 = .ok (.lconst 0, 1) := by decide +kernel
theorem dX12_part_76 : decode cX12_part 76 = .ok (.lcmp, 1) := by decide +kernel
theorem dX12_part_77 : decode cX12_part 77 = .ok (.ifCond .ne 29, 3) := by decide +kernel
theorem dX12_part_80 : decode cX12_part 80 = .ok (.lload 6, 2) := by decide +kernel
theorem dX12_part_82 : decode cX12_part 82 = .ok (.lconst 1, 1) := by decide +kernel
theorem dX12_part_83 : decode cX12_part 83 = .ok (.lcmp, 1) := by decide +kernel
theorem dX12_part_84 : decode cX12_part 84 = .ok (.ifCond .le 22, 3) := by decide +kernel
theorem dX12_part_87 : decode cX12_part 87 = .ok (.lload 4, 2) := by decide +kernel
theorem dX12_part_89 : decode cX12_part 89 = .ok (.ldc2_w 300, 3) := by decide +kernel
theorem dX12_part_92 : decode cX12_part 92 = .ok (.ldiv, 1) := by decide +kernel
theorem dX12_part_93 : decode cX12_part 93 = .ok (.lstore 4, 2) := by decide +kernel
theorem dX12_part_95 : decode cX12_part 95 = .ok (.lload 6, 2) := by decide +kernel
theorem dX12_part_97 : decode cX12_part 97 = .ok (.ldc2_w 300, 3) := by decide +kernel
theorem dX12_part_100 : decode cX12_part 100 = .ok (.ldiv, 1) := by decide +kernel
theorem dX12_part_101 : decode cX12_part 101 = .ok (.lstore 6, 2) := by decide +kernel
theorem dX12_part_103 : decode cX12_part 103 = .ok (.goto (-34), 3) := by decide +kernel
theorem dX12_part_106 : decode cX12_part 106 = .ok (.iload_n 3, 1) := by decide +kernel
theorem dX12_part_107 : decode cX12_part 107 = .ok (.ifCond .ne 8, 3) := by decide +kernel
theorem dX12_part_110 : decode cX12_part 110 = .ok (.lload 4, 2) := by decide +kernel
theorem dX12_part_112 : decode cX12_part 112 = .ok (.goto 5, 3) := by decide +kernel
theorem dX12_part_115 : decode cX12_part 115 = .ok (.lload 6, 2) := by decide +kernel
theorem dX12_part_117 : decode cX12_part 117 = .ok (.l2i, 1) := by decide +kernel
theorem dX12_part_118 : decode cX12_part 118 = .ok (.ireturn, 1) := by decide +kernel
theorem dX12_isLed_0 : decode cX12_isLed 0 = .ok (.aload_n 0, 1) := by decide +kernel
theorem dX12_isLed_1 : decode cX12_isLed 1 = .ok (.iload_n 2, 1) := by decide +kernel
theorem dX12_isLed_2 : decode cX12_isLed 2 = .ok (.invokevirtual 297, 3) := by decide +kernel
theorem dX12_isLed_5 : decode cX12_isLed 5 = .ok (.aload_n 0, 1) := by decide +kernel
theorem dX12_isLed_6 : decode cX12_isLed 6 = .ok (.getfield 59, 3) := by decide +kernel
theorem dX12_isLed_9 : decode cX12_isLed 9 = .ok (.iload_n 1, 1) := by decide +kernel
theorem dX12_isLed_10 : decode cX12_isLed 10 = .ok (.laload, 1) := by decide +kernel
theorem dX12_isLed_11 : decode cX12_isLed 11 = .ok (.lconst 0, 1) := by decide +kernel
theorem dX12_isLed_12 : decode cX12_isLed 12 = .ok (.lcmp, 1) := by decide +kernel
theorem dX12_isLed_13 : decode cX12_isLed 13 = .ok (.ifCond .le 7, 3) := by decide +kernel
theorem dX12_isLed_16 : decode cX12_isLed 16 = .ok (.iconst 1, 1) := by decide +kernel
theorem dX12_isLed_17 : decode cX12_isLed 17 = .ok (.goto 4, 3) := by decide +kernel
theorem dX12_isLed_20 : decode cX12_isLed 20 = .ok (.iconst 0, 1) := by decide +kernel
theorem dX12_isLed_21 : decode cX12_isLed 21 = .ok (.ireturn, 1) := by decide +kernel
theorem dX12_led_0 : decode cX12_led 0 = .ok (.aload_n 0, 1) := by decide +kernel
theorem dX12_led_1 : decode cX12_led 1 = .ok (.iload_n 1, 1) := by decide +kernel
theorem dX12_led_2 : decode cX12_led 2 = .ok (.invokevirtual 291, 3) := by decide +kernel
theorem dX12_led_5 : decode cX12_led 5 = .ok (.ifCond .eq 11, 3) := by decide +kernel
theorem dX12_led_8 : decode cX12_led 8 = .ok (.aload_n 0, 1) := by decide +kernel
theorem dX12_led_9 : decode cX12_led 9 = .ok (.iload_n 2, 1) := by decide +kernel
theorem dX12_led_10 : decode cX12_led 10 = .ok (.invokevirtual 291, 3) := by decide +kernel
theorem dX12_led_13 : decode cX12_led 13 = .ok (.ifCond .ne 7, 3) := by decide +kernel
theorem dX12_led_16 : decode cX12_led 16 = .ok (.iconst (-1), 1) := by decide +kernel
theorem dX12_led_17 : decode cX12_led 17 = .ok (.goto 17, 3) := by decide +kernel
theorem dX12_led_20 : decode cX12_led 20 = .ok (.aload_n 0, 1) := by decide +kernel
theorem dX12_led_21 : decode cX12_led 21 = .ok (.iload_n 1, 1) := by decide +kernel
theorem dX12_led_22 : decode cX12_led 22 = .ok (.iload_n 2, 1) := by decide +kernel
theorem dX12_led_23 : decode cX12_led 23 = .ok (.invokevirtual 302, 3) := by decide +kernel
theorem dX12_led_26 : decode cX12_led 26 = .ok (.ifCond .eq 7, 3) := by decide +kernel
theorem dX12_led_29 : decode cX12_led 29 = .ok (.iconst 1, 1) := by decide +kernel
theorem dX12_led_30 : decode cX12_led 30 = .ok (.goto 4, 3) := by decide +kernel
theorem dX12_led_33 : decode cX12_led 33 = .ok (.iconst 0, 1) := by decide +kernel
theorem dX12_led_34 : decode cX12_led 34 = .ok (.ireturn, 1) := by decide +kernel
theorem dX12_lent_0 : decode cX12_lent 0 = .ok (.aload_n 0, 1) := by decide +kernel
theorem dX12_lent_1 : decode cX12_lent 1 = .ok (.iload_n 1, 1) := by decide +kernel
theorem dX12_lent_2 : decode cX12_lent 2 = .ok (.invokevirtual 291, 3) := by decide +kernel
theorem dX12_lent_5 : decode cX12_lent 5 = .ok (.ifCond .eq 12, 3) := by decide +kernel
theorem dX12_lent_8 : decode cX12_lent 8 = .ok (.iload_n 2, 1) := by decide +kernel
theorem dX12_lent_9 : decode cX12_lent 9 = .ok (.iconst 0, 1) := by decide +kernel
theorem dX12_lent_10 : decode cX12_lent 10 = .ok (.iconst 4, 1) := by decide +kernel
theorem dX12_lent_11 : decode cX12_lent 11 = .ok (.invokestatic 66, 3) := by decide +kernel
theorem dX12_lent_14 : decode cX12_lent 14 = .ok (.ifCond .ne 6, 3) := by decide +kernel
theorem dX12_lent_17 : decode cX12_lent 17 = .ok (.bipush (-2), 2) := by decide +kernel
theorem dX12_lent_19 : decode cX12_lent 19 = .ok (.ireturn, 1) := by decide +kernel
theorem dX12_lent_20 : decode cX12_lent 20 = .ok (.iload_n 2, 1) := by decide +kernel
theorem dX12_lent_21 : decode cX12_lent 21 = .ok (.iconst 2, 1) := by decide +kernel
theorem dX12_lent_22 : decode cX12_lent 22 = .ok (.if_icmp .ge 12, 3) := by decide +kernel
theorem dX12_lent_25 : decode cX12_lent 25 = .ok (.aload_n 0, 1) := by decide +kernel
theorem dX12_lent_26 : decode cX12_lent 26 = .ok (.iload_n 1, 1) := by decide +kernel
theorem dX12_lent_27 : decode cX12_lent 27 = .ok (.iconst 3, 1) := by decide +kernel
theorem dX12_lent_28 : decode cX12_lent 28 = .ok (.iload_n 2, 1) := by decide +kernel
theorem dX12_lent_29 : decode cX12_lent 29 = .ok (.isub, 1) := by decide +kernel
theorem dX12_lent_30 : decode cX12_lent 30 = .ok (.invokevirtual 294, 3) := by decide +kernel
theorem dX12_lent_33 : decode cX12_lent 33 = .ok (.ireturn, 1) := by decide +kernel
theorem dX12_lent_34 : decode cX12_lent 34 = .ok (.iload_n 2, 1) := by decide +kernel
theorem dX12_lent_35 : decode cX12_lent 35 = .ok (.iconst 4, 1) := by decide +kernel
theorem dX12_lent_36 : decode cX12_lent 36 = .ok (.if_icmp .ge 12, 3) := by decide +kernel
theorem dX12_lent_39 : decode cX12_lent 39 = .ok (.aload_n 0, 1) := by decide +kernel
theorem dX12_lent_40 : decode cX12_lent 40 = .ok (.iload_n 1, 1) := by decide +kernel
theorem dX12_lent_41 : decode cX12_lent 41 = .ok (.iload_n 2, 1) := by decide +kernel
theorem dX12_lent_42 : decode cX12_lent 42 = .ok (.iconst 2, 1) := by decide +kernel
theorem dX12_lent_43 : decode cX12_lent 43 = .ok (.isub, 1) := by decide +kernel
theorem dX12_lent_44 : decode cX12_lent 44 = .ok (.invokevirtual 294, 3) := by decide +kernel
theorem dX12_lent_47 : decode cX12_lent 47 = .ok (.ireturn, 1) := by decide +kernel
theorem dX12_lent_48 : decode cX12_lent 48 = .ok (.iconst 0, 1) := by decide +kernel
theorem dX12_lent_49 : decode cX12_lent 49 = .ok (.istore_n 3, 1) := by decide +kernel
theorem dX12_lent_50 : decode cX12_lent 50 = .ok (.iconst 0, 1) := by decide +kernel
theorem dX12_lent_51 : decode cX12_lent 51 = .ok (.istore 4, 2) := by decide +kernel
theorem dX12_lent_53 : decode cX12_lent 53 = .ok (.iload 4, 2) := by decide +kernel
theorem dX12_lent_55 : decode cX12_lent 55 = .ok (.iload_n 1, 1) := by decide +kernel
theorem dX12_lent_56 : decode cX12_lent 56 = .ok (.if_icmp .gt 42, 3) := by decide +kernel
theorem dX12_lent_59 : decode cX12_lent 59 = .ok (.aload_n 0, 1) := by decide +kernel
theorem dX12_lent_60 : decode cX12_lent 60 = .ok (.iload 4, 2) := by decide +kernel
theorem dX12_lent_62 : decode cX12_lent 62 = .ok (.iconst 0, 1) := by decide +kernel
theorem dX12_lent_63 : decode cX12_lent 63 = .ok (.invokevirtual 294, 3) := by decide +kernel
theorem dX12_lent_66 : decode cX12_lent 66 = .ok (.iconst (-1), 1) := by decide +kernel
theorem dX12_lent_67 : decode cX12_lent 67 = .ok (.if_icmp .ne 25, 3) := by decide +kernel
theorem dX12_lent_70 : decode cX12_lent 70 = .ok (.aload_n 0, 1) := by decide +kernel
theorem dX12_lent_71 : decode cX12_lent 71 = .ok (.iload_n 1, 1) := by decide +kernel
theorem dX12_lent_72 : decode cX12_lent 72 = .ok (.iload 4, 2) := by decide +kernel
theorem dX12_lent_74 : decode cX12_lent 74 = .ok (.invokevirtual 302, 3) := by decide +kernel
theorem dX12_lent_77 : decode cX12_lent 77 = .ok (.ifCond .eq 15, 3) := by decide +kernel
theorem dX12_lent_80 : decode cX12_lent 80 = .ok (.iload_n 3, 1) := by decide +kernel
theorem dX12_lent_81 : decode cX12_lent 81 = .ok (.iconst 1, 1) := by decide +kernel
theorem dX12_lent_82 : decode cX12_lent 82 = .ok (.aload_n 0, 1) := by decide +kernel
theorem dX12_lent_83 : decode cX12_lent 83 = .ok (.iload 4, 2) := by decide +kernel
theorem dX12_lent_85 : decode cX12_lent 85 = .ok (.iconst 2, 1) := by decide +kernel
theorem dX12_lent_86 : decode cX12_lent 86 = .ok (.invokevirtual 294, 3) := by decide +kernel
theorem dX12_lent_89 : decode cX12_lent 89 = .ok (.ishl, 1) := by decide +kernel
theorem dX12_lent_90 : decode cX12_lent 90 = .ok (.ior, 1) := by decide +kernel
theorem dX12_lent_91 : decode cX12_lent 91 = .ok (.istore_n 3, 1) := by decide +kernel
theorem dX12_lent_92 : decode cX12_lent 92 = .ok (.iinc 4 1, 3) := by decide +kernel
theorem dX12_lent_95 : decode cX12_lent 95 = .ok (.goto (-42), 3) := by decide +kernel
theorem dX12_lent_98 : decode cX12_lent 98 = .ok (.iconst 0, 1) := by decide +kernel
theorem dX12_lent_99 : decode cX12_lent 99 = .ok (.istore 4, 2) := by decide +kernel
theorem dX12_lent_101 : decode cX12_lent 101 = .ok (.iconst 0, 1) := by decide +kernel
theorem dX12_lent_102 : decode cX12_lent 102 = .ok (.istore 5, 2) := by decide +kernel
theorem dX12_lent_104 : decode cX12_lent 104 = .ok (.iload 5, 2) := by decide +kernel
theorem dX12_lent_106 : decode cX12_lent 106 = .ok (.bipush 9, 2) := by decide +kernel
theorem dX12_lent_108 : decode cX12_lent 108 = .ok (.if_icmp .ge 20, 3) := by decide +kernel
theorem dX12_lent_111 : decode cX12_lent 111 = .ok (.iload 4, 2) := by decide +kernel
theorem dX12_lent_113 : decode cX12_lent 113 = .ok (.iload_n 3, 1) := by decide +kernel
theorem dX12_lent_114 : decode cX12_lent 114 = .ok (.iload 5, 2) := by decide +kernel
theorem dX12_lent_116 : decode cX12_lent 116 = .ok (.ishr, 1) := by decide +kernel
theorem dX12_lent_117 : decode cX12_lent 117 = .ok (.iconst 1, 1) := by decide +kernel
theorem dX12_lent_118 : decode cX12_lent 118 = .ok (.iand, 1) := by decide +kernel
theorem dX12_lent_119 : decode cX12_lent 119 = .ok (.iadd, 1) := by decide +kernel
theorem dX12_lent_120 : decode cX12_lent 120 = .ok (.istore 4, 2) := by decide +kernel
theorem dX12_lent_122 : decode cX12_lent 122 = .ok (.iinc 5 1, 3) := by decide +kernel
theorem dX12_lent_125 : decode cX12_lent 125 = .ok (.goto (-21), 3) := by decide +kernel
theorem dX12_lent_128 : decode cX12_lent 128 = .ok (.iload 4, 2) := by decide +kernel
theorem dX12_lent_130 : decode cX12_lent 130 = .ok (.ireturn, 1) := by decide +kernel
theorem dX12_rise_0 : decode cX12_rise 0 = .ok (.iload_n 1, 1) := by decide +kernel
theorem dX12_rise_1 : decode cX12_rise 1 = .ok (.iconst 0, 1) := by decide +kernel
theorem dX12_rise_2 : decode cX12_rise 2 = .ok (.bipush 7, 2) := by decide +kernel
theorem dX12_rise_4 : decode cX12_rise 4 = .ok (.invokestatic 66, 3) := by decide +kernel
theorem dX12_rise_7 : decode cX12_rise 7 = .ok (.ifCond .eq 23, 3) := by decide +kernel
theorem dX12_rise_10 : decode cX12_rise 10 = .ok (.iload_n 2, 1) := by decide +kernel
theorem dX12_rise_11 : decode cX12_rise 11 = .ok (.iconst 0, 1) := by decide +kernel
theorem dX12_rise_12 : decode cX12_rise 12 = .ok (.bipush 7, 2) := by decide +kernel
theorem dX12_rise_14 : decode cX12_rise 14 = .ok (.invokestatic 66, 3) := by decide +kernel
theorem dX12_rise_17 : decode cX12_rise 17 = .ok (.ifCond .eq 13, 3) := by decide +kernel
theorem dX12_rise_20 : decode cX12_rise 20 = .ok (.iload_n 3, 1) := by decide +kernel
theorem dX12_rise_21 : decode cX12_rise 21 = .ok (.iconst 0, 1) := by decide +kernel
theorem dX12_rise_22 : decode cX12_rise 22 = .ok (.bipush 9, 2) := by decide +kernel
theorem dX12_rise_24 : decode cX12_rise 24 = .ok (.invokestatic 66, 3) := by decide +kernel
theorem dX12_rise_27 : decode cX12_rise 27 = .ok (.ifCond .ne 5, 3) := by decide +kernel
theorem dX12_rise_30 : decode cX12_rise 30 = .ok (.iconst 0, 1) := by decide +kernel
theorem dX12_rise_31 : decode cX12_rise 31 = .ok (.ireturn, 1) := by decide +kernel
theorem dX12_rise_32 : decode cX12_rise 32 = .ok (.aload_n 0, 1) := by decide +kernel
theorem dX12_rise_33 : decode cX12_rise 33 = .ok (.getfield 7, 3) := by decide +kernel
theorem dX12_rise_36 : decode cX12_rise 36 = .ok (.sipush 270, 3) := by decide +kernel
theorem dX12_rise_39 : decode cX12_rise 39 = .ok (.bipush 8, 2) := by decide +kernel
theorem dX12_rise_41 : decode cX12_rise 41 = .ok (.iload_n 1, 1) := by decide +kernel
theorem dX12_rise_42 : decode cX12_rise 42 = .ok (.imul, 1) := by decide +kernel
theorem dX12_rise_43 : decode cX12_rise 43 = .ok (.iadd, 1) := by decide +kernel
theorem dX12_rise_44 : decode cX12_rise 44 = .ok (.iload_n 2, 1) := by decide +kernel
theorem dX12_rise_45 : decode cX12_rise 45 = .ok (.iadd, 1) := by decide +kernel
theorem dX12_rise_46 : decode cX12_rise 46 = .ok (.iload_n 3, 1) := by decide +kernel
theorem dX12_rise_47 : decode cX12_rise 47 = .ok (.iastore, 1) := by decide +kernel
theorem dX12_rise_48 : decode cX12_rise 48 = .ok (.iconst 1, 1) := by decide +kernel
theorem dX12_rise_49 : decode cX12_rise 49 = .ok (.ireturn, 1) := by decide +kernel
theorem dX12_laysOdds_0 : decode cX12_laysOdds 0 = .ok (.aload_n 0, 1) := by decide +kernel
theorem dX12_laysOdds_1 : decode cX12_laysOdds 1 = .ok (.aload_n 0, 1) := by decide +kernel
theorem dX12_laysOdds_2 : decode cX12_laysOdds 2 = .ok (.iload_n 1, 1) := by decide +kernel
theorem dX12_laysOdds_3 : decode cX12_laysOdds 3 = .ok (.bipush 9, 2) := by decide +kernel
theorem dX12_laysOdds_5 : decode cX12_laysOdds 5 = .ok (.invokevirtual 220, 3) := by decide +kernel
theorem dX12_laysOdds_8 : decode cX12_laysOdds 8 = .ok (.iload_n 2, 1) := by decide +kernel
theorem dX12_laysOdds_9 : decode cX12_laysOdds 9 = .ok (.if_icmp .ne 7, 3) := by decide +kernel
theorem dX12_laysOdds_12 : decode cX12_laysOdds 12 = .ok (.lconst 1, 1) := by decide +kernel
theorem dX12_laysOdds_13 : decode cX12_laysOdds 13 = .ok (.goto 4, 3) := by decide +kernel
theorem dX12_laysOdds_16 : decode cX12_laysOdds 16 = .ok (.lconst 0, 1) := by decide +kernel
theorem dX12_laysOdds_17 : decode cX12_laysOdds 17 = .ok (.putfield 306, 3) := by decide +kernel
theorem dX12_laysOdds_20 : decode cX12_laysOdds 20 = .ok (.aload_n 0, 1) := by decide +kernel
theorem dX12_laysOdds_21 : decode cX12_laysOdds 21 = .ok (.lconst 1, 1) := by decide +kernel
theorem dX12_laysOdds_22 : decode cX12_laysOdds 22 = .ok (.putfield 310, 3) := by decide +kernel
theorem dX12_laysOdds_25 : decode cX12_laysOdds 25 = .ok (.iconst 0, 1) := by decide +kernel
theorem dX12_laysOdds_26 : decode cX12_laysOdds 26 = .ok (.istore_n 3, 1) := by decide +kernel
theorem dX12_laysOdds_27 : decode cX12_laysOdds 27 = .ok (.iload_n 3, 1) := by decide +kernel
theorem dX12_laysOdds_28 : decode cX12_laysOdds 28 = .ok (.iload_n 2, 1) := by decide +kernel
theorem dX12_laysOdds_29 : decode cX12_laysOdds 29 = .ok (.if_icmp .ge 116, 3) := by decide +kernel
theorem dX12_laysOdds_32 : decode cX12_laysOdds 32 = .ok (.aload_n 0, 1) := by decide +kernel
theorem dX12_laysOdds_33 : decode cX12_laysOdds 33 = .ok (.getfield 306, 3) := by decide +kernel
theorem dX12_laysOdds_36 : decode cX12_laysOdds 36 = .ok (.lconst 0, 1) := by decide +kernel
theorem dX12_laysOdds_37 : decode cX12_laysOdds 37 = .ok (.lcmp, 1) := by decide +kernel
theorem dX12_laysOdds_38 : decode cX12_laysOdds 38 = .ok (.ifCond .le 107, 3) := by decide +kernel
theorem dX12_laysOdds_41 : decode cX12_laysOdds 41 = .ok (.aload_n 0, 1) := by decide +kernel
theorem dX12_laysOdds_42 : decode cX12_laysOdds 42 = .ok (.iload_n 1, 1) := by decide +kernel
theorem dX12_laysOdds_43 : decode cX12_laysOdds 43 = .ok (.bipush 10, 2) := by decide +kernel
theorem dX12_laysOdds_45 : decode cX12_laysOdds 45 = .ok (.iload_n 3, 1) := by decide +kernel
theorem dX12_laysOdds_46 : decode cX12_laysOdds 46 = .ok (.iadd, 1) := by decide +kernel
theorem dX12_laysOdds_47 : decode cX12_laysOdds 47 = .ok (.invokevirtual 220, 3) := by decide +kernel
theorem dX12_laysOdds_50 : decode cX12_laysOdds 50 = .ok (.istore 4, 2) := by decide +kernel
theorem dX12_laysOdds_52 : decode cX12_laysOdds 52 = .ok (.iconst 0, 1) := by decide +kernel
theorem dX12_laysOdds_53 : decode cX12_laysOdds 53 = .ok (.istore 5, 2) := by decide +kernel
theorem dX12_laysOdds_55 : decode cX12_laysOdds 55 = .ok (.iconst 0, 1) := by decide +kernel
theorem dX12_laysOdds_56 : decode cX12_laysOdds 56 = .ok (.istore 6, 2) := by decide +kernel
theorem dX12_laysOdds_58 : decode cX12_laysOdds 58 = .ok (.iload 6, 2) := by decide +kernel
theorem dX12_laysOdds_60 : decode cX12_laysOdds 60 = .ok (.bipush 8, 2) := by decide +kernel
theorem dX12_laysOdds_62 : decode cX12_laysOdds 62 = .ok (.if_icmp .ge 31, 3) := by decide +kernel
theorem dX12_laysOdds_65 : decode cX12_laysOdds 65 = .ok (.iload 5, 2) := by decide +kernel
theorem dX12_laysOdds_67 : decode cX12_laysOdds 67 = .ok (.aload_n 0, 1) := by decide +kernel
theorem dX12_laysOdds_68 : decode cX12_laysOdds 68 = .ok (.getfield 7, 3) := by decide +kernel
theorem dX12_laysOdds_71 : decode cX12_laysOdds 71 = .ok (.sipush 270, 3) := by decide +kernel
theorem dX12_laysOdds_74 : decode cX12_laysOdds 74 = .ok (.bipush 8, 2) := by decide +kernel
theorem dX12_laysOdds_76 : decode cX12_laysOdds 76 = .ok (.iload 4, 2) := by decide +kernel
theorem dX12_laysOdds_78 : decode cX12_laysOdds 78 = .ok (.imul, 1) := by decide +kernel
theorem dX12_laysOdds_79 : decode cX12_laysOdds 79 = .ok (.iadd, 1) := by decide +kernel
theorem dX12_laysOdds_80 : decode cX12_laysOdds 80 = .ok (.iload 6, 2) := by decide +kernel
theorem dX12_laysOdds_82 : decode cX12_laysOdds 82 = .ok (.iadd, 1) := by decide +kernel
theorem dX12_laysOdds_83 : decode cX12_laysOdds 83 = .ok (.iaload, 1) := by decide +kernel
theorem dX12_laysOdds_84 : decode cX12_laysOdds 84 = .ok (.iadd, 1) := by decide +kernel
theorem dX12_laysOdds_85 : decode cX12_laysOdds 85 = .ok (.istore 5, 2) := by decide +kernel
theorem dX12_laysOdds_87 : decode cX12_laysOdds 87 = .ok (.iinc 6 1, 3) := by decide +kernel
theorem dX12_laysOdds_90 : decode cX12_laysOdds 90 = .ok (.goto (-32), 3) := by decide +kernel
theorem dX12_laysOdds_93 : decode cX12_laysOdds 93 = .ok (.aload_n 0, 1) := by decide +kernel
theorem dX12_laysOdds_94 : decode cX12_laysOdds 94 = .ok (.dup, 1) := by decide +kernel
theorem dX12_laysOdds_95 : decode cX12_laysOdds 95 = .ok (.getfield 306, 3) := by decide +kernel
theorem dX12_laysOdds_98 : decode cX12_laysOdds 98 = .ok (.aload_n 0, 1) := by decide +kernel
theorem dX12_laysOdds_99 : decode cX12_laysOdds 99 = .ok (.getfield 7, 3) := by decide +kernel
theorem dX12_laysOdds_102 : decode cX12_laysOdds 102 = .ok (.sipush 270, 3) := by decide +kernel
theorem dX12_laysOdds_105 : decode cX12_laysOdds 105 = .ok (.bipush 8, 2) := by decide +kernel
theorem dX12_laysOdds_107 : decode cX12_laysOdds 107 = .ok (.iload 4, 2) := by decide +kernel
theorem dX12_laysOdds_109 : decode cX12_laysOdds 109 = .ok (.imul, 1) := by decide +kernel
theorem dX12_laysOdds_110 : decode cX12_laysOdds 110 = .ok (.iadd, 1) := by decide +kernel
theorem dX12_laysOdds_111 : decode cX12_laysOdds 111 = .ok (.aload_n 0, 1) := by decide +kernel
theorem dX12_laysOdds_112 : decode cX12_laysOdds 112 = .ok (.getfield 25, 3) := by decide +kernel
theorem dX12_laysOdds_115 : decode cX12_laysOdds 115 = .ok (.iload_n 3, 1) := by decide +kernel
theorem dX12_laysOdds_116 : decode cX12_laysOdds 116 = .ok (.iaload, 1) := by decide +kernel
theorem dX12_laysOdds_117 : decode cX12_laysOdds 117 = .ok (.iadd, 1) := by decide +kernel
theorem dX12_laysOdds_118 : decode cX12_laysOdds 118 = .ok (.bipush 97, 2) := by decide +kernel
theorem dX12_laysOdds_120 : decode cX12_laysOdds 120 = .ok (.isub, 1) := by decide +kernel
theorem dX12_laysOdds_121 : decode cX12_laysOdds 121 = .ok (.iaload, 1) := by decide +kernel
theorem dX12_laysOdds_122 : decode cX12_laysOdds 122 = .ok (.i2l, 1) := by decide +kernel
theorem dX12_laysOdds_123 : decode cX12_laysOdds 123 = .ok (.lmul, 1) := by decide +kernel
theorem dX12_laysOdds_124 : decode cX12_laysOdds 124 = .ok (.putfield 306, 3) := by decide +kernel
theorem dX12_laysOdds_127 : decode cX12_laysOdds 127 = .ok (.aload_n 0, 1) := by decide +kernel
theorem dX12_laysOdds_128 : decode cX12_laysOdds 128 = .ok (.dup, 1) := by decide +kernel
theorem dX12_laysOdds_129 : decode cX12_laysOdds 129 = .ok (.getfield 310, 3) := by decide +kernel
theorem dX12_laysOdds_132 : decode cX12_laysOdds 132 = .ok (.iload 5, 2) := by decide +kernel
theorem dX12_laysOdds_134 : decode cX12_laysOdds 134 = .ok (.i2l, 1) := by decide +kernel
theorem dX12_laysOdds_135 : decode cX12_laysOdds 135 = .ok (.lmul, 1) := by decide +kernel
theorem dX12_laysOdds_136 : decode cX12_laysOdds 136 = .ok (.putfield 310, 3) := by decide +kernel
theorem dX12_laysOdds_139 : decode cX12_laysOdds 139 = .ok (.iinc 3 1, 3) := by decide +kernel
theorem dX12_laysOdds_142 : decode cX12_laysOdds 142 = .ok (.goto (-115), 3) := by decide +kernel
theorem dX12_laysOdds_145 : decode cX12_laysOdds 145 = .ok (.aload_n 0, 1) := by decide +kernel
theorem dX12_laysOdds_146 : decode cX12_laysOdds 146 = .ok (.getfield 306, 3) := by decide +kernel
theorem dX12_laysOdds_149 : decode cX12_laysOdds 149 = .ok (.lconst 0, 1) := by decide +kernel
theorem dX12_laysOdds_150 : decode cX12_laysOdds 150 = .ok (.lcmp, 1) := by decide +kernel
theorem dX12_laysOdds_151 : decode cX12_laysOdds 151 = .ok (.ifCond .ne 8, 3) := by decide +kernel
theorem dX12_laysOdds_154 : decode cX12_laysOdds 154 = .ok (.aload_n 0, 1) := by decide +kernel
theorem dX12_laysOdds_155 : decode cX12_laysOdds 155 = .ok (.lconst 1, 1) := by decide +kernel
theorem dX12_laysOdds_156 : decode cX12_laysOdds 156 = .ok (.putfield 310, 3) := by decide +kernel
theorem dX12_laysOdds_159 : decode cX12_laysOdds 159 = .ok (.aload_n 0, 1) := by decide +kernel
theorem dX12_laysOdds_160 : decode cX12_laysOdds 160 = .ok (.getfield 306, 3) := by decide +kernel
theorem dX12_laysOdds_163 : decode cX12_laysOdds 163 = .ok (.lstore_n 3, 1) := by decide +kernel
theorem dX12_laysOdds_164 : decode cX12_laysOdds 164 = .ok (.aload_n 0, 1) := by decide +kernel
theorem dX12_laysOdds_165 : decode cX12_laysOdds 165 = .ok (.getfield 310, 3) := by decide +kernel
theorem dX12_laysOdds_168 : decode cX12_laysOdds 168 = .ok (.lstore 5, 2) := by decide +kernel
theorem dX12_laysOdds_170 : decode cX12_laysOdds 170 = .ok (.lload 5, 2) := by decide +kernel
theorem dX12_laysOdds_172 : decode cX12_laysOdds 172 = .ok (.lconst 0, 1) := by decide +kernel
theorem dX12_laysOdds_173 : decode cX12_laysOdds 173 = .ok (.lcmp, 1) := by decide +kernel
theorem dX12_laysOdds_174 : decode cX12_laysOdds 174 = .ok (.ifCond .le 19, 3) := by decide +kernel
theorem dX12_laysOdds_177 : decode cX12_laysOdds 177 = .ok (.lload_n 3, 1) := by decide +kernel
theorem dX12_laysOdds_178 : decode cX12_laysOdds 178 = .ok (.lload 5, 2) := by decide +kernel
theorem dX12_laysOdds_180 : decode cX12_laysOdds 180 = .ok (.lrem, 1) := by decide +kernel
theorem dX12_laysOdds_181 : decode cX12_laysOdds 181 = .ok (.lstore 7, 2) := by decide +kernel
theorem dX12_laysOdds_183 : decode cX12_laysOdds 183 = .ok (.lload 5, 2) := by decide +kernel
theorem dX12_laysOdds_185 : decode cX12_laysOdds 185 = .ok (.lstore_n 3, 1) := by decide +kernel
theorem dX12_laysOdds_186 : decode cX12_laysOdds 186 = .ok (.lload 7, 2) := by decide +kernel
theorem dX12_laysOdds_188 : decode cX12_laysOdds 188 = .ok (.lstore 5, 2) := by decide +kernel
theorem dX12_laysOdds_190 : decode cX12_laysOdds 190 = .ok (.goto (-20), 3) := by decide +kernel
theorem dX12_laysOdds_193 : decode cX12_laysOdds 193 = .ok (.aload_n 0, 1) := by decide +kernel
theorem dX12_laysOdds_194 : decode cX12_laysOdds 194 = .ok (.dup, 1) := by decide +kernel
theorem dX12_laysOdds_195 : decode cX12_laysOdds 195 = .ok (.getfield 306, 3) := by decide +kernel
theorem dX12_laysOdds_198 : decode cX12_laysOdds 198 = .ok (.lload_n 3, 1) := by decide +kernel
theorem dX12_laysOdds_199 : decode cX12_laysOdds 199 = .ok (.ldiv, 1) := by decide +kernel
theorem dX12_laysOdds_200 : decode cX12_laysOdds 200 = .ok (.putfield 306, 3) := by decide +kernel
theorem dX12_laysOdds_203 : decode cX12_laysOdds 203 = .ok (.aload_n 0, 1) := by decide +kernel
theorem dX12_laysOdds_204 : decode cX12_laysOdds 204 = .ok (.dup, 1) := by decide +kernel
theorem dX12_laysOdds_205 : decode cX12_laysOdds 205 = .ok (.getfield 310, 3) := by decide +kernel
theorem dX12_laysOdds_208 : decode cX12_laysOdds 208 = .ok (.lload_n 3, 1) := by decide +kernel
theorem dX12_laysOdds_209 : decode cX12_laysOdds 209 = .ok (.ldiv, 1) := by decide +kernel
theorem dX12_laysOdds_210 : decode cX12_laysOdds 210 = .ok (.putfield 310, 3) := by decide +kernel
theorem dX12_laysOdds_213 : decode cX12_laysOdds 213 = .ok (.return_, 1) := by decide +kernel
theorem dX12_odds_0 : decode cX12_odds 0 = .ok (.aload_n 0, 1) := by decide +kernel
theorem dX12_odds_1 : decode cX12_odds 1 = .ok (.invokevirtual 210, 3) := by decide +kernel
theorem dX12_odds_4 : decode cX12_odds 4 = .ok (.istore_n 3, 1) := by decide +kernel
theorem dX12_odds_5 : decode cX12_odds 5 = .ok (.iload_n 3, 1) := by decide +kernel
theorem dX12_odds_6 : decode cX12_odds 6 = .ok (.iconst (-1), 1) := by decide +kernel
theorem dX12_odds_7 : decode cX12_odds 7 = .ok (.if_icmp .eq 20, 3) := by decide +kernel
theorem dX12_odds_10 : decode cX12_odds 10 = .ok (.aload_n 0, 1) := by decide +kernel
theorem dX12_odds_11 : decode cX12_odds 11 = .ok (.iload_n 1, 1) := by decide +kernel
theorem dX12_odds_12 : decode cX12_odds 12 = .ok (.invokevirtual 216, 3) := by decide +kernel
theorem dX12_odds_15 : decode cX12_odds 15 = .ok (.ifCond .eq 12, 3) := by decide +kernel
theorem dX12_odds_18 : decode cX12_odds 18 = .ok (.iload_n 2, 1) := by decide +kernel
theorem dX12_odds_19 : decode cX12_odds 19 = .ok (.iconst 0, 1) := by decide +kernel
theorem dX12_odds_20 : decode cX12_odds 20 = .ok (.iconst 1, 1) := by decide +kernel
theorem dX12_odds_21 : decode cX12_odds 21 = .ok (.invokestatic 66, 3) := by decide +kernel
theorem dX12_odds_24 : decode cX12_odds 24 = .ok (.ifCond .ne 7, 3) := by decide +kernel
theorem dX12_odds_27 : decode cX12_odds 27 = .ok (.ldc2_w 313, 3) := by decide +kernel
theorem dX12_odds_30 : decode cX12_odds 30 = .ok (.lreturn, 1) := by decide +kernel
theorem dX12_odds_31 : decode cX12_odds 31 = .ok (.aload_n 0, 1) := by decide +kernel
theorem dX12_odds_32 : decode cX12_odds 32 = .ok (.iload_n 1, 1) := by decide +kernel
theorem dX12_odds_33 : decode cX12_odds 33 = .ok (.iload_n 3, 1) := by decide +kernel
theorem dX12_odds_34 : decode cX12_odds 34 = .ok (.invokevirtual 315, 3) := by decide +kernel
theorem dX12_odds_37 : decode cX12_odds 37 = .ok (.iload_n 2, 1) := by decide +kernel
theorem dX12_odds_38 : decode cX12_odds 38 = .ok (.ifCond .ne 10, 3) := by decide +kernel
theorem dX12_odds_41 : decode cX12_odds 41 = .ok (.aload_n 0, 1) := by decide +kernel
theorem dX12_odds_42 : decode cX12_odds 42 = .ok (.getfield 306, 3) := by decide +kernel
theorem dX12_odds_45 : decode cX12_odds 45 = .ok (.goto 7, 3) := by decide +kernel
theorem dX12_odds_48 : decode cX12_odds 48 = .ok (.aload_n 0, 1) := by decide +kernel
theorem dX12_odds_49 : decode cX12_odds 49 = .ok (.getfield 310, 3) := by decide +kernel
theorem dX12_odds_52 : decode cX12_odds 52 = .ok (.lreturn, 1) := by decide +kernel
theorem dX12_whose_0 : decode cX12_whose 0 = .ok (.aload_n 0, 1) := by decide +kernel
theorem dX12_whose_1 : decode cX12_whose 1 = .ok (.invokevirtual 210, 3) := by decide +kernel
theorem dX12_whose_4 : decode cX12_whose 4 = .ok (.istore_n 2, 1) := by decide +kernel
theorem dX12_whose_5 : decode cX12_whose 5 = .ok (.iload_n 2, 1) := by decide +kernel
theorem dX12_whose_6 : decode cX12_whose 6 = .ok (.iconst (-1), 1) := by decide +kernel
theorem dX12_whose_7 : decode cX12_whose 7 = .ok (.if_icmp .eq 12, 3) := by decide +kernel
theorem dX12_whose_10 : decode cX12_whose 10 = .ok (.iload_n 1, 1) := by decide +kernel
theorem dX12_whose_11 : decode cX12_whose 11 = .ok (.iconst 0, 1) := by decide +kernel
theorem dX12_whose_12 : decode cX12_whose 12 = .ok (.iconst 1, 1) := by decide +kernel
theorem dX12_whose_13 : decode cX12_whose 13 = .ok (.invokestatic 66, 3) := by decide +kernel
theorem dX12_whose_16 : decode cX12_whose 16 = .ok (.ifCond .ne 6, 3) := by decide +kernel
theorem dX12_whose_19 : decode cX12_whose 19 = .ok (.bipush (-2), 2) := by decide +kernel
theorem dX12_whose_21 : decode cX12_whose 21 = .ok (.ireturn, 1) := by decide +kernel
theorem dX12_whose_22 : decode cX12_whose 22 = .ok (.iconst (-1), 1) := by decide +kernel
theorem dX12_whose_23 : decode cX12_whose 23 = .ok (.istore_n 3, 1) := by decide +kernel
theorem dX12_whose_24 : decode cX12_whose 24 = .ok (.iconst 0, 1) := by decide +kernel
theorem dX12_whose_25 : decode cX12_whose 25 = .ok (.istore 4, 2) := by decide +kernel
theorem dX12_whose_27 : decode cX12_whose 27 = .ok (.lconst 0, 1) := by decide +kernel
theorem dX12_whose_28 : decode cX12_whose 28 = .ok (.lstore 5, 2) := by decide +kernel
theorem dX12_whose_30 : decode cX12_whose 30 = .ok (.lconst 1, 1) := by decide +kernel
theorem dX12_whose_31 : decode cX12_whose 31 = .ok (.lstore 7, 2) := by decide +kernel
theorem dX12_whose_33 : decode cX12_whose 33 = .ok (.iconst 0, 1) := by decide +kernel
theorem dX12_whose_34 : decode cX12_whose 34 = .ok (.istore 9, 2) := by decide +kernel
theorem dX12_whose_36 : decode cX12_whose 36 = .ok (.iload 9, 2) := by decide +kernel
theorem dX12_whose_38 : decode cX12_whose 38 = .ok (.aload_n 0, 1) := by decide +kernel
theorem dX12_whose_39 : decode cX12_whose 39 = .ok (.getfield 7, 3) := by decide +kernel
theorem dX12_whose_42 : decode cX12_whose 42 = .ok (.iconst 4, 1) := by decide +kernel
theorem dX12_whose_43 : decode cX12_whose 43 = .ok (.iaload, 1) := by decide +kernel
theorem dX12_whose_44 : decode cX12_whose 44 = .ok (.if_icmp .ge 95, 3) := by decide +kernel
theorem dX12_whose_47 : decode cX12_whose 47 = .ok (.aload_n 0, 1) := by decide +kernel
theorem dX12_whose_48 : decode cX12_whose 48 = .ok (.iload 9, 2) := by decide +kernel
theorem dX12_whose_50 : decode cX12_whose 50 = .ok (.iload_n 2, 1) := by decide +kernel
theorem dX12_whose_51 : decode cX12_whose 51 = .ok (.invokevirtual 315, 3) := by decide +kernel
theorem dX12_whose_54 : decode cX12_whose 54 = .ok (.aload_n 0, 1) := by decide +kernel
theorem dX12_whose_55 : decode cX12_whose 55 = .ok (.getfield 306, 3) := by decide +kernel
theorem dX12_whose_58 : decode cX12_whose 58 = .ok (.lconst 0, 1) := by decide +kernel
theorem dX12_whose_59 : decode cX12_whose 59 = .ok (.lcmp, 1) := by decide +kernel
theorem dX12_whose_60 : decode cX12_whose 60 = .ok (.ifCond .eq 73, 3) := by decide +kernel
theorem dX12_whose_63 : decode cX12_whose 63 = .ok (.aload_n 0, 1) := by decide +kernel
theorem dX12_whose_64 : decode cX12_whose 64 = .ok (.getfield 306, 3) := by decide +kernel
theorem dX12_whose_67 : decode cX12_whose 67 = .ok (.lload 7, 2) := by decide +kernel
theorem dX12_whose_69 : decode cX12_whose 69 = .ok (.lmul, 1) := by decide +kernel
theorem dX12_whose_70 : decode cX12_whose 70 = .ok (.lload 5, 2) := by decide +kernel
theorem dX12_whose_72 : decode cX12_whose 72 = .ok (.aload_n 0, 1) := by decide +kernel
theorem dX12_whose_73 : decode cX12_whose 73 = .ok (.getfield 310, 3) := by decide +kernel
theorem dX12_whose_76 : decode cX12_whose 76 = .ok (.lmul, 1) := by decide +kernel
theorem dX12_whose_77 : decode cX12_whose 77 = .ok (.lcmp, 1) := by decide +kernel
theorem dX12_whose_78 : decode cX12_whose 78 = .ok (.ifCond .ge 6, 3) := by decide +kernel
theorem dX12_whose_81 : decode cX12_whose 81 = .ok (.goto 52, 3) := by decide +kernel
theorem dX12_whose_84 : decode cX12_whose 84 = .ok (.aload_n 0, 1) := by decide +kernel
theorem dX12_whose_85 : decode cX12_whose 85 = .ok (.getfield 306, 3) := by decide +kernel
theorem dX12_whose_88 : decode cX12_whose 88 = .ok (.lload 7, 2) := by decide +kernel
theorem dX12_whose_90 : decode cX12_whose 90 = .ok (.lmul, 1) := by decide +kernel
theorem dX12_whose_91 : decode cX12_whose 91 = .ok (.lload 5, 2) := by decide +kernel
theorem dX12_whose_93 : decode cX12_whose 93 = .ok (.aload_n 0, 1) := by decide +kernel
theorem dX12_whose_94 : decode cX12_whose 94 = .ok (.getfield 310, 3) := by decide +kernel
theorem dX12_whose_97 : decode cX12_whose 97 = .ok (.lmul, 1) := by decide +kernel
theorem dX12_whose_98 : decode cX12_whose 98 = .ok (.lcmp, 1) := by decide +kernel
theorem dX12_whose_99 : decode cX12_whose 99 = .ok (.ifCond .le 7, 3) := by decide +kernel
theorem dX12_whose_102 : decode cX12_whose 102 = .ok (.iconst 1, 1) := by decide +kernel
theorem dX12_whose_103 : decode cX12_whose 103 = .ok (.goto 4, 3) := by decide +kernel
theorem dX12_whose_106 : decode cX12_whose 106 = .ok (.iconst 0, 1) := by decide +kernel
theorem dX12_whose_107 : decode cX12_whose 107 = .ok (.istore 4, 2) := by decide +kernel
theorem dX12_whose_109 : decode cX12_whose 109 = .ok (.iload 4, 2) := by decide +kernel
theorem dX12_whose_111 : decode cX12_whose 111 = .ok (.ifCond .eq 8, 3) := by decide +kernel
theorem dX12_whose_114 : decode cX12_whose 114 = .ok (.iload 9, 2) := by decide +kernel
theorem dX12_whose_116 : decode cX12_whose 116 = .ok (.goto 4, 3) := by decide +kernel
theorem dX12_whose_119 : decode cX12_whose 119 = .ok (.iload_n 3, 1) := by decide +kernel
theorem dX12_whose_120 : decode cX12_whose 120 = .ok (.istore_n 3, 1) := by decide +kernel
theorem dX12_whose_121 : decode cX12_whose 121 = .ok (.aload_n 0, 1) := by decide +kernel
theorem dX12_whose_122 : decode cX12_whose 122 = .ok (.getfield 306, 3) := by decide +kernel
theorem dX12_whose_125 : decode cX12_whose 125 = .ok (.lstore 5, 2) := by decide +kernel
theorem dX12_whose_127 : decode cX12_whose 127 = .ok (.aload_n 0, 1) := by decide +kernel
theorem dX12_whose_128 : decode cX12_whose 128 = .ok (.getfield 310, 3) := by decide +kernel
theorem dX12_whose_131 : decode cX12_whose 131 = .ok (.lstore 7, 2) := by decide +kernel
theorem dX12_whose_133 : decode cX12_whose 133 = .ok (.iinc 9 1, 3) := by decide +kernel
theorem dX12_whose_136 : decode cX12_whose 136 = .ok (.goto (-100), 3) := by decide +kernel
theorem dX12_whose_139 : decode cX12_whose 139 = .ok (.iload_n 1, 1) := by decide +kernel
theorem dX12_whose_140 : decode cX12_whose 140 = .ok (.ifCond .ne 7, 3) := by decide +kernel
theorem dX12_whose_143 : decode cX12_whose 143 = .ok (.iload_n 3, 1) := by decide +kernel
theorem dX12_whose_144 : decode cX12_whose 144 = .ok (.goto 13, 3) := by decide +kernel
theorem dX12_whose_147 : decode cX12_whose 147 = .ok (.iload 4, 2) := by decide +kernel
theorem dX12_whose_149 : decode cX12_whose 149 = .ok (.ifCond .eq 7, 3) := by decide +kernel
theorem dX12_whose_152 : decode cX12_whose 152 = .ok (.iconst 1, 1) := by decide +kernel
theorem dX12_whose_153 : decode cX12_whose 153 = .ok (.goto 4, 3) := by decide +kernel
theorem dX12_whose_156 : decode cX12_whose 156 = .ok (.iconst 0, 1) := by decide +kernel
theorem dX12_whose_157 : decode cX12_whose 157 = .ok (.ireturn, 1) := by decide +kernel
theorem dX12_owe_0 : decode cX12_owe 0 = .ok (.aload_n 0, 1) := by decide +kernel
theorem dX12_owe_1 : decode cX12_owe 1 = .ok (.iload_n 1, 1) := by decide +kernel
theorem dX12_owe_2 : decode cX12_owe 2 = .ok (.invokevirtual 216, 3) := by decide +kernel
theorem dX12_owe_5 : decode cX12_owe 5 = .ok (.ifCond .eq 28, 3) := by decide +kernel
theorem dX12_owe_8 : decode cX12_owe 8 = .ok (.aload_n 0, 1) := by decide +kernel
theorem dX12_owe_9 : decode cX12_owe 9 = .ok (.iload_n 2, 1) := by decide +kernel
theorem dX12_owe_10 : decode cX12_owe 10 = .ok (.invokevirtual 216, 3) := by decide +kernel
theorem dX12_owe_13 : decode cX12_owe 13 = .ok (.ifCond .eq 20, 3) := by decide +kernel
theorem dX12_owe_16 : decode cX12_owe 16 = .ok (.iload_n 1, 1) := by decide +kernel
theorem dX12_owe_17 : decode cX12_owe 17 = .ok (.iload_n 2, 1) := by decide +kernel
theorem dX12_owe_18 : decode cX12_owe 18 = .ok (.if_icmp .eq 15, 3) := by decide +kernel
theorem dX12_owe_21 : decode cX12_owe 21 = .ok (.iload_n 3, 1) := by decide +kernel
theorem dX12_owe_22 : decode cX12_owe 22 = .ok (.ldc_w 318, 3) := by decide +kernel
theorem dX12_owe_25 : decode cX12_owe 25 = .ok (.ldc 219, 2) := by decide +kernel
theorem dX12_owe_27 : decode cX12_owe 27 = .ok (.invokestatic 66, 3) := by decide +kernel
theorem dX12_owe_30 : decode cX12_owe 30 = .ok (.ifCond .ne 5, 3) := by decide +kernel
theorem dX12_owe_33 : decode cX12_owe 33 = .ok (.iconst 0, 1) := by decide +kernel
theorem dX12_owe_34 : decode cX12_owe 34 = .ok (.ireturn, 1) := by decide +kernel
theorem dX12_owe_35 : decode cX12_owe 35 = .ok (.aload_n 0, 1) := by decide +kernel
