theorem dX0_init_0 : decode cX0_init 0 = .ok (.aload_n 0, 1) := by decide +kernel
theorem dX0_init_1 : decode cX0_init 1 = .ok (.invokespecial 3, 3) := by decide +kernel
theorem dX0_init_4 : decode cX0_init 4 = .ok (.aload_n 0, 1) := by decide +kernel
theorem dX0_init_5 : decode cX0_init 5 = .ok (.new 9, 3) := by decide +kernel
theorem dX0_init_8 : decode cX0_init 8 = .ok (.dup, 1) := by decide +kernel
theorem dX0_init_9 : decode cX0_init 9 = .ok (.invokespecial 11, 3) := by decide +kernel
theorem dX0_init_12 : decode cX0_init 12 = .ok (.putfield 12, 3) := by decide +kernel
theorem dX0_init_15 : decode cX0_init 15 = .ok (.aload_n 0, 1) := by decide +kernel
theorem dX0_init_16 : decode cX0_init 16 = .ok (.new 18, 3) := by decide +kernel
theorem dX0_init_19 : decode cX0_init 19 = .ok (.dup, 1) := by decide +kernel
theorem dX0_init_20 : decode cX0_init 20 = .ok (.invokespecial 20, 3) := by decide +kernel
theorem dX0_init_23 : decode cX0_init 23 = .ok (.putfield 21, 3) := by decide +kernel
theorem dX0_init_26 : decode cX0_init 26 = .ok (.aload_n 0, 1) := by decide +kernel
theorem dX0_init_27 : decode cX0_init 27 = .ok (.iconst 4, 1) := by decide +kernel
theorem dX0_init_28 : decode cX0_init 28 = .ok (.newarray .int, 2) := by decide +kernel
theorem dX0_init_30 : decode cX0_init 30 = .ok (.dup, 1) := by decide +kernel
theorem dX0_init_31 : decode cX0_init 31 = .ok (.iconst 0, 1) := by decide +kernel
theorem dX0_init_32 : decode cX0_init 32 = .ok (.bipush 10, 2) := by decide +kernel
theorem dX0_init_34 : decode cX0_init 34 = .ok (.iastore, 1) := by decide +kernel
theorem dX0_init_35 : decode cX0_init 35 = .ok (.dup, 1) := by decide +kernel
theorem dX0_init_36 : decode cX0_init 36 = .ok (.iconst 1, 1) := by decide +kernel
theorem dX0_init_37 : decode cX0_init 37 = .ok (.iconst 1, 1) := by decide +kernel
theorem dX0_init_38 : decode cX0_init 38 = .ok (.iastore, 1) := by decide +kernel
theorem dX0_init_39 : decode cX0_init 39 = .ok (.dup, 1) := by decide +kernel
theorem dX0_init_40 : decode cX0_init 40 = .ok (.iconst 2, 1) := by decide +kernel
theorem dX0_init_41 : decode cX0_init 41 = .ok (.iconst 1, 1) := by decide +kernel
theorem dX0_init_42 : decode cX0_init 42 = .ok (.iastore, 1) := by decide +kernel
theorem dX0_init_43 : decode cX0_init 43 = .ok (.dup, 1) := by decide +kernel
theorem dX0_init_44 : decode cX0_init 44 = .ok (.iconst 3, 1) := by decide +kernel
theorem dX0_init_45 : decode cX0_init 45 = .ok (.iconst 0, 1) := by decide +kernel
theorem dX0_init_46 : decode cX0_init 46 = .ok (.iastore, 1) := by decide +kernel
theorem dX0_init_47 : decode cX0_init 47 = .ok (.putfield 25, 3) := by decide +kernel
theorem dX0_init_50 : decode cX0_init 50 = .ok (.aload_n 0, 1) := by decide +kernel
theorem dX0_init_51 : decode cX0_init 51 = .ok (.new 29, 3) := by decide +kernel
theorem dX0_init_54 : decode cX0_init 54 = .ok (.dup, 1) := by decide +kernel
theorem dX0_init_55 : decode cX0_init 55 = .ok (.invokespecial 31, 3) := by decide +kernel
theorem dX0_init_58 : decode cX0_init 58 = .ok (.putfield 32, 3) := by decide +kernel
theorem dX0_init_61 : decode cX0_init 61 = .ok (.aload_n 0, 1) := by decide +kernel
theorem dX0_init_62 : decode cX0_init 62 = .ok (.new 36, 3) := by decide +kernel
theorem dX0_init_65 : decode cX0_init 65 = .ok (.dup, 1) := by decide +kernel
theorem dX0_init_66 : decode cX0_init 66 = .ok (.invokespecial 38, 3) := by decide +kernel
theorem dX0_init_69 : decode cX0_init 69 = .ok (.putfield 39, 3) := by decide +kernel
theorem dX0_init_72 : decode cX0_init 72 = .ok (.aload_n 0, 1) := by decide +kernel
theorem dX0_init_73 : decode cX0_init 73 = .ok (.new 43, 3) := by decide +kernel
theorem dX0_init_76 : decode cX0_init 76 = .ok (.dup, 1) := by decide +kernel
theorem dX0_init_77 : decode cX0_init 77 = .ok (.invokespecial 45, 3) := by decide +kernel
theorem dX0_init_80 : decode cX0_init 80 = .ok (.putfield 46, 3) := by decide +kernel
theorem dX0_init_83 : decode cX0_init 83 = .ok (.return_, 1) := by decide +kernel
theorem dX0_copyFrom_0 : decode cX0_copyFrom 0 = .ok (.aload_n 0, 1) := by decide +kernel
theorem dX0_copyFrom_1 : decode cX0_copyFrom 1 = .ok (.getfield 12, 3) := by decide +kernel
theorem dX0_copyFrom_4 : decode cX0_copyFrom 4 = .ok (.aload_n 1, 1) := by decide +kernel
theorem dX0_copyFrom_5 : decode cX0_copyFrom 5 = .ok (.getfield 12, 3) := by decide +kernel
theorem dX0_copyFrom_8 : decode cX0_copyFrom 8 = .ok (.invokevirtual 50, 3) := by decide +kernel
theorem dX0_copyFrom_11 : decode cX0_copyFrom 11 = .ok (.aload_n 0, 1) := by decide +kernel
theorem dX0_copyFrom_12 : decode cX0_copyFrom 12 = .ok (.getfield 21, 3) := by decide +kernel
theorem dX0_copyFrom_15 : decode cX0_copyFrom 15 = .ok (.aload_n 1, 1) := by decide +kernel
theorem dX0_copyFrom_16 : decode cX0_copyFrom 16 = .ok (.getfield 21, 3) := by decide +kernel
theorem dX0_copyFrom_19 : decode cX0_copyFrom 19 = .ok (.invokevirtual 54, 3) := by decide +kernel
theorem dX0_copyFrom_22 : decode cX0_copyFrom 22 = .ok (.aload_n 1, 1) := by decide +kernel
theorem dX0_copyFrom_23 : decode cX0_copyFrom 23 = .ok (.getfield 25, 3) := by decide +kernel
theorem dX0_copyFrom_26 : decode cX0_copyFrom 26 = .ok (.iconst 0, 1) := by decide +kernel
theorem dX0_copyFrom_27 : decode cX0_copyFrom 27 = .ok (.aload_n 0, 1) := by decide +kernel
theorem dX0_copyFrom_28 : decode cX0_copyFrom 28 = .ok (.getfield 25, 3) := by decide +kernel
theorem dX0_copyFrom_31 : decode cX0_copyFrom 31 = .ok (.iconst 0, 1) := by decide +kernel
theorem dX0_copyFrom_32 : decode cX0_copyFrom 32 = .ok (.iconst 4, 1) := by decide +kernel
theorem dX0_copyFrom_33 : decode cX0_copyFrom 33 = .ok (.invokestatic 57, 3) := by decide +kernel
theorem dX0_copyFrom_36 : decode cX0_copyFrom 36 = .ok (.aload_n 0, 1) := by decide +kernel
theorem dX0_copyFrom_37 : decode cX0_copyFrom 37 = .ok (.getfield 32, 3) := by decide +kernel
theorem dX0_copyFrom_40 : decode cX0_copyFrom 40 = .ok (.aload_n 1, 1) := by decide +kernel
theorem dX0_copyFrom_41 : decode cX0_copyFrom 41 = .ok (.getfield 32, 3) := by decide +kernel
theorem dX0_copyFrom_44 : decode cX0_copyFrom 44 = .ok (.getfield 63, 3) := by decide +kernel
theorem dX0_copyFrom_47 : decode cX0_copyFrom 47 = .ok (.aload_n 1, 1) := by decide +kernel
theorem dX0_copyFrom_48 : decode cX0_copyFrom 48 = .ok (.getfield 32, 3) := by decide +kernel
theorem dX0_copyFrom_51 : decode cX0_copyFrom 51 = .ok (.getfield 66, 3) := by decide +kernel
theorem dX0_copyFrom_54 : decode cX0_copyFrom 54 = .ok (.aload_n 1, 1) := by decide +kernel
theorem dX0_copyFrom_55 : decode cX0_copyFrom 55 = .ok (.getfield 32, 3) := by decide +kernel
theorem dX0_copyFrom_58 : decode cX0_copyFrom 58 = .ok (.getfield 70, 3) := by decide +kernel
theorem dX0_copyFrom_61 : decode cX0_copyFrom 61 = .ok (.invokevirtual 73, 3) := by decide +kernel
theorem dX0_copyFrom_64 : decode cX0_copyFrom 64 = .ok (.aload_n 0, 1) := by decide +kernel
theorem dX0_copyFrom_65 : decode cX0_copyFrom 65 = .ok (.getfield 39, 3) := by decide +kernel
theorem dX0_copyFrom_68 : decode cX0_copyFrom 68 = .ok (.aload_n 1, 1) := by decide +kernel
theorem dX0_copyFrom_69 : decode cX0_copyFrom 69 = .ok (.getfield 39, 3) := by decide +kernel
theorem dX0_copyFrom_72 : decode cX0_copyFrom 72 = .ok (.invokevirtual 77, 3) := by decide +kernel
theorem dX0_copyFrom_75 : decode cX0_copyFrom 75 = .ok (.aload_n 1, 1) := by decide +kernel
theorem dX0_copyFrom_76 : decode cX0_copyFrom 76 = .ok (.getfield 46, 3) := by decide +kernel
theorem dX0_copyFrom_79 : decode cX0_copyFrom 79 = .ok (.getfield 80, 3) := by decide +kernel
theorem dX0_copyFrom_82 : decode cX0_copyFrom 82 = .ok (.iconst 0, 1) := by decide +kernel
theorem dX0_copyFrom_83 : decode cX0_copyFrom 83 = .ok (.aload_n 0, 1) := by decide +kernel
theorem dX0_copyFrom_84 : decode cX0_copyFrom 84 = .ok (.getfield 46, 3) := by decide +kernel
theorem dX0_copyFrom_87 : decode cX0_copyFrom 87 = .ok (.getfield 80, 3) := by decide +kernel
theorem dX0_copyFrom_90 : decode cX0_copyFrom 90 = .ok (.iconst 0, 1) := by decide +kernel
theorem dX0_copyFrom_91 : decode cX0_copyFrom 91 = .ok (.bipush 64, 2) := by decide +kernel
theorem dX0_copyFrom_93 : decode cX0_copyFrom 93 = .ok (.invokestatic 57, 3) := by decide +kernel
theorem dX0_copyFrom_96 : decode cX0_copyFrom 96 = .ok (.return_, 1) := by decide +kernel
theorem dX1_init_0 : decode cX1_init 0 = .ok (.aload_n 0, 1) := by decide +kernel
theorem dX1_init_1 : decode cX1_init 1 = .ok (.invokespecial 3, 3) := by decide +kernel
theorem dX1_init_4 : decode cX1_init 4 = .ok (.aload_n 0, 1) := by decide +kernel
theorem dX1_init_5 : decode cX1_init 5 = .ok (.bipush 8, 2) := by decide +kernel
theorem dX1_init_7 : decode cX1_init 7 = .ok (.anewarray 9, 3) := by decide +kernel
theorem dX1_init_10 : decode cX1_init 10 = .ok (.putfield 11, 3) := by decide +kernel
theorem dX1_init_13 : decode cX1_init 13 = .ok (.iconst 0, 1) := by decide +kernel
theorem dX1_init_14 : decode cX1_init 14 = .ok (.istore_n 1, 1) := by decide +kernel
theorem dX1_init_15 : decode cX1_init 15 = .ok (.iload_n 1, 1) := by decide +kernel
theorem dX1_init_16 : decode cX1_init 16 = .ok (.bipush 8, 2) := by decide +kernel
theorem dX1_init_18 : decode cX1_init 18 = .ok (.if_icmp .ge 22, 3) := by decide +kernel
theorem dX1_init_21 : decode cX1_init 21 = .ok (.aload_n 0, 1) := by decide +kernel
theorem dX1_init_22 : decode cX1_init 22 = .ok (.getfield 11, 3) := by decide +kernel
theorem dX1_init_25 : decode cX1_init 25 = .ok (.iload_n 1, 1) := by decide +kernel
theorem dX1_init_26 : decode cX1_init 26 = .ok (.new 9, 3) := by decide +kernel
theorem dX1_init_29 : decode cX1_init 29 = .ok (.dup, 1) := by decide +kernel
theorem dX1_init_30 : decode cX1_init 30 = .ok (.invokespecial 17, 3) := by decide +kernel
theorem dX1_init_33 : decode cX1_init 33 = .ok (.aastore, 1) := by decide +kernel
theorem dX1_init_34 : decode cX1_init 34 = .ok (.iinc 1 1, 3) := by decide +kernel
theorem dX1_init_37 : decode cX1_init 37 = .ok (.goto (-22), 3) := by decide +kernel
theorem dX1_init_40 : decode cX1_init 40 = .ok (.return_, 1) := by decide +kernel
theorem dX1_keep_0 : decode cX1_keep 0 = .ok (.aload_n 0, 1) := by decide +kernel
theorem dX1_keep_1 : decode cX1_keep 1 = .ok (.getfield 18, 3) := by decide +kernel
theorem dX1_keep_4 : decode cX1_keep 4 = .ok (.bipush 8, 2) := by decide +kernel
theorem dX1_keep_6 : decode cX1_keep 6 = .ok (.if_icmp .lt 22, 3) := by decide +kernel
theorem dX1_keep_9 : decode cX1_keep 9 = .ok (.aload_n 0, 1) := by decide +kernel
theorem dX1_keep_10 : decode cX1_keep 10 = .ok (.aload_n 0, 1) := by decide +kernel
theorem dX1_keep_11 : decode cX1_keep 11 = .ok (.getfield 22, 3) := by decide +kernel
theorem dX1_keep_14 : decode cX1_keep 14 = .ok (.iconst 1, 1) := by decide +kernel
theorem dX1_keep_15 : decode cX1_keep 15 = .ok (.iadd, 1) := by decide +kernel
theorem dX1_keep_16 : decode cX1_keep 16 = .ok (.bipush 8, 2) := by decide +kernel
theorem dX1_keep_18 : decode cX1_keep 18 = .ok (.irem, 1) := by decide +kernel
theorem dX1_keep_19 : decode cX1_keep 19 = .ok (.putfield 22, 3) := by decide +kernel
theorem dX1_keep_22 : decode cX1_keep 22 = .ok (.aload_n 0, 1) := by decide +kernel
theorem dX1_keep_23 : decode cX1_keep 23 = .ok (.bipush 7, 2) := by decide +kernel
theorem dX1_keep_25 : decode cX1_keep 25 = .ok (.putfield 18, 3) := by decide +kernel
theorem dX1_keep_28 : decode cX1_keep 28 = .ok (.aload_n 0, 1) := by decide +kernel
theorem dX1_keep_29 : decode cX1_keep 29 = .ok (.getfield 11, 3) := by decide +kernel
theorem dX1_keep_32 : decode cX1_keep 32 = .ok (.aload_n 0, 1) := by decide +kernel
theorem dX1_keep_33 : decode cX1_keep 33 = .ok (.getfield 22, 3) := by decide +kernel
theorem dX1_keep_36 : decode cX1_keep 36 = .ok (.aload_n 0, 1) := by decide +kernel
theorem dX1_keep_37 : decode cX1_keep 37 = .ok (.getfield 18, 3) := by decide +kernel
theorem dX1_keep_40 : decode cX1_keep 40 = .ok (.iadd, 1) := by decide +kernel
theorem dX1_keep_41 : decode cX1_keep 41 = .ok (.bipush 8, 2) := by decide +kernel
theorem dX1_keep_43 : decode cX1_keep 43 = .ok (.irem, 1) := by decide +kernel
theorem dX1_keep_44 : decode cX1_keep 44 = .ok (.aaload, 1) := by decide +kernel
theorem dX1_keep_45 : decode cX1_keep 45 = .ok (.aload_n 1, 1) := by decide +kernel
theorem dX1_keep_46 : decode cX1_keep 46 = .ok (.invokevirtual 25, 3) := by decide +kernel
theorem dX1_keep_49 : decode cX1_keep 49 = .ok (.aload_n 0, 1) := by decide +kernel
theorem dX1_keep_50 : decode cX1_keep 50 = .ok (.dup, 1) := by decide +kernel
theorem dX1_keep_51 : decode cX1_keep 51 = .ok (.getfield 18, 3) := by decide +kernel
theorem dX1_keep_54 : decode cX1_keep 54 = .ok (.iconst 1, 1) := by decide +kernel
theorem dX1_keep_55 : decode cX1_keep 55 = .ok (.iadd, 1) := by decide +kernel
theorem dX1_keep_56 : decode cX1_keep 56 = .ok (.putfield 18, 3) := by decide +kernel
theorem dX1_keep_59 : decode cX1_keep 59 = .ok (.return_, 1) := by decide +kernel
theorem dX1_bringBack_0 : decode cX1_bringBack 0 = .ok (.aload_n 0, 1) := by decide +kernel
theorem dX1_bringBack_1 : decode cX1_bringBack 1 = .ok (.getfield 18, 3) := by decide +kernel
theorem dX1_bringBack_4 : decode cX1_bringBack 4 = .ok (.ifCond .gt 5, 3) := by decide +kernel
theorem dX1_bringBack_7 : decode cX1_bringBack 7 = .ok (.iconst 0, 1) := by decide +kernel
theorem dX1_bringBack_8 : decode cX1_bringBack 8 = .ok (.ireturn, 1) := by decide +kernel
theorem dX1_bringBack_9 : decode cX1_bringBack 9 = .ok (.aload_n 0, 1) := by decide +kernel
theorem dX1_bringBack_10 : decode cX1_bringBack 10 = .ok (.dup, 1) := by decide +kernel
theorem dX1_bringBack_11 : decode cX1_bringBack 11 = .ok (.getfield 18, 3) := by decide +kernel
theorem dX1_bringBack_14 : decode cX1_bringBack 14 = .ok (.iconst 1, 1) := by decide +kernel
theorem dX1_bringBack_15 : decode cX1_bringBack 15 = .ok (.isub, 1) := by decide +kernel
theorem dX1_bringBack_16 : decode cX1_bringBack 16 = .ok (.putfield 18, 3) := by decide +kernel
theorem dX1_bringBack_19 : decode cX1_bringBack 19 = .ok (.aload_n 1, 1) := by decide +kernel
theorem dX1_bringBack_20 : decode cX1_bringBack 20 = .ok (.aload_n 0, 1) := by decide +kernel
theorem dX1_bringBack_21 : decode cX1_bringBack 21 = .ok (.getfield 11, 3) := by decide +kernel
theorem dX1_bringBack_24 : decode cX1_bringBack 24 = .ok (.aload_n 0, 1) := by decide +kernel
theorem dX1_bringBack_25 : decode cX1_bringBack 25 = .ok (.getfield 22, 3) := by decide +kernel
theorem dX1_bringBack_28 : decode cX1_bringBack 28 = .ok (.aload_n 0, 1) := by decide +kernel
theorem dX1_bringBack_29 : decode cX1_bringBack 29 = .ok (.getfield 18, 3) := by decide +kernel
theorem dX1_bringBack_32 : decode cX1_bringBack 32 = .ok (.iadd, 1) := by decide +kernel
theorem dX1_bringBack_33 : decode cX1_bringBack 33 = .ok (.bipush 8, 2) := by decide +kernel
theorem dX1_bringBack_35 : decode cX1_bringBack 35 = .ok (.irem, 1) := by decide +kernel
theorem dX1_bringBack_36 : decode cX1_bringBack 36 = .ok (.aaload, 1) := by decide +kernel
theorem dX1_bringBack_37 : decode cX1_bringBack 37 = .ok (.invokevirtual 25, 3) := by decide +kernel
theorem dX1_bringBack_40 : decode cX1_bringBack 40 = .ok (.iconst 1, 1) := by decide +kernel
theorem dX1_bringBack_41 : decode cX1_bringBack 41 = .ok (.ireturn, 1) := by decide +kernel
theorem dX1_forget_0 : decode cX1_forget 0 = .ok (.aload_n 0, 1) := by decide +kernel
theorem dX1_forget_1 : decode cX1_forget 1 = .ok (.iconst 0, 1) := by decide +kernel
theorem dX1_forget_2 : decode cX1_forget 2 = .ok (.putfield 18, 3) := by decide +kernel
theorem dX1_forget_5 : decode cX1_forget 5 = .ok (.return_, 1) := by decide +kernel
theorem dX2_init_0 : decode cX2_init 0 = .ok (.aload_n 0, 1) := by decide +kernel
theorem dX2_init_1 : decode cX2_init 1 = .ok (.invokespecial 3, 3) := by decide +kernel
theorem dX2_init_4 : decode cX2_init 4 = .ok (.aload_n 0, 1) := by decide +kernel
theorem dX2_init_5 : decode cX2_init 5 = .ok (.bipush 9, 2) := by decide +kernel
theorem dX2_init_7 : decode cX2_init 7 = .ok (.newarray .int, 2) := by decide +kernel
theorem dX2_init_9 : decode cX2_init 9 = .ok (.putfield 9, 3) := by decide +kernel
theorem dX2_init_12 : decode cX2_init 12 = .ok (.aload_n 0, 1) := by decide +kernel
theorem dX2_init_13 : decode cX2_init 13 = .ok (.bipush 9, 2) := by decide +kernel
theorem dX2_init_15 : decode cX2_init 15 = .ok (.newarray .int, 2) := by decide +kernel
theorem dX2_init_17 : decode cX2_init 17 = .ok (.putfield 15, 3) := by decide +kernel
theorem dX2_init_20 : decode cX2_init 20 = .ok (.aload_n 0, 1) := by decide +kernel
theorem dX2_init_21 : decode cX2_init 21 = .ok (.bipush 9, 2) := by decide +kernel
theorem dX2_init_23 : decode cX2_init 23 = .ok (.newarray .int, 2) := by decide +kernel
theorem dX2_init_25 : decode cX2_init 25 = .ok (.putfield 18, 3) := by decide +kernel
theorem dX2_init_28 : decode cX2_init 28 = .ok (.aload_n 0, 1) := by decide +kernel
theorem dX2_init_29 : decode cX2_init 29 = .ok (.bipush 45, 2) := by decide +kernel
theorem dX2_init_31 : decode cX2_init 31 = .ok (.newarray .int, 2) := by decide +kernel
theorem dX2_init_33 : decode cX2_init 33 = .ok (.putfield 21, 3) := by decide +kernel
theorem dX2_init_36 : decode cX2_init 36 = .ok (.aload_n 0, 1) := by decide +kernel
theorem dX2_init_37 : decode cX2_init 37 = .ok (.bipush 9, 2) := by decide +kernel
theorem dX2_init_39 : decode cX2_init 39 = .ok (.newarray .int, 2) := by decide +kernel
theorem dX2_init_41 : decode cX2_init 41 = .ok (.putfield 24, 3) := by decide +kernel
theorem dX2_init_44 : decode cX2_init 44 = .ok (.aload_n 0, 1) := by decide +kernel
theorem dX2_init_45 : decode cX2_init 45 = .ok (.bipush 9, 2) := by decide +kernel
theorem dX2_init_47 : decode cX2_init 47 = .ok (.newarray .int, 2) := by decide +kernel
theorem dX2_init_49 : decode cX2_init 49 = .ok (.putfield 27, 3) := by decide +kernel
theorem dX2_init_52 : decode cX2_init 52 = .ok (.return_, 1) := by decide +kernel
theorem dX2_has_0 : decode cX2_has 0 = .ok (.iload_n 1, 1) := by decide +kernel
theorem dX2_has_1 : decode cX2_has 1 = .ok (.ifCond .lt 15, 3) := by decide +kernel
theorem dX2_has_4 : decode cX2_has 4 = .ok (.iload_n 1, 1) := by decide +kernel
theorem dX2_has_5 : decode cX2_has 5 = .ok (.aload_n 0, 1) := by decide +kernel
theorem dX2_has_6 : decode cX2_has 6 = .ok (.getfield 30, 3) := by decide +kernel
theorem dX2_has_9 : decode cX2_has 9 = .ok (.if_icmp .ge 7, 3) := by decide +kernel
theorem dX2_has_12 : decode cX2_has 12 = .ok (.iconst 1, 1) := by decide +kernel
theorem dX2_has_13 : decode cX2_has 13 = .ok (.goto 4, 3) := by decide +kernel
theorem dX2_has_16 : decode cX2_has 16 = .ok (.iconst 0, 1) := by decide +kernel
theorem dX2_has_17 : decode cX2_has 17 = .ok (.ireturn, 1) := by decide +kernel
theorem dX2_add_0 : decode cX2_add 0 = .ok (.aload_n 0, 1) := by decide +kernel
theorem dX2_add_1 : decode cX2_add 1 = .ok (.getfield 30, 3) := by decide +kernel
theorem dX2_add_4 : decode cX2_add 4 = .ok (.bipush 9, 2) := by decide +kernel
theorem dX2_add_6 : decode cX2_add 6 = .ok (.if_icmp .ge 12, 3) := by decide +kernel
theorem dX2_add_9 : decode cX2_add 9 = .ok (.aload 4, 2) := by decide +kernel
theorem dX2_add_11 : decode cX2_add 11 = .ok (.getfield 34, 3) := by decide +kernel
theorem dX2_add_14 : decode cX2_add 14 = .ok (.iconst 5, 1) := by decide +kernel
theorem dX2_add_15 : decode cX2_add 15 = .ok (.if_icmp .le 5, 3) := by decide +kernel
theorem dX2_add_18 : decode cX2_add 18 = .ok (.iconst (-1), 1) := by decide +kernel
theorem dX2_add_19 : decode cX2_add 19 = .ok (.ireturn, 1) := by decide +kernel
theorem dX2_add_20 : decode cX2_add 20 = .ok (.aload_n 0, 1) := by decide +kernel
theorem dX2_add_21 : decode cX2_add 21 = .ok (.getfield 9, 3) := by decide +kernel
theorem dX2_add_24 : decode cX2_add 24 = .ok (.aload_n 0, 1) := by decide +kernel
theorem dX2_add_25 : decode cX2_add 25 = .ok (.getfield 30, 3) := by decide +kernel
theorem dX2_add_28 : decode cX2_add 28 = .ok (.iload_n 1, 1) := by decide +kernel
theorem dX2_add_29 : decode cX2_add 29 = .ok (.iastore, 1) := by decide +kernel
theorem dX2_add_30 : decode cX2_add 30 = .ok (.aload_n 0, 1) := by decide +kernel
theorem dX2_add_31 : decode cX2_add 31 = .ok (.getfield 15, 3) := by decide +kernel
theorem dX2_add_34 : decode cX2_add 34 = .ok (.aload_n 0, 1) := by decide +kernel
theorem dX2_add_35 : decode cX2_add 35 = .ok (.getfield 30, 3) := by decide +kernel
theorem dX2_add_38 : decode cX2_add 38 = .ok (.iload_n 2, 1) := by decide +kernel
theorem dX2_add_39 : decode cX2_add 39 = .ok (.iastore, 1) := by decide +kernel
theorem dX2_add_40 : decode cX2_add 40 = .ok (.aload_n 0, 1) := by decide +kernel
theorem dX2_add_41 : decode cX2_add 41 = .ok (.getfield 18, 3) := by decide +kernel
theorem dX2_add_44 : decode cX2_add 44 = .ok (.aload_n 0, 1) := by decide +kernel
theorem dX2_add_45 : decode cX2_add 45 = .ok (.getfield 30, 3) := by decide +kernel
theorem dX2_add_48 : decode cX2_add 48 = .ok (.iload_n 3, 1) := by decide +kernel
theorem dX2_add_49 : decode cX2_add 49 = .ok (.iastore, 1) := by decide +kernel
theorem dX2_add_50 : decode cX2_add 50 = .ok (.aload_n 0, 1) := by decide +kernel
theorem dX2_add_51 : decode cX2_add 51 = .ok (.getfield 24, 3) := by decide +kernel
theorem dX2_add_54 : decode cX2_add 54 = .ok (.aload_n 0, 1) := by decide +kernel
theorem dX2_add_55 : decode cX2_add 55 = .ok (.getfield 30, 3) := by decide +kernel
theorem dX2_add_58 : decode cX2_add 58 = .ok (.aload 4, 2) := by decide +kernel
theorem dX2_add_60 : decode cX2_add 60 = .ok (.getfield 34, 3) := by decide +kernel
theorem dX2_add_63 : decode cX2_add 63 = .ok (.iastore, 1) := by decide +kernel
theorem dX2_add_64 : decode cX2_add 64 = .ok (.iconst 0, 1) := by decide +kernel
theorem dX2_add_65 : decode cX2_add 65 = .ok (.istore 5, 2) := by decide +kernel
theorem dX2_add_67 : decode cX2_add 67 = .ok (.iload 5, 2) := by decide +kernel
theorem dX2_add_69 : decode cX2_add 69 = .ok (.aload 4, 2) := by decide +kernel
theorem dX2_add_71 : decode cX2_add 71 = .ok (.getfield 34, 3) := by decide +kernel
theorem dX2_add_74 : decode cX2_add 74 = .ok (.if_icmp .ge 30, 3) := by decide +kernel
theorem dX2_add_77 : decode cX2_add 77 = .ok (.aload_n 0, 1) := by decide +kernel
theorem dX2_add_78 : decode cX2_add 78 = .ok (.getfield 21, 3) := by decide +kernel
theorem dX2_add_81 : decode cX2_add 81 = .ok (.aload_n 0, 1) := by decide +kernel
theorem dX2_add_82 : decode cX2_add 82 = .ok (.getfield 30, 3) := by decide +kernel
theorem dX2_add_85 : decode cX2_add 85 = .ok (.iconst 5, 1) := by decide +kernel
theorem dX2_add_86 : decode cX2_add 86 = .ok (.imul, 1) := by decide +kernel
theorem dX2_add_87 : decode cX2_add 87 = .ok (.iload 5, 2) := by decide +kernel
theorem dX2_add_89 : decode cX2_add 89 = .ok (.iadd, 1) := by decide +kernel
theorem dX2_add_90 : decode cX2_add 90 = .ok (.aload 4, 2) := by decide +kernel
theorem dX2_add_92 : decode cX2_add 92 = .ok (.iload 5, 2) := by decide +kernel
theorem dX2_add_94 : decode cX2_add 94 = .ok (.invokevirtual 39, 3) := by decide +kernel
theorem dX2_add_97 : decode cX2_add 97 = .ok (.iastore, 1) := by decide +kernel
theorem dX2_add_98 : decode cX2_add 98 = .ok (.iinc 5 1, 3) := by decide +kernel
theorem dX2_add_101 : decode cX2_add 101 = .ok (.goto (-34), 3) := by decide +kernel
theorem dX2_add_104 : decode cX2_add 104 = .ok (.aload_n 0, 1) := by decide +kernel
theorem dX2_add_105 : decode cX2_add 105 = .ok (.dup, 1) := by decide +kernel
theorem dX2_add_106 : decode cX2_add 106 = .ok (.getfield 30, 3) := by decide +kernel
theorem dX2_add_109 : decode cX2_add 109 = .ok (.iconst 1, 1) := by decide +kernel
theorem dX2_add_110 : decode cX2_add 110 = .ok (.iadd, 1) := by decide +kernel
theorem dX2_add_111 : decode cX2_add 111 = .ok (.putfield 30, 3) := by decide +kernel
theorem dX2_add_114 : decode cX2_add 114 = .ok (.aload_n 0, 1) := by decide +kernel
theorem dX2_add_115 : decode cX2_add 115 = .ok (.getfield 30, 3) := by decide +kernel
theorem dX2_add_118 : decode cX2_add 118 = .ok (.iconst 1, 1) := by decide +kernel
theorem dX2_add_119 : decode cX2_add 119 = .ok (.isub, 1) := by decide +kernel
theorem dX2_add_120 : decode cX2_add 120 = .ok (.ireturn, 1) := by decide +kernel
theorem dX2_letterOf_0 : decode cX2_letterOf 0 = .ok (.aload_n 0, 1) := by decide +kernel
theorem dX2_letterOf_1 : decode cX2_letterOf 1 = .ok (.getfield 21, 3) := by decide +kernel
theorem dX2_letterOf_4 : decode cX2_letterOf 4 = .ok (.iload_n 1, 1) := by decide +kernel
theorem dX2_letterOf_5 : decode cX2_letterOf 5 = .ok (.iconst 5, 1) := by decide +kernel
theorem dX2_letterOf_6 : decode cX2_letterOf 6 = .ok (.imul, 1) := by decide +kernel
theorem dX2_letterOf_7 : decode cX2_letterOf 7 = .ok (.iload_n 2, 1) := by decide +kernel
theorem dX2_letterOf_8 : decode cX2_letterOf 8 = .ok (.iadd, 1) := by decide +kernel
theorem dX2_letterOf_9 : decode cX2_letterOf 9 = .ok (.iaload, 1) := by decide +kernel
theorem dX2_letterOf_10 : decode cX2_letterOf 10 = .ok (.ireturn, 1) := by decide +kernel
theorem dX2_copyFrom_0 : decode cX2_copyFrom 0 = .ok (.aload_n 0, 1) := by decide +kernel
theorem dX2_copyFrom_1 : decode cX2_copyFrom 1 = .ok (.aload_n 1, 1) := by decide +kernel
theorem dX2_copyFrom_2 : decode cX2_copyFrom 2 = .ok (.getfield 30, 3) := by decide +kernel
theorem dX2_copyFrom_5 : decode cX2_copyFrom 5 = .ok (.putfield 30, 3) := by decide +kernel
theorem dX2_copyFrom_8 : decode cX2_copyFrom 8 = .ok (.aload_n 1, 1) := by decide +kernel
theorem dX2_copyFrom_9 : decode cX2_copyFrom 9 = .ok (.getfield 9, 3) := by decide +kernel
theorem dX2_copyFrom_12 : decode cX2_copyFrom 12 = .ok (.iconst 0, 1) := by decide +kernel
theorem dX2_copyFrom_13 : decode cX2_copyFrom 13 = .ok (.aload_n 0, 1) := by decide +kernel
theorem dX2_copyFrom_14 : decode cX2_copyFrom 14 = .ok (.getfield 9, 3) := by decide +kernel
theorem dX2_copyFrom_17 : decode cX2_copyFrom 17 = .ok (.iconst 0, 1) := by decide +kernel
theorem dX2_copyFrom_18 : decode cX2_copyFrom 18 = .ok (.bipush 9, 2) := by decide +kernel
theorem dX2_copyFrom_20 : decode cX2_copyFrom 20 = .ok (.invokestatic 43, 3) := by decide +kernel
theorem dX2_copyFrom_23 : decode cX2_copyFrom 23 = .ok (.aload_n 1, 1) := by decide +kernel
theorem dX2_copyFrom_24 : decode cX2_copyFrom 24 = .ok (.getfield 15, 3) := by decide +kernel
theorem dX2_copyFrom_27 : decode cX2_copyFrom 27 = .ok (.iconst 0, 1) := by decide +kernel
theorem dX2_copyFrom_28 : decode cX2_copyFrom 28 = .ok (.aload_n 0, 1) := by decide +kernel
theorem dX2_copyFrom_29 : decode cX2_copyFrom 29 = .ok (.getfield 15, 3) := by decide +kernel
theorem dX2_copyFrom_32 : decode cX2_copyFrom 32 = .ok (.iconst 0, 1) := by decide +kernel
theorem dX2_copyFrom_33 : decode cX2_copyFrom 33 = .ok (.bipush 9, 2) := by decide +kernel
theorem dX2_copyFrom_35 : decode cX2_copyFrom 35 = .ok (.invokestatic 43, 3) := by decide +kernel
theorem dX2_copyFrom_38 : decode cX2_copyFrom 38 = .ok (.aload_n 1, 1) := by decide +kernel
theorem dX2_copyFrom_39 : decode cX2_copyFrom 39 = .ok (.getfield 18, 3) := by decide +kernel
theorem dX2_copyFrom_42 : decode cX2_copyFrom 42 = .ok (.iconst 0, 1) := by decide +kernel
theorem dX2_copyFrom_43 : decode cX2_copyFrom 43 = .ok (.aload_n 0, 1) := by decide +kernel
theorem dX2_copyFrom_44 : decode cX2_copyFrom 44 = .ok (.getfield 18, 3) := by decide +kernel
theorem dX2_copyFrom_47 : decode cX2_copyFrom 47 = .ok (.iconst 0, 1) := by decide +kernel
theorem dX2_copyFrom_48 : decode cX2_copyFrom 48 = .ok (.bipush 9, 2) := by decide +kernel
theorem dX2_copyFrom_50 : decode cX2_copyFrom 50 = .ok (.invokestatic 43, 3) := by decide +kernel
theorem dX2_copyFrom_53 : decode cX2_copyFrom 53 = .ok (.aload_n 1, 1) := by decide +kernel
theorem dX2_copyFrom_54 : decode cX2_copyFrom 54 = .ok (.getfield 21, 3) := by decide +kernel
theorem dX2_copyFrom_57 : decode cX2_copyFrom 57 = .ok (.iconst 0, 1) := by decide +kernel
theorem dX2_copyFrom_58 : decode cX2_copyFrom 58 = .ok (.aload_n 0, 1) := by decide +kernel
theorem dX2_copyFrom_59 : decode cX2_copyFrom 59 = .ok (.getfield 21, 3) := by decide +kernel
theorem dX2_copyFrom_62 : decode cX2_copyFrom 62 = .ok (.iconst 0, 1) := by decide +kernel
theorem dX2_copyFrom_63 : decode cX2_copyFrom 63 = .ok (.bipush 45, 2) := by decide +kernel
theorem dX2_copyFrom_65 : decode cX2_copyFrom 65 = .ok (.invokestatic 43, 3) := by decide +kernel
theorem dX2_copyFrom_68 : decode cX2_copyFrom 68 = .ok (.aload_n 1, 1) := by decide +kernel
theorem dX2_copyFrom_69 : decode cX2_copyFrom 69 = .ok (.getfield 24, 3) := by decide +kernel
theorem dX2_copyFrom_72 : decode cX2_copyFrom 72 = .ok (.iconst 0, 1) := by decide +kernel
theorem dX2_copyFrom_73 : decode cX2_copyFrom 73 = .ok (.aload_n 0, 1) := by decide +kernel
theorem dX2_copyFrom_74 : decode cX2_copyFrom 74 = .ok (.getfield 24, 3) := by decide +kernel
theorem dX2_copyFrom_77 : decode cX2_copyFrom 77 = .ok (.iconst 0, 1) := by decide +kernel
theorem dX2_copyFrom_78 : decode cX2_copyFrom 78 = .ok (.bipush 9, 2) := by decide +kernel
theorem dX2_copyFrom_80 : decode cX2_copyFrom 80 = .ok (.invokestatic 43, 3) := by decide +kernel
theorem dX2_copyFrom_83 : decode cX2_copyFrom 83 = .ok (.aload_n 1, 1) := by decide +kernel
theorem dX2_copyFrom_84 : decode cX2_copyFrom 84 = .ok (.getfield 27, 3) := by decide +kernel
theorem dX2_copyFrom_87 : decode cX2_copyFrom 87 = .ok (.iconst 0, 1) := by decide +kernel
theorem dX2_copyFrom_88 : decode cX2_copyFrom 88 = .ok (.aload_n 0, 1) := by decide +kernel
theorem dX2_copyFrom_89 : decode cX2_copyFrom 89 = .ok (.getfield 27, 3) := by decide +kernel
theorem dX2_copyFrom_92 : decode cX2_copyFrom 92 = .ok (.iconst 0, 1) := by decide +kernel
theorem dX2_copyFrom_93 : decode cX2_copyFrom 93 = .ok (.bipush 9, 2) := by decide +kernel
theorem dX2_copyFrom_95 : decode cX2_copyFrom 95 = .ok (.invokestatic 43, 3) := by decide +kernel
theorem dX2_copyFrom_98 : decode cX2_copyFrom 98 = .ok (.return_, 1) := by decide +kernel
theorem dX3_init_0 : decode cX3_init 0 = .ok (.aload_n 0, 1) := by decide +kernel
theorem dX3_init_1 : decode cX3_init 1 = .ok (.invokespecial 3, 3) := by decide +kernel
theorem dX3_init_4 : decode cX3_init 4 = .ok (.aload_n 0, 1) := by decide +kernel
theorem dX3_init_5 : decode cX3_init 5 = .ok (.bipush 60, 2) := by decide +kernel
theorem dX3_init_7 : decode cX3_init 7 = .ok (.newarray .int, 2) := by decide +kernel
theorem dX3_init_9 : decode cX3_init 9 = .ok (.putfield 9, 3) := by decide +kernel
theorem dX3_init_12 : decode cX3_init 12 = .ok (.aload_n 0, 1) := by decide +kernel
theorem dX3_init_13 : decode cX3_init 13 = .ok (.bipush 60, 2) := by decide +kernel
theorem dX3_init_15 : decode cX3_init 15 = .ok (.newarray .int, 2) := by decide +kernel
theorem dX3_init_17 : decode cX3_init 17 = .ok (.putfield 15, 3) := by decide +kernel
theorem dX3_init_20 : decode cX3_init 20 = .ok (.aload_n 0, 1) := by decide +kernel
theorem dX3_init_21 : decode cX3_init 21 = .ok (.bipush 60, 2) := by decide +kernel
theorem dX3_init_23 : decode cX3_init 23 = .ok (.newarray .int, 2) := by decide +kernel
theorem dX3_init_25 : decode cX3_init 25 = .ok (.putfield 18, 3) := by decide +kernel
theorem dX3_init_28 : decode cX3_init 28 = .ok (.aload_n 0, 1) := by decide +kernel
theorem dX3_init_29 : decode cX3_init 29 = .ok (.bipush 60, 2) := by decide +kernel
theorem dX3_init_31 : decode cX3_init 31 = .ok (.newarray .int, 2) := by decide +kernel
theorem dX3_init_33 : decode cX3_init 33 = .ok (.putfield 21, 3) := by decide +kernel
theorem dX3_init_36 : decode cX3_init 36 = .ok (.aload_n 0, 1) := by decide +kernel
theorem dX3_init_37 : decode cX3_init 37 = .ok (.bipush 60, 2) := by decide +kernel
theorem dX3_init_39 : decode cX3_init 39 = .ok (.newarray .long, 2) := by decide +kernel
theorem dX3_init_41 : decode cX3_init 41 = .ok (.putfield 24, 3) := by decide +kernel
theorem dX3_init_44 : decode cX3_init 44 = .ok (.aload_n 0, 1) := by decide +kernel
theorem dX3_init_45 : decode cX3_init 45 = .ok (.bipush 60, 2) := by decide +kernel
theorem dX3_init_47 : decode cX3_init 47 = .ok (.newarray .long, 2) := by decide +kernel
theorem dX3_init_49 : decode cX3_init 49 = .ok (.putfield 28, 3) := by decide +kernel
theorem dX3_init_52 : decode cX3_init 52 = .ok (.return_, 1) := by decide +kernel
theorem dX3_has_0 : decode cX3_has 0 = .ok (.iload_n 1, 1) := by decide +kernel
theorem dX3_has_1 : decode cX3_has 1 = .ok (.ifCond .lt 15, 3) := by decide +kernel
theorem dX3_has_4 : decode cX3_has 4 = .ok (.iload_n 1, 1) := by decide +kernel
theorem dX3_has_5 : decode cX3_has 5 = .ok (.aload_n 0, 1) := by decide +kernel
theorem dX3_has_6 : decode cX3_has 6 = .ok (.getfield 31, 3) := by decide +kernel
theorem dX3_has_9 : decode cX3_has 9 = .ok (.if_icmp .ge 7, 3) := by decide +kernel
theorem dX3_has_12 : decode cX3_has 12 = .ok (.iconst 1, 1) := by decide +kernel
theorem dX3_has_13 : decode cX3_has 13 = .ok (.goto 4, 3) := by decide +kernel
theorem dX3_has_16 : decode cX3_has 16 = .ok (.iconst 0, 1) := by decide +kernel
theorem dX3_has_17 : decode cX3_has 17 = .ok (.ireturn, 1) := by decide +kernel
theorem dX3_isNew_0 : decode cX3_isNew 0 = .ok (.aload_n 0, 1) := by decide +kernel
theorem dX3_isNew_1 : decode cX3_isNew 1 = .ok (.getfield 15, 3) := by decide +kernel
theorem dX3_isNew_4 : decode cX3_isNew 4 = .ok (.iload_n 1, 1) := by decide +kernel
theorem dX3_isNew_5 : decode cX3_isNew 5 = .ok (.iaload, 1) := by decide +kernel
theorem dX3_isNew_6 : decode cX3_isNew 6 = .ok (.iconst (-1), 1) := by decide +kernel
theorem dX3_isNew_7 : decode cX3_isNew 7 = .ok (.if_icmp .eq 7, 3) := by decide +kernel
theorem dX3_isNew_10 : decode cX3_isNew 10 = .ok (.iconst 1, 1) := by decide +kernel
theorem dX3_isNew_11 : decode cX3_isNew 11 = .ok (.goto 4, 3) := by decide +kernel
theorem dX3_isNew_14 : decode cX3_isNew 14 = .ok (.iconst 0, 1) := by decide +kernel
theorem dX3_isNew_15 : decode cX3_isNew 15 = .ok (.ireturn, 1) := by decide +kernel
theorem dX3_addNew_0 : decode cX3_addNew 0 = .ok (.aload_n 0, 1) := by decide +kernel
theorem dX3_addNew_1 : decode cX3_addNew 1 = .ok (.iconst 0, 1) := by decide +kernel
theorem dX3_addNew_2 : decode cX3_addNew 2 = .ok (.iload_n 1, 1) := by decide +kernel
theorem dX3_addNew_3 : decode cX3_addNew 3 = .ok (.iconst (-1), 1) := by decide +kernel
theorem dX3_addNew_4 : decode cX3_addNew 4 = .ok (.iconst (-1), 1) := by decide +kernel
theorem dX3_addNew_5 : decode cX3_addNew 5 = .ok (.lconst 0, 1) := by decide +kernel
theorem dX3_addNew_6 : decode cX3_addNew 6 = .ok (.invokevirtual 35, 3) := by decide +kernel
theorem dX3_addNew_9 : decode cX3_addNew 9 = .ok (.ireturn, 1) := by decide +kernel
theorem dX3_addMixed_0 : decode cX3_addMixed 0 = .ok (.iconst 1, 1) := by decide +kernel
theorem dX3_addMixed_1 : decode cX3_addMixed 1 = .ok (.aload_n 0, 1) := by decide +kernel
theorem dX3_addMixed_2 : decode cX3_addMixed 2 = .ok (.getfield 9, 3) := by decide +kernel
theorem dX3_addMixed_5 : decode cX3_addMixed 5 = .ok (.iload_n 1, 1) := by decide +kernel
theorem dX3_addMixed_6 : decode cX3_addMixed 6 = .ok (.iaload, 1) := by decide +kernel
theorem dX3_addMixed_7 : decode cX3_addMixed 7 = .ok (.aload_n 0, 1) := by decide +kernel
theorem dX3_addMixed_8 : decode cX3_addMixed 8 = .ok (.getfield 9, 3) := by decide +kernel
theorem dX3_addMixed_11 : decode cX3_addMixed 11 = .ok (.iload_n 2, 1) := by decide +kernel
theorem dX3_addMixed_12 : decode cX3_addMixed 12 = .ok (.iaload, 1) := by decide +kernel
theorem dX3_addMixed_13 : decode cX3_addMixed 13 = .ok (.invokestatic 39, 3) := by decide +kernel
theorem dX3_addMixed_16 : decode cX3_addMixed 16 = .ok (.iadd, 1) := by decide +kernel
theorem dX3_addMixed_17 : decode cX3_addMixed 17 = .ok (.istore_n 3, 1) := by decide +kernel
theorem dX3_addMixed_18 : decode cX3_addMixed 18 = .ok (.iload_n 3, 1) := by decide +kernel
theorem dX3_addMixed_19 : decode cX3_addMixed 19 = .ok (.bipush 30, 2) := by decide +kernel
theorem dX3_addMixed_21 : decode cX3_addMixed 21 = .ok (.if_icmp .le 7, 3) := by decide +kernel
theorem dX3_addMixed_24 : decode cX3_addMixed 24 = .ok (.iconst (-1), 1) := by decide +kernel
theorem dX3_addMixed_25 : decode cX3_addMixed 25 = .ok (.goto 24, 3) := by decide +kernel
theorem dX3_addMixed_28 : decode cX3_addMixed 28 = .ok (.aload_n 0, 1) := by decide +kernel
theorem dX3_addMixed_29 : decode cX3_addMixed 29 = .ok (.iload_n 3, 1) := by decide +kernel
theorem dX3_addMixed_30 : decode cX3_addMixed 30 = .ok (.iconst (-1), 1) := by decide +kernel
theorem dX3_addMixed_31 : decode cX3_addMixed 31 = .ok (.iload_n 1, 1) := by decide +kernel
theorem dX3_addMixed_32 : decode cX3_addMixed 32 = .ok (.iload_n 2, 1) := by decide +kernel
theorem dX3_addMixed_33 : decode cX3_addMixed 33 = .ok (.aload_n 0, 1) := by decide +kernel
theorem dX3_addMixed_34 : decode cX3_addMixed 34 = .ok (.getfield 24, 3) := by decide +kernel
theorem dX3_addMixed_37 : decode cX3_addMixed 37 = .ok (.iload_n 1, 1) := by decide +kernel
theorem dX3_addMixed_38 : decode cX3_addMixed 38 = .ok (.laload, 1) := by decide +kernel
theorem dX3_addMixed_39 : decode cX3_addMixed 39 = .ok (.aload_n 0, 1) := by decide +kernel
theorem dX3_addMixed_40 : decode cX3_addMixed 40 = .ok (.getfield 24, 3) := by decide +kernel
theorem dX3_addMixed_43 : decode cX3_addMixed 43 = .ok (.iload_n 2, 1) := by decide +kernel
theorem dX3_addMixed_44 : decode cX3_addMixed 44 = .ok (.laload, 1) := by decide +kernel
theorem dX3_addMixed_45 : decode cX3_addMixed 45 = .ok (.lor, 1) := by decide +kernel
theorem dX3_addMixed_46 : decode cX3_addMixed 46 = .ok (.invokevirtual 35, 3) := by decide +kernel
theorem dX3_addMixed_49 : decode cX3_addMixed 49 = .ok (.ireturn, 1) := by decide +kernel
theorem dX3_add_0 : decode cX3_add 0 = .ok (.aload_n 0, 1) := by decide +kernel
theorem dX3_add_1 : decode cX3_add 1 = .ok (.getfield 31, 3) := by decide +kernel
theorem dX3_add_4 : decode cX3_add 4 = .ok (.bipush 60, 2) := by decide +kernel
theorem dX3_add_6 : decode cX3_add 6 = .ok (.if_icmp .lt 5, 3) := by decide +kernel
theorem dX3_add_9 : decode cX3_add 9 = .ok (.iconst (-1), 1) := by decide +kernel
theorem dX3_add_10 : decode cX3_add 10 = .ok (.ireturn, 1) := by decide +kernel
theorem dX3_add_11 : decode cX3_add 11 = .ok (.aload_n 0, 1) := by decide +kernel
theorem dX3_add_12 : decode cX3_add 12 = .ok (.getfield 9, 3) := by decide +kernel
theorem dX3_add_15 : decode cX3_add 15 = .ok (.aload_n 0, 1) := by decide +kernel
theorem dX3_add_16 : decode cX3_add 16 = .ok (.getfield 31, 3) := by decide +kernel
theorem dX3_add_19 : decode cX3_add 19 = .ok (.iload_n 1, 1) := by decide +kernel
theorem dX3_add_20 : decode cX3_add 20 = .ok (.iastore, 1) := by decide +kernel
theorem dX3_add_21 : decode cX3_add 21 = .ok (.aload_n 0, 1) := by decide +kernel
theorem dX3_add_22 : decode cX3_add 22 = .ok (.getfield 15, 3) := by decide +kernel
theorem dX3_add_25 : decode cX3_add 25 = .ok (.aload_n 0, 1) := by decide +kernel
theorem dX3_add_26 : decode cX3_add 26 = .ok (.getfield 31, 3) := by decide +kernel
theorem dX3_add_29 : decode cX3_add 29 = .ok (.iload_n 2, 1) := by decide +kernel
theorem dX3_add_30 : decode cX3_add 30 = .ok (.iastore, 1) := by decide +kernel
theorem dX3_add_31 : decode cX3_add 31 = .ok (.aload_n 0, 1) := by decide +kernel
theorem dX3_add_32 : decode cX3_add 32 = .ok (.getfield 18, 3) := by decide +kernel
theorem dX3_add_35 : decode cX3_add 35 = .ok (.aload_n 0, 1) := by decide +kernel
theorem dX3_add_36 : decode cX3_add 36 = .ok (.getfield 31, 3) := by decide +kernel
theorem dX3_add_39 : decode cX3_add 39 = .ok (.iload_n 3, 1) := by decide +kernel
theorem dX3_add_40 : decode cX3_add 40 = .ok (.iastore, 1) := by decide +kernel
theorem dX3_add_41 : decode cX3_add 41 = .ok (.aload_n 0, 1) := by decide +kernel
theorem dX3_add_42 : decode cX3_add 42 = .ok (.getfield 21, 3) := by decide +kernel
theorem dX3_add_45 : decode cX3_add 45 = .ok (.aload_n 0, 1) := by decide +kernel
theorem dX3_add_46 : decode cX3_add 46 = .ok (.getfield 31, 3) := by decide +kernel
theorem dX3_add_49 : decode cX3_add 49 = .ok (.iload 4, 2) := by decide +kernel
theorem dX3_add_51 : decode cX3_add 51 = .ok (.iastore, 1) := by decide +kernel
theorem dX3_add_52 : decode cX3_add 52 = .ok (.aload_n 0, 1) := by decide +kernel
theorem dX3_add_53 : decode cX3_add 53 = .ok (.getfield 24, 3) := by decide +kernel
theorem dX3_add_56 : decode cX3_add 56 = .ok (.aload_n 0, 1) := by decide +kernel
theorem dX3_add_57 : decode cX3_add 57 = .ok (.getfield 31, 3) := by decide +kernel
theorem dX3_add_60 : decode cX3_add 60 = .ok (.lload 5, 2) := by decide +kernel
theorem dX3_add_62 : decode cX3_add 62 = .ok (.lconst 1, 1) := by decide +kernel
theorem dX3_add_63 : decode cX3_add 63 = .ok (.aload_n 0, 1) := by decide +kernel
theorem dX3_add_64 : decode cX3_add 64 = .ok (.getfield 31, 3) := by decide +kernel
theorem dX3_add_67 : decode cX3_add 67 = .ok (.lshl, 1) := by decide +kernel
theorem dX3_add_68 : decode cX3_add 68 = .ok (.lor, 1) := by decide +kernel
theorem dX3_add_69 : decode cX3_add 69 = .ok (.lastore, 1) := by decide +kernel
theorem dX3_add_70 : decode cX3_add 70 = .ok (.aload_n 0, 1) := by decide +kernel
theorem dX3_add_71 : decode cX3_add 71 = .ok (.dup, 1) := by decide +kernel
theorem dX3_add_72 : decode cX3_add 72 = .ok (.getfield 31, 3) := by decide +kernel
theorem dX3_add_75 : decode cX3_add 75 = .ok (.iconst 1, 1) := by decide +kernel
theorem dX3_add_76 : decode cX3_add 76 = .ok (.iadd, 1) := by decide +kernel
theorem dX3_add_77 : decode cX3_add 77 = .ok (.putfield 31, 3) := by decide +kernel
theorem dX3_add_80 : decode cX3_add 80 = .ok (.aload_n 0, 1) := by decide +kernel
theorem dX3_add_81 : decode cX3_add 81 = .ok (.getfield 31, 3) := by decide +kernel
theorem dX3_add_84 : decode cX3_add 84 = .ok (.iconst 1, 1) := by decide +kernel
theorem dX3_add_85 : decode cX3_add 85 = .ok (.isub, 1) := by decide +kernel
theorem dX3_add_86 : decode cX3_add 86 = .ok (.ireturn, 1) := by decide +kernel
theorem dX3_isLed_0 : decode cX3_isLed 0 = .ok (.aload_n 0, 1) := by decide +kernel
theorem dX3_isLed_1 : decode cX3_isLed 1 = .ok (.getfield 24, 3) := by decide +kernel
theorem dX3_isLed_4 : decode cX3_isLed 4 = .ok (.iload_n 1, 1) := by decide +kernel
theorem dX3_isLed_5 : decode cX3_isLed 5 = .ok (.laload, 1) := by decide +kernel
theorem dX3_isLed_6 : decode cX3_isLed 6 = .ok (.iload_n 2, 1) := by decide +kernel
theorem dX3_isLed_7 : decode cX3_isLed 7 = .ok (.lushr, 1) := by decide +kernel
theorem dX3_isLed_8 : decode cX3_isLed 8 = .ok (.lconst 1, 1) := by decide +kernel
theorem dX3_isLed_9 : decode cX3_isLed 9 = .ok (.land, 1) := by decide +kernel
theorem dX3_isLed_10 : decode cX3_isLed 10 = .ok (.lconst 0, 1) := by decide +kernel
theorem dX3_isLed_11 : decode cX3_isLed 11 = .ok (.lcmp, 1) := by decide +kernel
theorem dX3_isLed_12 : decode cX3_isLed 12 = .ok (.ifCond .eq 7, 3) := by decide +kernel
theorem dX3_isLed_15 : decode cX3_isLed 15 = .ok (.iconst 1, 1) := by decide +kernel
theorem dX3_isLed_16 : decode cX3_isLed 16 = .ok (.goto 4, 3) := by decide +kernel
theorem dX3_isLed_19 : decode cX3_isLed 19 = .ok (.iconst 0, 1) := by decide +kernel
theorem dX3_isLed_20 : decode cX3_isLed 20 = .ok (.ireturn, 1) := by decide +kernel
theorem dX3_shareOf_0 : decode cX3_shareOf 0 = .ok (.iconst 0, 1) := by decide +kernel
theorem dX3_shareOf_1 : decode cX3_shareOf 1 = .ok (.istore_n 3, 1) := by decide +kernel
theorem dX3_shareOf_2 : decode cX3_shareOf 2 = .ok (.iload_n 3, 1) := by decide +kernel
theorem dX3_shareOf_3 : decode cX3_shareOf 3 = .ok (.iload_n 1, 1) := by decide +kernel
theorem dX3_shareOf_4 : decode cX3_shareOf 4 = .ok (.if_icmp .gt 71, 3) := by decide +kernel
theorem dX3_shareOf_7 : decode cX3_shareOf 7 = .ok (.aload_n 0, 1) := by decide +kernel
theorem dX3_shareOf_8 : decode cX3_shareOf 8 = .ok (.iload_n 3, 1) := by decide +kernel
theorem dX3_shareOf_9 : decode cX3_shareOf 9 = .ok (.invokevirtual 45, 3) := by decide +kernel
theorem dX3_shareOf_12 : decode cX3_shareOf 12 = .ok (.ifCond .eq 24, 3) := by decide +kernel
theorem dX3_shareOf_15 : decode cX3_shareOf 15 = .ok (.aload_n 0, 1) := by decide +kernel
theorem dX3_shareOf_16 : decode cX3_shareOf 16 = .ok (.getfield 28, 3) := by decide +kernel
theorem dX3_shareOf_19 : decode cX3_shareOf 19 = .ok (.iload_n 3, 1) := by decide +kernel
theorem dX3_shareOf_20 : decode cX3_shareOf 20 = .ok (.iload_n 3, 1) := by decide +kernel
theorem dX3_shareOf_21 : decode cX3_shareOf 21 = .ok (.iload_n 2, 1) := by decide +kernel
theorem dX3_shareOf_22 : decode cX3_shareOf 22 = .ok (.if_icmp .ne 9, 3) := by decide +kernel
theorem dX3_shareOf_25 : decode cX3_shareOf 25 = .ok (.ldc2_w 49, 3) := by decide +kernel
theorem dX3_shareOf_28 : decode cX3_shareOf 28 = .ok (.goto 4, 3) := by decide +kernel
theorem dX3_shareOf_31 : decode cX3_shareOf 31 = .ok (.lconst 0, 1) := by decide +kernel
theorem dX3_shareOf_32 : decode cX3_shareOf 32 = .ok (.lastore, 1) := by decide +kernel
theorem dX3_shareOf_33 : decode cX3_shareOf 33 = .ok (.goto 36, 3) := by decide +kernel
theorem dX3_shareOf_36 : decode cX3_shareOf 36 = .ok (.aload_n 0, 1) := by decide +kernel
theorem dX3_shareOf_37 : decode cX3_shareOf 37 = .ok (.getfield 28, 3) := by decide +kernel
theorem dX3_shareOf_40 : decode cX3_shareOf 40 = .ok (.iload_n 3, 1) := by decide +kernel
theorem dX3_shareOf_41 : decode cX3_shareOf 41 = .ok (.aload_n 0, 1) := by decide +kernel
theorem dX3_shareOf_42 : decode cX3_shareOf 42 = .ok (.getfield 28, 3) := by decide +kernel
theorem dX3_shareOf_45 : decode cX3_shareOf 45 = .ok (.aload_n 0, 1) := by decide +kernel
theorem dX3_shareOf_46 : decode cX3_shareOf 46 = .ok (.getfield 18, 3) := by decide +kernel
theorem dX3_shareOf_49 : decode cX3_shareOf 49 = .ok (.iload_n 3, 1) := by decide +kernel
theorem dX3_shareOf_50 : decode cX3_shareOf 50 = .ok (.iaload, 1) := by decide +kernel
theorem dX3_shareOf_51 : decode cX3_shareOf 51 = .ok (.laload, 1) := by decide +kernel
theorem dX3_shareOf_52 : decode cX3_shareOf 52 = .ok (.aload_n 0, 1) := by decide +kernel
theorem dX3_shareOf_53 : decode cX3_shareOf 53 = .ok (.getfield 28, 3) := by decide +kernel
theorem dX3_shareOf_56 : decode cX3_shareOf 56 = .ok (.aload_n 0, 1) := by decide +kernel
theorem dX3_shareOf_57 : decode cX3_shareOf 57 = .ok (.getfield 21, 3) := by decide +kernel
theorem dX3_shareOf_60 : decode cX3_shareOf 60 = .ok (.iload_n 3, 1) := by decide +kernel
theorem dX3_shareOf_61 : decode cX3_shareOf 61 = .ok (.iaload, 1) := by decide +kernel
theorem dX3_shareOf_62 : decode cX3_shareOf 62 = .ok (.laload, 1) := by decide +kernel
theorem dX3_shareOf_63 : decode cX3_shareOf 63 = .ok (.ladd, 1) := by decide +kernel
theorem dX3_shareOf_64 : decode cX3_shareOf 64 = .ok (.ldc2_w 51, 3) := by decide +kernel
theorem dX3_shareOf_67 : decode cX3_shareOf 67 = .ok (.ldiv, 1) := by decide +kernel
theorem dX3_shareOf_68 : decode cX3_shareOf 68 = .ok (.lastore, 1) := by decide +kernel
theorem dX3_shareOf_69 : decode cX3_shareOf 69 = .ok (.iinc 3 1, 3) := by decide +kernel
theorem dX3_shareOf_72 : decode cX3_shareOf 72 = .ok (.goto (-70), 3) := by decide +kernel
theorem dX3_shareOf_75 : decode cX3_shareOf 75 = .ok (.aload_n 0, 1) := by decide +kernel
theorem dX3_shareOf_76 : decode cX3_shareOf 76 = .ok (.getfield 28, 3) := by decide +kernel
theorem dX3_shareOf_79 : decode cX3_shareOf 79 = .ok (.iload_n 1, 1) := by decide +kernel
theorem dX3_shareOf_80 : decode cX3_shareOf 80 = .ok (.laload, 1) := by decide +kernel
theorem dX3_shareOf_81 : decode cX3_shareOf 81 = .ok (.lreturn, 1) := by decide +kernel
theorem dX3_ownersWithin_0 : decode cX3_ownersWithin 0 = .ok (.iconst 0, 1) := by decide +kernel
theorem dX3_ownersWithin_1 : decode cX3_ownersWithin 1 = .ok (.istore_n 2, 1) := by decide +kernel
theorem dX3_ownersWithin_2 : decode cX3_ownersWithin 2 = .ok (.iconst 0, 1) := by decide +kernel
theorem dX3_ownersWithin_3 : decode cX3_ownersWithin 3 = .ok (.istore_n 3, 1) := by decide +kernel
theorem dX3_ownersWithin_4 : decode cX3_ownersWithin 4 = .ok (.iload_n 3, 1) := by decide +kernel
theorem dX3_ownersWithin_5 : decode cX3_ownersWithin 5 = .ok (.iload_n 1, 1) := by decide +kernel
theorem dX3_ownersWithin_6 : decode cX3_ownersWithin 6 = .ok (.if_icmp .gt 37, 3) := by decide +kernel
theorem dX3_ownersWithin_9 : decode cX3_ownersWithin 9 = .ok (.aload_n 0, 1) := by decide +kernel
theorem dX3_ownersWithin_10 : decode cX3_ownersWithin 10 = .ok (.iload_n 3, 1) := by decide +kernel
theorem dX3_ownersWithin_11 : decode cX3_ownersWithin 11 = .ok (.invokevirtual 45, 3) := by decide +kernel
theorem dX3_ownersWithin_14 : decode cX3_ownersWithin 14 = .ok (.ifCond .eq 23, 3) := by decide +kernel
theorem dX3_ownersWithin_17 : decode cX3_ownersWithin 17 = .ok (.aload_n 0, 1) := by decide +kernel
theorem dX3_ownersWithin_18 : decode cX3_ownersWithin 18 = .ok (.iload_n 1, 1) := by decide +kernel
theorem dX3_ownersWithin_19 : decode cX3_ownersWithin 19 = .ok (.iload_n 3, 1) := by decide +kernel
theorem dX3_ownersWithin_20 : decode cX3_ownersWithin 20 = .ok (.invokevirtual 53, 3) := by decide +kernel
theorem dX3_ownersWithin_23 : decode cX3_ownersWithin 23 = .ok (.ifCond .eq 14, 3) := by decide +kernel
theorem dX3_ownersWithin_26 : decode cX3_ownersWithin 26 = .ok (.iload_n 2, 1) := by decide +kernel
theorem dX3_ownersWithin_27 : decode cX3_ownersWithin 27 = .ok (.iconst 1, 1) := by decide +kernel
theorem dX3_ownersWithin_28 : decode cX3_ownersWithin 28 = .ok (.aload_n 0, 1) := by decide +kernel
theorem dX3_ownersWithin_29 : decode cX3_ownersWithin 29 = .ok (.getfield 15, 3) := by decide +kernel
theorem dX3_ownersWithin_32 : decode cX3_ownersWithin 32 = .ok (.iload_n 3, 1) := by decide +kernel
theorem dX3_ownersWithin_33 : decode cX3_ownersWithin 33 = .ok (.iaload, 1) := by decide +kernel
theorem dX3_ownersWithin_34 : decode cX3_ownersWithin 34 = .ok (.ishl, 1) := by decide +kernel
theorem dX3_ownersWithin_35 : decode cX3_ownersWithin 35 = .ok (.ior, 1) := by decide +kernel
theorem dX3_ownersWithin_36 : decode cX3_ownersWithin 36 = .ok (.istore_n 2, 1) := by decide +kernel
theorem dX3_ownersWithin_37 : decode cX3_ownersWithin 37 = .ok (.iinc 3 1, 3) := by decide +kernel
theorem dX3_ownersWithin_40 : decode cX3_ownersWithin 40 = .ok (.goto (-36), 3) := by decide +kernel
theorem dX3_ownersWithin_43 : decode cX3_ownersWithin 43 = .ok (.iload_n 2, 1) := by decide +kernel
theorem dX3_ownersWithin_44 : decode cX3_ownersWithin 44 = .ok (.invokestatic 57, 3) := by decide +kernel
theorem dX3_ownersWithin_47 : decode cX3_ownersWithin 47 = .ok (.ireturn, 1) := by decide +kernel
theorem dX3_copyFrom_0 : decode cX3_copyFrom 0 = .ok (.aload_n 0, 1) := by decide +kernel
theorem dX3_copyFrom_1 : decode cX3_copyFrom 1 = .ok (.aload_n 1, 1) := by decide +kernel
theorem dX3_copyFrom_2 : decode cX3_copyFrom 2 = .ok (.getfield 31, 3) := by decide +kernel
theorem dX3_copyFrom_5 : decode cX3_copyFrom 5 = .ok (.putfield 31, 3) := by decide +kernel
theorem dX3_copyFrom_8 : decode cX3_copyFrom 8 = .ok (.aload_n 1, 1) := by decide +kernel
theorem dX3_copyFrom_9 : decode cX3_copyFrom 9 = .ok (.getfield 9, 3) := by decide +kernel
theorem dX3_copyFrom_12 : decode cX3_copyFrom 12 = .ok (.iconst 0, 1) := by decide +kernel
theorem dX3_copyFrom_13 : decode cX3_copyFrom 13 = .ok (.aload_n 0, 1) := by decide +kernel
theorem dX3_copyFrom_14 : decode cX3_copyFrom 14 = .ok (.getfield 9, 3) := by decide +kernel
theorem dX3_copyFrom_17 : decode cX3_copyFrom 17 = .ok (.iconst 0, 1) := by decide +kernel
theorem dX3_copyFrom_18 : decode cX3_copyFrom 18 = .ok (.bipush 60, 2) := by decide +kernel
theorem dX3_copyFrom_20 : decode cX3_copyFrom 20 = .ok (.invokestatic 63, 3) := by decide +kernel
theorem dX3_copyFrom_23 : decode cX3_copyFrom 23 = .ok (.aload_n 1, 1) := by decide +kernel
theorem dX3_copyFrom_24 : decode cX3_copyFrom 24 = .ok (.getfield 15, 3) := by decide +kernel
theorem dX3_copyFrom_27 : decode cX3_copyFrom 27 = .ok (.iconst 0, 1) := by decide +kernel
theorem dX3_copyFrom_28 : decode cX3_copyFrom 28 = .ok (.aload_n 0, 1) := by decide +kernel
theorem dX3_copyFrom_29 : decode cX3_copyFrom 29 = .ok (.getfield 15, 3) := by decide +kernel
theorem dX3_copyFrom_32 : decode cX3_copyFrom 32 = .ok (.iconst 0, 1) := by decide +kernel
theorem dX3_copyFrom_33 : decode cX3_copyFrom 33 = .ok (.bipush 60, 2) := by decide +kernel
theorem dX3_copyFrom_35 : decode cX3_copyFrom 35 = .ok (.invokestatic 63, 3) := by decide +kernel
theorem dX3_copyFrom_38 : decode cX3_copyFrom 38 = .ok (.aload_n 1, 1) := by decide +kernel
theorem dX3_copyFrom_39 : decode cX3_copyFrom 39 = .ok (.getfield 18, 3) := by decide +kernel
theorem dX3_copyFrom_42 : decode cX3_copyFrom 42 = .ok (.iconst 0, 1) := by decide +kernel
theorem dX3_copyFrom_43 : decode cX3_copyFrom 43 = .ok (.aload_n 0, 1) := by decide +kernel
theorem dX3_copyFrom_44 : decode cX3_copyFrom 44 = .ok (.getfield 18, 3) := by decide +kernel
theorem dX3_copyFrom_47 : decode cX3_copyFrom 47 = .ok (.iconst 0, 1) := by decide +kernel
theorem dX3_copyFrom_48 : decode cX3_copyFrom 48 = .ok (.bipush 60, 2) := by decide +kernel
theorem dX3_copyFrom_50 : decode cX3_copyFrom 50 = .ok (.invokestatic 63, 3) := by decide +kernel
theorem dX3_copyFrom_53 : decode cX3_copyFrom 53 = .ok (.aload_n 1, 1) := by decide +kernel
theorem dX3_copyFrom_54 : decode cX3_copyFrom 54 = .ok (.getfield 21, 3) := by decide +kernel
theorem dX3_copyFrom_57 : decode cX3_copyFrom 57 = .ok (.iconst 0, 1) := by decide +kernel
theorem dX3_copyFrom_58 : decode cX3_copyFrom 58 = .ok (.aload_n 0, 1) := by decide +kernel
theorem dX3_copyFrom_59 : decode cX3_copyFrom 59 = .ok (.getfield 21, 3) := by decide +kernel
theorem dX3_copyFrom_62 : decode cX3_copyFrom 62 = .ok (.iconst 0, 1) := by decide +kernel
theorem dX3_copyFrom_63 : decode cX3_copyFrom 63 = .ok (.bipush 60, 2) := by decide +kernel
theorem dX3_copyFrom_65 : decode cX3_copyFrom 65 = .ok (.invokestatic 63, 3) := by decide +kernel
theorem dX3_copyFrom_68 : decode cX3_copyFrom 68 = .ok (.aload_n 1, 1) := by decide +kernel
theorem dX3_copyFrom_69 : decode cX3_copyFrom 69 = .ok (.getfield 24, 3) := by decide +kernel
theorem dX3_copyFrom_72 : decode cX3_copyFrom 72 = .ok (.iconst 0, 1) := by decide +kernel
theorem dX3_copyFrom_73 : decode cX3_copyFrom 73 = .ok (.aload_n 0, 1) := by decide +kernel
theorem dX3_copyFrom_74 : decode cX3_copyFrom 74 = .ok (.getfield 24, 3) := by decide +kernel
theorem dX3_copyFrom_77 : decode cX3_copyFrom 77 = .ok (.iconst 0, 1) := by decide +kernel
theorem dX3_copyFrom_78 : decode cX3_copyFrom 78 = .ok (.bipush 60, 2) := by decide +kernel
theorem dX3_copyFrom_80 : decode cX3_copyFrom 80 = .ok (.invokestatic 63, 3) := by decide +kernel
theorem dX3_copyFrom_83 : decode cX3_copyFrom 83 = .ok (.return_, 1) := by decide +kernel
theorem dX4_init_0 : decode cX4_init 0 = .ok (.aload_n 0, 1) := by decide +kernel
theorem dX4_init_1 : decode cX4_init 1 = .ok (.invokespecial 3, 3) := by decide +kernel
theorem dX4_init_4 : decode cX4_init 4 = .ok (.aload_n 0, 1) := by decide +kernel
theorem dX4_init_5 : decode cX4_init 5 = .ok (.bipush 9, 2) := by decide +kernel
theorem dX4_init_7 : decode cX4_init 7 = .ok (.newarray .int, 2) := by decide +kernel
theorem dX4_init_9 : decode cX4_init 9 = .ok (.putfield 9, 3) := by decide +kernel
theorem dX4_init_12 : decode cX4_init 12 = .ok (.aload_n 0, 1) := by decide +kernel
theorem dX4_init_13 : decode cX4_init 13 = .ok (.bipush 9, 2) := by decide +kernel
theorem dX4_init_15 : decode cX4_init 15 = .ok (.newarray .int, 2) := by decide +kernel
theorem dX4_init_17 : decode cX4_init 17 = .ok (.putfield 15, 3) := by decide +kernel
theorem dX4_init_20 : decode cX4_init 20 = .ok (.aload_n 0, 1) := by decide +kernel
theorem dX4_init_21 : decode cX4_init 21 = .ok (.bipush 9, 2) := by decide +kernel
theorem dX4_init_23 : decode cX4_init 23 = .ok (.newarray .int, 2) := by decide +kernel
theorem dX4_init_25 : decode cX4_init 25 = .ok (.putfield 18, 3) := by decide +kernel
theorem dX4_init_28 : decode cX4_init 28 = .ok (.aload_n 0, 1) := by decide +kernel
theorem dX4_init_29 : decode cX4_init 29 = .ok (.bipush 10, 2) := by decide +kernel
theorem dX4_init_31 : decode cX4_init 31 = .ok (.newarray .int, 2) := by decide +kernel
theorem dX4_init_33 : decode cX4_init 33 = .ok (.putfield 21, 3) := by decide +kernel
theorem dX4_init_36 : decode cX4_init 36 = .ok (.aload_n 0, 1) := by decide +kernel
theorem dX4_init_37 : decode cX4_init 37 = .ok (.bipush 64, 2) := by decide +kernel
theorem dX4_init_39 : decode cX4_init 39 = .ok (.newarray .int, 2) := by decide +kernel
theorem dX4_init_41 : decode cX4_init 41 = .ok (.putfield 24, 3) := by decide +kernel
theorem dX4_init_44 : decode cX4_init 44 = .ok (.aload_n 0, 1) := by decide +kernel
theorem dX4_init_45 : decode cX4_init 45 = .ok (.bipush 9, 2) := by decide +kernel
theorem dX4_init_47 : decode cX4_init 47 = .ok (.newarray .int, 2) := by decide +kernel
theorem dX4_init_49 : decode cX4_init 49 = .ok (.putfield 27, 3) := by decide +kernel
theorem dX4_init_52 : decode cX4_init 52 = .ok (.aload_n 0, 1) := by decide +kernel
theorem dX4_init_53 : decode cX4_init 53 = .ok (.bipush 10, 2) := by decide +kernel
theorem dX4_init_55 : decode cX4_init 55 = .ok (.newarray .int, 2) := by decide +kernel
theorem dX4_init_57 : decode cX4_init 57 = .ok (.putfield 30, 3) := by decide +kernel
theorem dX4_init_60 : decode cX4_init 60 = .ok (.aload_n 0, 1) := by decide +kernel
theorem dX4_init_61 : decode cX4_init 61 = .ok (.bipush 9, 2) := by decide +kernel
theorem dX4_init_63 : decode cX4_init 63 = .ok (.newarray .boolean, 2) := by decide +kernel
theorem dX4_init_65 : decode cX4_init 65 = .ok (.putfield 33, 3) := by decide +kernel
theorem dX4_init_68 : decode cX4_init 68 = .ok (.aload_n 0, 1) := by decide +kernel
theorem dX4_init_69 : decode cX4_init 69 = .ok (.sipush 201, 3) := by decide +kernel
theorem dX4_init_72 : decode cX4_init 72 = .ok (.newarray .long, 2) := by decide +kernel
theorem dX4_init_74 : decode cX4_init 74 = .ok (.putfield 37, 3) := by decide +kernel
theorem dX4_init_77 : decode cX4_init 77 = .ok (.aload_n 0, 1) := by decide +kernel
theorem dX4_init_78 : decode cX4_init 78 = .ok (.aload_n 1, 1) := by decide +kernel
theorem dX4_init_79 : decode cX4_init 79 = .ok (.putfield 41, 3) := by decide +kernel
theorem dX4_init_82 : decode cX4_init 82 = .ok (.return_, 1) := by decide +kernel
theorem dX4_standForToday_0 : decode cX4_standForToday 0 = .ok (.aload_n 0, 1) := by decide +kernel
theorem dX4_standForToday_1 : decode cX4_standForToday 1 = .ok (.invokevirtual 45, 3) := by decide +kernel
theorem dX4_standForToday_4 : decode cX4_standForToday 4 = .ok (.aload_n 0, 1) := by decide +kernel
theorem dX4_standForToday_5 : decode cX4_standForToday 5 = .ok (.getfield 41, 3) := by decide +kernel
theorem dX4_standForToday_8 : decode cX4_standForToday 8 = .ok (.getfield 48, 3) := by decide +kernel
theorem dX4_standForToday_11 : decode cX4_standForToday 11 = .ok (.invokevirtual 54, 3) := by decide +kernel
theorem dX4_standForToday_14 : decode cX4_standForToday 14 = .ok (.ifCond .eq 11, 3) := by decide +kernel
theorem dX4_standForToday_17 : decode cX4_standForToday 17 = .ok (.aload_n 0, 1) := by decide +kernel
theorem dX4_standForToday_18 : decode cX4_standForToday 18 = .ok (.aload_n 0, 1) := by decide +kernel
theorem dX4_standForToday_19 : decode cX4_standForToday 19 = .ok (.invokevirtual 60, 3) := by decide +kernel
theorem dX4_standForToday_22 : decode cX4_standForToday 22 = .ok (.invokevirtual 64, 3) := by decide +kernel
theorem dX4_standForToday_25 : decode cX4_standForToday 25 = .ok (.return_, 1) := by decide +kernel
theorem dX4_standAsTold_0 : decode cX4_standAsTold 0 = .ok (.aload_n 1, 1) := by decide +kernel
theorem dX4_standAsTold_1 : decode cX4_standAsTold 1 = .ok (.getfield 68, 3) := by decide +kernel
theorem dX4_standAsTold_4 : decode cX4_standAsTold 4 = .ok (.aload_n 0, 1) := by decide +kernel
theorem dX4_standAsTold_5 : decode cX4_standAsTold 5 = .ok (.getfield 41, 3) := by decide +kernel
theorem dX4_standAsTold_8 : decode cX4_standAsTold 8 = .ok (.getfield 74, 3) := by decide +kernel
theorem dX4_standAsTold_11 : decode cX4_standAsTold 11 = .ok (.getfield 78, 3) := by decide +kernel
theorem dX4_standAsTold_14 : decode cX4_standAsTold 14 = .ok (.if_icmp .eq 5, 3) := by decide +kernel
theorem dX4_standAsTold_17 : decode cX4_standAsTold 17 = .ok (.iconst 0, 1) := by decide +kernel
theorem dX4_standAsTold_18 : decode cX4_standAsTold 18 = .ok (.ireturn, 1) := by decide +kernel
theorem dX4_standAsTold_19 : decode cX4_standAsTold 19 = .ok (.aload_n 0, 1) := by decide +kernel
theorem dX4_standAsTold_20 : decode cX4_standAsTold 20 = .ok (.invokevirtual 83, 3) := by decide +kernel
theorem dX4_standAsTold_23 : decode cX4_standAsTold 23 = .ok (.iconst 0, 1) := by decide +kernel
theorem dX4_standAsTold_24 : decode cX4_standAsTold 24 = .ok (.istore_n 2, 1) := by decide +kernel
theorem dX4_standAsTold_25 : decode cX4_standAsTold 25 = .ok (.iload_n 2, 1) := by decide +kernel
theorem dX4_standAsTold_26 : decode cX4_standAsTold 26 = .ok (.aload_n 1, 1) := by decide +kernel
theorem dX4_standAsTold_27 : decode cX4_standAsTold 27 = .ok (.getfield 68, 3) := by decide +kernel
theorem dX4_standAsTold_30 : decode cX4_standAsTold 30 = .ok (.if_icmp .ge 58, 3) := by decide +kernel
theorem dX4_standAsTold_33 : decode cX4_standAsTold 33 = .ok (.aload_n 1, 1) := by decide +kernel
theorem dX4_standAsTold_34 : decode cX4_standAsTold 34 = .ok (.getfield 86, 3) := by decide +kernel
theorem dX4_standAsTold_37 : decode cX4_standAsTold 37 = .ok (.iload_n 2, 1) := by decide +kernel
theorem dX4_standAsTold_38 : decode cX4_standAsTold 38 = .ok (.iaload, 1) := by decide +kernel
theorem dX4_standAsTold_39 : decode cX4_standAsTold 39 = .ok (.bipush 48, 2) := by decide +kernel
theorem dX4_standAsTold_41 : decode cX4_standAsTold 41 = .ok (.isub, 1) := by decide +kernel
theorem dX4_standAsTold_42 : decode cX4_standAsTold 42 = .ok (.istore_n 3, 1) := by decide +kernel
theorem dX4_standAsTold_43 : decode cX4_standAsTold 43 = .ok (.aload_n 0, 1) := by decide +kernel
theorem dX4_standAsTold_44 : decode cX4_standAsTold 44 = .ok (.getfield 41, 3) := by decide +kernel
theorem dX4_standAsTold_47 : decode cX4_standAsTold 47 = .ok (.getfield 74, 3) := by decide +kernel
theorem dX4_standAsTold_50 : decode cX4_standAsTold 50 = .ok (.iload_n 3, 1) := by decide +kernel
theorem dX4_standAsTold_51 : decode cX4_standAsTold 51 = .ok (.invokevirtual 89, 3) := by decide +kernel
theorem dX4_standAsTold_54 : decode cX4_standAsTold 54 = .ok (.ifCond .eq 12, 3) := by decide +kernel
theorem dX4_standAsTold_57 : decode cX4_standAsTold 57 = .ok (.aload_n 0, 1) := by decide +kernel
theorem dX4_standAsTold_58 : decode cX4_standAsTold 58 = .ok (.getfield 33, 3) := by decide +kernel
theorem dX4_standAsTold_61 : decode cX4_standAsTold 61 = .ok (.iload_n 3, 1) := by decide +kernel
theorem dX4_standAsTold_62 : decode cX4_standAsTold 62 = .ok (.baload, 1) := by decide +kernel
theorem dX4_standAsTold_63 : decode cX4_standAsTold 63 = .ok (.ifCond .eq 5, 3) := by decide +kernel
theorem dX4_standAsTold_66 : decode cX4_standAsTold 66 = .ok (.iconst 0, 1) := by decide +kernel
theorem dX4_standAsTold_67 : decode cX4_standAsTold 67 = .ok (.ireturn, 1) := by decide +kernel
theorem dX4_standAsTold_68 : decode cX4_standAsTold 68 = .ok (.aload_n 0, 1) := by decide +kernel
theorem dX4_standAsTold_69 : decode cX4_standAsTold 69 = .ok (.getfield 33, 3) := by decide +kernel
theorem dX4_standAsTold_72 : decode cX4_standAsTold 72 = .ok (.iload_n 3, 1) := by decide +kernel
theorem dX4_standAsTold_73 : decode cX4_standAsTold 73 = .ok (.iconst 1, 1) := by decide +kernel
theorem dX4_standAsTold_74 : decode cX4_standAsTold 74 = .ok (.bastore, 1) := by decide +kernel
theorem dX4_standAsTold_75 : decode cX4_standAsTold 75 = .ok (.aload_n 0, 1) := by decide +kernel
theorem dX4_standAsTold_76 : decode cX4_standAsTold 76 = .ok (.getfield 9, 3) := by decide +kernel
theorem dX4_standAsTold_79 : decode cX4_standAsTold 79 = .ok (.iload_n 2, 1) := by decide +kernel
theorem dX4_standAsTold_80 : decode cX4_standAsTold 80 = .ok (.iload_n 3, 1) := by decide +kernel
theorem dX4_standAsTold_81 : decode cX4_standAsTold 81 = .ok (.iastore, 1) := by decide +kernel
theorem dX4_standAsTold_82 : decode cX4_standAsTold 82 = .ok (.iinc 2 1, 3) := by decide +kernel
theorem dX4_standAsTold_85 : decode cX4_standAsTold 85 = .ok (.goto (-60), 3) := by decide +kernel
theorem dX4_standAsTold_88 : decode cX4_standAsTold 88 = .ok (.iconst 1, 1) := by decide +kernel
theorem dX4_standAsTold_89 : decode cX4_standAsTold 89 = .ok (.ireturn, 1) := by decide +kernel
theorem dX4_standByRule_0 : decode cX4_standByRule 0 = .ok (.iconst 0, 1) := by decide +kernel
theorem dX4_standByRule_1 : decode cX4_standByRule 1 = .ok (.istore_n 1, 1) := by decide +kernel
theorem dX4_standByRule_2 : decode cX4_standByRule 2 = .ok (.iload_n 1, 1) := by decide +kernel
theorem dX4_standByRule_3 : decode cX4_standByRule 3 = .ok (.aload_n 0, 1) := by decide +kernel
theorem dX4_standByRule_4 : decode cX4_standByRule 4 = .ok (.getfield 41, 3) := by decide +kernel
theorem dX4_standByRule_7 : decode cX4_standByRule 7 = .ok (.getfield 74, 3) := by decide +kernel
theorem dX4_standByRule_10 : decode cX4_standByRule 10 = .ok (.getfield 78, 3) := by decide +kernel
theorem dX4_standByRule_13 : decode cX4_standByRule 13 = .ok (.if_icmp .ge 93, 3) := by decide +kernel
theorem dX4_standByRule_16 : decode cX4_standByRule 16 = .ok (.aload_n 0, 1) := by decide +kernel
theorem dX4_standByRule_17 : decode cX4_standByRule 17 = .ok (.iload_n 1, 1) := by decide +kernel
theorem dX4_standByRule_18 : decode cX4_standByRule 18 = .ok (.invokevirtual 93, 3) := by decide +kernel
theorem dX4_standByRule_21 : decode cX4_standByRule 21 = .ok (.aload_n 0, 1) := by decide +kernel
theorem dX4_standByRule_22 : decode cX4_standByRule 22 = .ok (.getfield 18, 3) := by decide +kernel
theorem dX4_standByRule_25 : decode cX4_standByRule 25 = .ok (.iload_n 1, 1) := by decide +kernel
theorem dX4_standByRule_26 : decode cX4_standByRule 26 = .ok (.aload_n 0, 1) := by decide +kernel
theorem dX4_standByRule_27 : decode cX4_standByRule 27 = .ok (.getfield 41, 3) := by decide +kernel
theorem dX4_standByRule_30 : decode cX4_standByRule 30 = .ok (.getfield 96, 3) := by decide +kernel
theorem dX4_standByRule_33 : decode cX4_standByRule 33 = .ok (.aload_n 0, 1) := by decide +kernel
theorem dX4_standByRule_34 : decode cX4_standByRule 34 = .ok (.getfield 21, 3) := by decide +kernel
theorem dX4_standByRule_37 : decode cX4_standByRule 37 = .ok (.aload_n 0, 1) := by decide +kernel
theorem dX4_standByRule_38 : decode cX4_standByRule 38 = .ok (.getfield 24, 3) := by decide +kernel
theorem dX4_standByRule_41 : decode cX4_standByRule 41 = .ok (.invokevirtual 100, 3) := by decide +kernel
theorem dX4_standByRule_44 : decode cX4_standByRule 44 = .ok (.iastore, 1) := by decide +kernel
theorem dX4_standByRule_45 : decode cX4_standByRule 45 = .ok (.iload_n 1, 1) := by decide +kernel
theorem dX4_standByRule_46 : decode cX4_standByRule 46 = .ok (.istore_n 2, 1) := by decide +kernel
theorem dX4_standByRule_47 : decode cX4_standByRule 47 = .ok (.iload_n 2, 1) := by decide +kernel
theorem dX4_standByRule_48 : decode cX4_standByRule 48 = .ok (.ifCond .le 45, 3) := by decide +kernel
theorem dX4_standByRule_51 : decode cX4_standByRule 51 = .ok (.aload_n 0, 1) := by decide +kernel
theorem dX4_standByRule_52 : decode cX4_standByRule 52 = .ok (.getfield 18, 3) := by decide +kernel
theorem dX4_standByRule_55 : decode cX4_standByRule 55 = .ok (.aload_n 0, 1) := by decide +kernel
theorem dX4_standByRule_56 : decode cX4_standByRule 56 = .ok (.getfield 9, 3) := by decide +kernel
theorem dX4_standByRule_59 : decode cX4_standByRule 59 = .ok (.iload_n 2, 1) := by decide +kernel
theorem dX4_standByRule_60 : decode cX4_standByRule 60 = .ok (.iconst 1, 1) := by decide +kernel
theorem dX4_standByRule_61 : decode cX4_standByRule 61 = .ok (.isub, 1) := by decide +kernel
theorem dX4_standByRule_62 : decode cX4_standByRule 62 = .ok (.iaload, 1) := by decide +kernel
theorem dX4_standByRule_63 : decode cX4_standByRule 63 = .ok (.iaload, 1) := by decide +kernel
theorem dX4_standByRule_64 : decode cX4_standByRule 64 = .ok (.aload_n 0, 1) := by decide +kernel
theorem dX4_standByRule_65 : decode cX4_standByRule 65 = .ok (.getfield 18, 3) := by decide +kernel
theorem dX4_standByRule_68 : decode cX4_standByRule 68 = .ok (.iload_n 1, 1) := by decide +kernel
theorem dX4_standByRule_69 : decode cX4_standByRule 69 = .ok (.iaload, 1) := by decide +kernel
theorem dX4_standByRule_70 : decode cX4_standByRule 70 = .ok (.if_icmp .ge 23, 3) := by decide +kernel
theorem dX4_standByRule_73 : decode cX4_standByRule 73 = .ok (.aload_n 0, 1) := by decide +kernel
theorem dX4_standByRule_74 : decode cX4_standByRule 74 = .ok (.getfield 9, 3) := by decide +kernel
theorem dX4_standByRule_77 : decode cX4_standByRule 77 = .ok (.iload_n 2, 1) := by decide +kernel
theorem dX4_standByRule_78 : decode cX4_standByRule 78 = .ok (.aload_n 0, 1) := by decide +kernel
theorem dX4_standByRule_79 : decode cX4_standByRule 79 = .ok (.getfield 9, 3) := by decide +kernel
theorem dX4_standByRule_82 : decode cX4_standByRule 82 = .ok (.iload_n 2, 1) := by decide +kernel
theorem dX4_standByRule_83 : decode cX4_standByRule 83 = .ok (.iconst 1, 1) := by decide +kernel
theorem dX4_standByRule_84 : decode cX4_standByRule 84 = .ok (.isub, 1) := by decide +kernel
theorem dX4_standByRule_85 : decode cX4_standByRule 85 = .ok (.iaload, 1) := by decide +kernel
theorem dX4_standByRule_86 : decode cX4_standByRule 86 = .ok (.iastore, 1) := by decide +kernel
theorem dX4_standByRule_87 : decode cX4_standByRule 87 = .ok (.iinc 2 (-1), 3) := by decide +kernel
theorem dX4_standByRule_90 : decode cX4_standByRule 90 = .ok (.goto (-43), 3) := by decide +kernel
theorem dX4_standByRule_93 : decode cX4_standByRule 93 = .ok (.aload_n 0, 1) := by decide +kernel
theorem dX4_standByRule_94 : decode cX4_standByRule 94 = .ok (.getfield 9, 3) := by decide +kernel
theorem dX4_standByRule_97 : decode cX4_standByRule 97 = .ok (.iload_n 2, 1) := by decide +kernel
theorem dX4_standByRule_98 : decode cX4_standByRule 98 = .ok (.iload_n 1, 1) := by decide +kernel
theorem dX4_standByRule_99 : decode cX4_standByRule 99 = .ok (.iastore, 1) := by decide +kernel
theorem dX4_standByRule_100 : decode cX4_standByRule 100 = .ok (.iinc 1 1, 3) := by decide +kernel
theorem dX4_standByRule_103 : decode cX4_standByRule 103 = .ok (.goto (-101), 3) := by decide +kernel
theorem dX4_standByRule_106 : decode cX4_standByRule 106 = .ok (.return_, 1) := by decide +kernel
theorem dX4_gatherFacts_0 : decode cX4_gatherFacts 0 = .ok (.aload_n 0, 1) := by decide +kernel
theorem dX4_gatherFacts_1 : decode cX4_gatherFacts 1 = .ok (.getfield 21, 3) := by decide +kernel
theorem dX4_gatherFacts_4 : decode cX4_gatherFacts 4 = .ok (.iconst 0, 1) := by decide +kernel
theorem dX4_gatherFacts_5 : decode cX4_gatherFacts 5 = .ok (.aload_n 0, 1) := by decide +kernel
theorem dX4_gatherFacts_6 : decode cX4_gatherFacts 6 = .ok (.getfield 41, 3) := by decide +kernel
theorem dX4_gatherFacts_9 : decode cX4_gatherFacts 9 = .ok (.getfield 74, 3) := by decide +kernel
theorem dX4_gatherFacts_12 : decode cX4_gatherFacts 12 = .ok (.getfield 105, 3) := by decide +kernel
theorem dX4_gatherFacts_15 : decode cX4_gatherFacts 15 = .ok (.iload_n 1, 1) := by decide +kernel
theorem dX4_gatherFacts_16 : decode cX4_gatherFacts 16 = .ok (.iaload, 1) := by decide +kernel
theorem dX4_gatherFacts_17 : decode cX4_gatherFacts 17 = .ok (.iastore, 1) := by decide +kernel
theorem dX4_gatherFacts_18 : decode cX4_gatherFacts 18 = .ok (.aload_n 0, 1) := by decide +kernel
theorem dX4_gatherFacts_19 : decode cX4_gatherFacts 19 = .ok (.getfield 21, 3) := by decide +kernel
theorem dX4_gatherFacts_22 : decode cX4_gatherFacts 22 = .ok (.iconst 1, 1) := by decide +kernel
theorem dX4_gatherFacts_23 : decode cX4_gatherFacts 23 = .ok (.aload_n 0, 1) := by decide +kernel
theorem dX4_gatherFacts_24 : decode cX4_gatherFacts 24 = .ok (.getfield 41, 3) := by decide +kernel
theorem dX4_gatherFacts_27 : decode cX4_gatherFacts 27 = .ok (.getfield 74, 3) := by decide +kernel
theorem dX4_gatherFacts_30 : decode cX4_gatherFacts 30 = .ok (.getfield 108, 3) := by decide +kernel
theorem dX4_gatherFacts_33 : decode cX4_gatherFacts 33 = .ok (.iload_n 1, 1) := by decide +kernel
theorem dX4_gatherFacts_34 : decode cX4_gatherFacts 34 = .ok (.iaload, 1) := by decide +kernel
theorem dX4_gatherFacts_35 : decode cX4_gatherFacts 35 = .ok (.iastore, 1) := by decide +kernel
theorem dX4_gatherFacts_36 : decode cX4_gatherFacts 36 = .ok (.aload_n 0, 1) := by decide +kernel
theorem dX4_gatherFacts_37 : decode cX4_gatherFacts 37 = .ok (.getfield 21, 3) := by decide +kernel
theorem dX4_gatherFacts_40 : decode cX4_gatherFacts 40 = .ok (.iconst 2, 1) := by decide +kernel
theorem dX4_gatherFacts_41 : decode cX4_gatherFacts 41 = .ok (.aload_n 0, 1) := by decide +kernel
theorem dX4_gatherFacts_42 : decode cX4_gatherFacts 42 = .ok (.getfield 41, 3) := by decide +kernel
theorem dX4_gatherFacts_45 : decode cX4_gatherFacts 45 = .ok (.getfield 48, 3) := by decide +kernel
theorem dX4_gatherFacts_48 : decode cX4_gatherFacts 48 = .ok (.getfield 111, 3) := by decide +kernel
theorem dX4_gatherFacts_51 : decode cX4_gatherFacts 51 = .ok (.iload_n 1, 1) := by decide +kernel
theorem dX4_gatherFacts_52 : decode cX4_gatherFacts 52 = .ok (.iaload, 1) := by decide +kernel
theorem dX4_gatherFacts_53 : decode cX4_gatherFacts 53 = .ok (.iastore, 1) := by decide +kernel
theorem dX4_gatherFacts_54 : decode cX4_gatherFacts 54 = .ok (.aload_n 0, 1) := by decide +kernel
theorem dX4_gatherFacts_55 : decode cX4_gatherFacts 55 = .ok (.getfield 21, 3) := by decide +kernel
theorem dX4_gatherFacts_58 : decode cX4_gatherFacts 58 = .ok (.iconst 3, 1) := by decide +kernel
theorem dX4_gatherFacts_59 : decode cX4_gatherFacts 59 = .ok (.aload_n 0, 1) := by decide +kernel
theorem dX4_gatherFacts_60 : decode cX4_gatherFacts 60 = .ok (.getfield 41, 3) := by decide +kernel
theorem dX4_gatherFacts_63 : decode cX4_gatherFacts 63 = .ok (.getfield 48, 3) := by decide +kernel
theorem dX4_gatherFacts_66 : decode cX4_gatherFacts 66 = .ok (.getfield 114, 3) := by decide +kernel
theorem dX4_gatherFacts_69 : decode cX4_gatherFacts 69 = .ok (.iload_n 1, 1) := by decide +kernel
theorem dX4_gatherFacts_70 : decode cX4_gatherFacts 70 = .ok (.iaload, 1) := by decide +kernel
theorem dX4_gatherFacts_71 : decode cX4_gatherFacts 71 = .ok (.iastore, 1) := by decide +kernel
theorem dX4_gatherFacts_72 : decode cX4_gatherFacts 72 = .ok (.aload_n 0, 1) := by decide +kernel
theorem dX4_gatherFacts_73 : decode cX4_gatherFacts 73 = .ok (.getfield 21, 3) := by decide +kernel
theorem dX4_gatherFacts_76 : decode cX4_gatherFacts 76 = .ok (.iconst 4, 1) := by decide +kernel
theorem dX4_gatherFacts_77 : decode cX4_gatherFacts 77 = .ok (.aload_n 0, 1) := by decide +kernel
theorem dX4_gatherFacts_78 : decode cX4_gatherFacts 78 = .ok (.getfield 41, 3) := by decide +kernel
theorem dX4_gatherFacts_81 : decode cX4_gatherFacts 81 = .ok (.getfield 48, 3) := by decide +kernel
theorem dX4_gatherFacts_84 : decode cX4_gatherFacts 84 = .ok (.getfield 117, 3) := by decide +kernel
theorem dX4_gatherFacts_87 : decode cX4_gatherFacts 87 = .ok (.iload_n 1, 1) := by decide +kernel
theorem dX4_gatherFacts_88 : decode cX4_gatherFacts 88 = .ok (.iaload, 1) := by decide +kernel
theorem dX4_gatherFacts_89 : decode cX4_gatherFacts 89 = .ok (.iastore, 1) := by decide +kernel
theorem dX4_gatherFacts_90 : decode cX4_gatherFacts 90 = .ok (.aload_n 0, 1) := by decide +kernel
theorem dX4_gatherFacts_91 : decode cX4_gatherFacts 91 = .ok (.getfield 21, 3) := by decide +kernel
theorem dX4_gatherFacts_94 : decode cX4_gatherFacts 94 = .ok (.iconst 5, 1) := by decide +kernel
theorem dX4_gatherFacts_95 : decode cX4_gatherFacts 95 = .ok (.aload_n 0, 1) := by decide +kernel
theorem dX4_gatherFacts_96 : decode cX4_gatherFacts 96 = .ok (.getfield 41, 3) := by decide +kernel
theorem dX4_gatherFacts_99 : decode cX4_gatherFacts 99 = .ok (.getfield 48, 3) := by decide +kernel
theorem dX4_gatherFacts_102 : decode cX4_gatherFacts 102 = .ok (.getfield 120, 3) := by decide +kernel
theorem dX4_gatherFacts_105 : decode cX4_gatherFacts 105 = .ok (.iload_n 1, 1) := by decide +kernel
theorem dX4_gatherFacts_106 : decode cX4_gatherFacts 106 = .ok (.iaload, 1) := by decide +kernel
theorem dX4_gatherFacts_107 : decode cX4_gatherFacts 107 = .ok (.iastore, 1) := by decide +kernel
theorem dX4_gatherFacts_108 : decode cX4_gatherFacts 108 = .ok (.aload_n 0, 1) := by decide +kernel
theorem dX4_gatherFacts_109 : decode cX4_gatherFacts 109 = .ok (.getfield 21, 3) := by decide +kernel
theorem dX4_gatherFacts_112 : decode cX4_gatherFacts 112 = .ok (.bipush 6, 2) := by decide +kernel
theorem dX4_gatherFacts_114 : decode cX4_gatherFacts 114 = .ok (.aload_n 0, 1) := by decide +kernel
theorem dX4_gatherFacts_115 : decode cX4_gatherFacts 115 = .ok (.getfield 41, 3) := by decide +kernel
theorem dX4_gatherFacts_118 : decode cX4_gatherFacts 118 = .ok (.getfield 48, 3) := by decide +kernel
theorem dX4_gatherFacts_121 : decode cX4_gatherFacts 121 = .ok (.getfield 123, 3) := by decide +kernel
theorem dX4_gatherFacts_124 : decode cX4_gatherFacts 124 = .ok (.iload_n 1, 1) := by decide +kernel
theorem dX4_gatherFacts_125 : decode cX4_gatherFacts 125 = .ok (.iaload, 1) := by decide +kernel
theorem dX4_gatherFacts_126 : decode cX4_gatherFacts 126 = .ok (.iastore, 1) := by decide +kernel
theorem dX4_gatherFacts_127 : decode cX4_gatherFacts 127 = .ok (.aload_n 0, 1) := by decide +kernel
theorem dX4_gatherFacts_128 : decode cX4_gatherFacts 128 = .ok (.getfield 21, 3) := by decide +kernel
theorem dX4_gatherFacts_131 : decode cX4_gatherFacts 131 = .ok (.bipush 7, 2) := by decide +kernel
theorem dX4_gatherFacts_133 : decode cX4_gatherFacts 133 = .ok (.iload_n 1, 1) := by decide +kernel
theorem dX4_gatherFacts_134 : decode cX4_gatherFacts 134 = .ok (.iastore, 1) := by decide +kernel
theorem dX4_gatherFacts_135 : decode cX4_gatherFacts 135 = .ok (.aload_n 0, 1) := by decide +kernel
theorem dX4_gatherFacts_136 : decode cX4_gatherFacts 136 = .ok (.getfield 21, 3) := by decide +kernel
theorem dX4_gatherFacts_139 : decode cX4_gatherFacts 139 = .ok (.bipush 8, 2) := by decide +kernel
theorem dX4_gatherFacts_141 : decode cX4_gatherFacts 141 = .ok (.aload_n 0, 1) := by decide +kernel
theorem dX4_gatherFacts_142 : decode cX4_gatherFacts 142 = .ok (.getfield 41, 3) := by decide +kernel
theorem dX4_gatherFacts_145 : decode cX4_gatherFacts 145 = .ok (.getfield 48, 3) := by decide +kernel
theorem dX4_gatherFacts_148 : decode cX4_gatherFacts 148 = .ok (.getfield 126, 3) := by decide +kernel
theorem dX4_gatherFacts_151 : decode cX4_gatherFacts 151 = .ok (.iastore, 1) := by decide +kernel
theorem dX4_gatherFacts_152 : decode cX4_gatherFacts 152 = .ok (.aload_n 0, 1) := by decide +kernel
theorem dX4_gatherFacts_153 : decode cX4_gatherFacts 153 = .ok (.getfield 21, 3) := by decide +kernel
theorem dX4_gatherFacts_156 : decode cX4_gatherFacts 156 = .ok (.bipush 9, 2) := by decide +kernel
theorem dX4_gatherFacts_158 : decode cX4_gatherFacts 158 = .ok (.aload_n 0, 1) := by decide +kernel
theorem dX4_gatherFacts_159 : decode cX4_gatherFacts 159 = .ok (.getfield 41, 3) := by decide +kernel
theorem dX4_gatherFacts_162 : decode cX4_gatherFacts 162 = .ok (.getfield 74, 3) := by decide +kernel
theorem dX4_gatherFacts_165 : decode cX4_gatherFacts 165 = .ok (.getfield 129, 3) := by decide +kernel
theorem dX4_gatherFacts_168 : decode cX4_gatherFacts 168 = .ok (.iload_n 1, 1) := by decide +kernel
theorem dX4_gatherFacts_169 : decode cX4_gatherFacts 169 = .ok (.iaload, 1) := by decide +kernel
theorem dX4_gatherFacts_170 : decode cX4_gatherFacts 170 = .ok (.ineg, 1) := by decide +kernel
theorem dX4_gatherFacts_171 : decode cX4_gatherFacts 171 = .ok (.iastore, 1) := by decide +kernel
theorem dX4_gatherFacts_172 : decode cX4_gatherFacts 172 = .ok (.return_, 1) := by decide +kernel
theorem dX4_fewestMondays_0 : decode cX4_fewestMondays 0 = .ok (.iconst 0, 1) := by decide +kernel
theorem dX4_fewestMondays_1 : decode cX4_fewestMondays 1 = .ok (.istore_n 1, 1) := by decide +kernel
theorem dX4_fewestMondays_2 : decode cX4_fewestMondays 2 = .ok (.iconst 1, 1) := by decide +kernel
theorem dX4_fewestMondays_3 : decode cX4_fewestMondays 3 = .ok (.istore_n 2, 1) := by decide +kernel
theorem dX4_fewestMondays_4 : decode cX4_fewestMondays 4 = .ok (.iload_n 2, 1) := by decide +kernel
theorem dX4_fewestMondays_5 : decode cX4_fewestMondays 5 = .ok (.aload_n 0, 1) := by decide +kernel
theorem dX4_fewestMondays_6 : decode cX4_fewestMondays 6 = .ok (.getfield 41, 3) := by decide +kernel
theorem dX4_fewestMondays_9 : decode cX4_fewestMondays 9 = .ok (.getfield 74, 3) := by decide +kernel
theorem dX4_fewestMondays_12 : decode cX4_fewestMondays 12 = .ok (.getfield 78, 3) := by decide +kernel
theorem dX4_fewestMondays_15 : decode cX4_fewestMondays 15 = .ok (.if_icmp .ge 38, 3) := by decide +kernel
theorem dX4_fewestMondays_18 : decode cX4_fewestMondays 18 = .ok (.aload_n 0, 1) := by decide +kernel
theorem dX4_fewestMondays_19 : decode cX4_fewestMondays 19 = .ok (.getfield 41, 3) := by decide +kernel
theorem dX4_fewestMondays_22 : decode cX4_fewestMondays 22 = .ok (.getfield 48, 3) := by decide +kernel
theorem dX4_fewestMondays_25 : decode cX4_fewestMondays 25 = .ok (.getfield 132, 3) := by decide +kernel
theorem dX4_fewestMondays_28 : decode cX4_fewestMondays 28 = .ok (.iload_n 2, 1) := by decide +kernel
theorem dX4_fewestMondays_29 : decode cX4_fewestMondays 29 = .ok (.iaload, 1) := by decide +kernel
theorem dX4_fewestMondays_30 : decode cX4_fewestMondays 30 = .ok (.aload_n 0, 1) := by decide +kernel
theorem dX4_fewestMondays_31 : decode cX4_fewestMondays 31 = .ok (.getfield 41, 3) := by decide +kernel
theorem dX4_fewestMondays_34 : decode cX4_fewestMondays 34 = .ok (.getfield 48, 3) := by decide +kernel
theorem dX4_fewestMondays_37 : decode cX4_fewestMondays 37 = .ok (.getfield 132, 3) := by decide +kernel
theorem dX4_fewestMondays_40 : decode cX4_fewestMondays 40 = .ok (.iload_n 1, 1) := by decide +kernel
theorem dX4_fewestMondays_41 : decode cX4_fewestMondays 41 = .ok (.iaload, 1) := by decide +kernel
theorem dX4_fewestMondays_42 : decode cX4_fewestMondays 42 = .ok (.if_icmp .ge 5, 3) := by decide +kernel
theorem dX4_fewestMondays_45 : decode cX4_fewestMondays 45 = .ok (.iload_n 2, 1) := by decide +kernel
theorem dX4_fewestMondays_46 : decode cX4_fewestMondays 46 = .ok (.istore_n 1, 1) := by decide +kernel
theorem dX4_fewestMondays_47 : decode cX4_fewestMondays 47 = .ok (.iinc 2 1, 3) := by decide +kernel
theorem dX4_fewestMondays_50 : decode cX4_fewestMondays 50 = .ok (.goto (-46), 3) := by decide +kernel
theorem dX4_fewestMondays_53 : decode cX4_fewestMondays 53 = .ok (.iload_n 1, 1) := by decide +kernel
theorem dX4_fewestMondays_54 : decode cX4_fewestMondays 54 = .ok (.ireturn, 1) := by decide +kernel
theorem dX4_putFirst_0 : decode cX4_putFirst 0 = .ok (.iconst 0, 1) := by decide +kernel
theorem dX4_putFirst_1 : decode cX4_putFirst 1 = .ok (.istore_n 2, 1) := by decide +kernel
theorem dX4_putFirst_2 : decode cX4_putFirst 2 = .ok (.iload_n 2, 1) := by decide +kernel
theorem dX4_putFirst_3 : decode cX4_putFirst 3 = .ok (.aload_n 0, 1) := by decide +kernel
theorem dX4_putFirst_4 : decode cX4_putFirst 4 = .ok (.getfield 41, 3) := by decide +kernel
theorem dX4_putFirst_7 : decode cX4_putFirst 7 = .ok (.getfield 74, 3) := by decide +kernel
theorem dX4_putFirst_10 : decode cX4_putFirst 10 = .ok (.getfield 78, 3) := by decide +kernel
theorem dX4_putFirst_13 : decode cX4_putFirst 13 = .ok (.if_icmp .ge 19, 3) := by decide +kernel
theorem dX4_putFirst_16 : decode cX4_putFirst 16 = .ok (.aload_n 0, 1) := by decide +kernel
theorem dX4_putFirst_17 : decode cX4_putFirst 17 = .ok (.getfield 9, 3) := by decide +kernel
theorem dX4_putFirst_20 : decode cX4_putFirst 20 = .ok (.iload_n 2, 1) := by decide +kernel
theorem dX4_putFirst_21 : decode cX4_putFirst 21 = .ok (.iaload, 1) := by decide +kernel
theorem dX4_putFirst_22 : decode cX4_putFirst 22 = .ok (.iload_n 1, 1) := by decide +kernel
theorem dX4_putFirst_23 : decode cX4_putFirst 23 = .ok (.if_icmp .eq 9, 3) := by decide +kernel
theorem dX4_putFirst_26 : decode cX4_putFirst 26 = .ok (.iinc 2 1, 3) := by decide +kernel
theorem dX4_putFirst_29 : decode cX4_putFirst 29 = .ok (.goto (-27), 3) := by decide +kernel
theorem dX4_putFirst_32 : decode cX4_putFirst 32 = .ok (.iload_n 2, 1) := by decide +kernel
theorem dX4_putFirst_33 : decode cX4_putFirst 33 = .ok (.aload_n 0, 1) := by decide +kernel
theorem dX4_putFirst_34 : decode cX4_putFirst 34 = .ok (.getfield 41, 3) := by decide +kernel
theorem dX4_putFirst_37 : decode cX4_putFirst 37 = .ok (.getfield 74, 3) := by decide +kernel
theorem dX4_putFirst_40 : decode cX4_putFirst 40 = .ok (.getfield 78, 3) := by decide +kernel
theorem dX4_putFirst_43 : decode cX4_putFirst 43 = .ok (.if_icmp .lt 4, 3) := by decide +kernel
theorem dX4_putFirst_46 : decode cX4_putFirst 46 = .ok (.return_, 1) := by decide +kernel
theorem dX4_putFirst_47 : decode cX4_putFirst 47 = .ok (.iload_n 2, 1) := by decide +kernel
theorem dX4_putFirst_48 : decode cX4_putFirst 48 = .ok (.istore_n 3, 1) := by decide +kernel
theorem dX4_putFirst_49 : decode cX4_putFirst 49 = .ok (.iload_n 3, 1) := by decide +kernel
theorem dX4_putFirst_50 : decode cX4_putFirst 50 = .ok (.ifCond .le 23, 3) := by decide +kernel
theorem dX4_putFirst_53 : decode cX4_putFirst 53 = .ok (.aload_n 0, 1) := by decide +kernel
theorem dX4_putFirst_54 : decode cX4_putFirst 54 = .ok (.getfield 9, 3) := by decide +kernel
theorem dX4_putFirst_57 : decode cX4_putFirst 57 = .ok (.iload_n 3, 1) := by decide +kernel
theorem dX4_putFirst_58 : decode cX4_putFirst 58 = .ok (.aload_n 0, 1) := by decide +kernel
theorem dX4_putFirst_59 : decode cX4_putFirst 59 = .ok (.getfield 9, 3) := by decide +kernel
theorem dX4_putFirst_62 : decode cX4_putFirst 62 = .ok (.iload_n 3, 1) := by decide +kernel
theorem dX4_putFirst_63 : decode cX4_putFirst 63 = .ok (.iconst 1, 1) := by decide +kernel
theorem dX4_putFirst_64 : decode cX4_putFirst 64 = .ok (.isub, 1) := by decide +kernel
theorem dX4_putFirst_65 : decode cX4_putFirst 65 = .ok (.iaload, 1) := by decide +kernel
theorem dX4_putFirst_66 : decode cX4_putFirst 66 = .ok (.iastore, 1) := by decide +kernel
theorem dX4_putFirst_67 : decode cX4_putFirst 67 = .ok (.iinc 3 (-1), 3) := by decide +kernel
theorem dX4_putFirst_70 : decode cX4_putFirst 70 = .ok (.goto (-21), 3) := by decide +kernel
theorem dX4_putFirst_73 : decode cX4_putFirst 73 = .ok (.aload_n 0, 1) := by decide +kernel
theorem dX4_putFirst_74 : decode cX4_putFirst 74 = .ok (.getfield 9, 3) := by decide +kernel
theorem dX4_putFirst_77 : decode cX4_putFirst 77 = .ok (.iconst 0, 1) := by decide +kernel
theorem dX4_putFirst_78 : decode cX4_putFirst 78 = .ok (.iload_n 1, 1) := by decide +kernel
theorem dX4_putFirst_79 : decode cX4_putFirst 79 = .ok (.iastore, 1) := by decide +kernel
theorem dX4_putFirst_80 : decode cX4_putFirst 80 = .ok (.return_, 1) := by decide +kernel
theorem dX4_passDay_0 : decode cX4_passDay 0 = .ok (.aload_n 0, 1) := by decide +kernel
theorem dX4_passDay_1 : decode cX4_passDay 1 = .ok (.getfield 41, 3) := by decide +kernel
theorem dX4_passDay_4 : decode cX4_passDay 4 = .ok (.getfield 48, 3) := by decide +kernel
theorem dX4_passDay_7 : decode cX4_passDay 7 = .ok (.astore_n 1, 1) := by decide +kernel
theorem dX4_passDay_8 : decode cX4_passDay 8 = .ok (.aload_n 0, 1) := by decide +kernel
theorem dX4_passDay_9 : decode cX4_passDay 9 = .ok (.getfield 41, 3) := by decide +kernel
theorem dX4_passDay_12 : decode cX4_passDay 12 = .ok (.getfield 74, 3) := by decide +kernel
theorem dX4_passDay_15 : decode cX4_passDay 15 = .ok (.getfield 78, 3) := by decide +kernel
theorem dX4_passDay_18 : decode cX4_passDay 18 = .ok (.istore_n 2, 1) := by decide +kernel
theorem dX4_passDay_19 : decode cX4_passDay 19 = .ok (.aload_n 0, 1) := by decide +kernel
theorem dX4_passDay_20 : decode cX4_passDay 20 = .ok (.invokevirtual 135, 3) := by decide +kernel
theorem dX4_passDay_23 : decode cX4_passDay 23 = .ok (.aload_n 0, 1) := by decide +kernel
theorem dX4_passDay_24 : decode cX4_passDay 24 = .ok (.invokevirtual 138, 3) := by decide +kernel
theorem dX4_passDay_27 : decode cX4_passDay 27 = .ok (.aload_n 0, 1) := by decide +kernel
theorem dX4_passDay_28 : decode cX4_passDay 28 = .ok (.invokevirtual 141, 3) := by decide +kernel
theorem dX4_passDay_31 : decode cX4_passDay 31 = .ok (.istore_n 3, 1) := by decide +kernel
theorem dX4_passDay_32 : decode cX4_passDay 32 = .ok (.aload_n 0, 1) := by decide +kernel
theorem dX4_passDay_33 : decode cX4_passDay 33 = .ok (.getfield 30, 3) := by decide +kernel
theorem dX4_passDay_36 : decode cX4_passDay 36 = .ok (.iconst 0, 1) := by decide +kernel
theorem dX4_passDay_37 : decode cX4_passDay 37 = .ok (.iconst 0, 1) := by decide +kernel
theorem dX4_passDay_38 : decode cX4_passDay 38 = .ok (.iastore, 1) := by decide +kernel
theorem dX4_passDay_39 : decode cX4_passDay 39 = .ok (.iconst 0, 1) := by decide +kernel
theorem dX4_passDay_40 : decode cX4_passDay 40 = .ok (.istore 4, 2) := by decide +kernel
theorem dX4_passDay_42 : decode cX4_passDay 42 = .ok (.iload 4, 2) := by decide +kernel
theorem dX4_passDay_44 : decode cX4_passDay 44 = .ok (.iload_n 2, 1) := by decide +kernel
theorem dX4_passDay_45 : decode cX4_passDay 45 = .ok (.if_icmp .ge 26, 3) := by decide +kernel
theorem dX4_passDay_48 : decode cX4_passDay 48 = .ok (.aload_n 0, 1) := by decide +kernel
theorem dX4_passDay_49 : decode cX4_passDay 49 = .ok (.iload 4, 2) := by decide +kernel
theorem dX4_passDay_51 : decode cX4_passDay 51 = .ok (.iload 4, 2) := by decide +kernel
theorem dX4_passDay_53 : decode cX4_passDay 53 = .ok (.iload_n 3, 1) := by decide +kernel
theorem dX4_passDay_54 : decode cX4_passDay 54 = .ok (.if_icmp .ne 7, 3) := by decide +kernel
theorem dX4_passDay_57 : decode cX4_passDay 57 = .ok (.iconst 1, 1) := by decide +kernel
theorem dX4_passDay_58 : decode cX4_passDay 58 = .ok (.goto 4, 3) := by decide +kernel
theorem dX4_passDay_61 : decode cX4_passDay 61 = .ok (.iconst 0, 1) := by decide +kernel
theorem dX4_passDay_62 : decode cX4_passDay 62 = .ok (.invokevirtual 144, 3) := by decide +kernel
theorem dX4_passDay_65 : decode cX4_passDay 65 = .ok (.iinc 4 1, 3) := by decide +kernel
theorem dX4_passDay_68 : decode cX4_passDay 68 = .ok (.goto (-26), 3) := by decide +kernel
theorem dX4_passDay_71 : decode cX4_passDay 71 = .ok (.iload_n 2, 1) := by decide +kernel
theorem dX4_passDay_72 : decode cX4_passDay 72 = .ok (.ifCond .le 18, 3) := by decide +kernel
theorem dX4_passDay_75 : decode cX4_passDay 75 = .ok (.aload_n 1, 1) := by decide +kernel
theorem dX4_passDay_76 : decode cX4_passDay 76 = .ok (.getfield 120, 3) := by decide +kernel
theorem dX4_passDay_79 : decode cX4_passDay 79 = .ok (.aload_n 0, 1) := by decide +kernel
theorem dX4_passDay_80 : decode cX4_passDay 80 = .ok (.getfield 9, 3) := by decide +kernel
theorem dX4_passDay_83 : decode cX4_passDay 83 = .ok (.iconst 0, 1) := by decide +kernel
theorem dX4_passDay_84 : decode cX4_passDay 84 = .ok (.iaload, 1) := by decide +kernel
theorem dX4_passDay_85 : decode cX4_passDay 85 = .ok (.dup2, 1) := by decide +kernel
theorem dX4_passDay_86 : decode cX4_passDay 86 = .ok (.iaload, 1) := by decide +kernel
theorem dX4_passDay_87 : decode cX4_passDay 87 = .ok (.iconst 1, 1) := by decide +kernel
theorem dX4_passDay_88 : decode cX4_passDay 88 = .ok (.iadd, 1) := by decide +kernel
theorem dX4_passDay_89 : decode cX4_passDay 89 = .ok (.iastore, 1) := by decide +kernel
theorem dX4_passDay_90 : decode cX4_passDay 90 = .ok (.iload_n 2, 1) := by decide +kernel
theorem dX4_passDay_91 : decode cX4_passDay 91 = .ok (.ifCond .le 25, 3) := by decide +kernel
theorem dX4_passDay_94 : decode cX4_passDay 94 = .ok (.aload_n 1, 1) := by decide +kernel
theorem dX4_passDay_95 : decode cX4_passDay 95 = .ok (.invokevirtual 54, 3) := by decide +kernel
theorem dX4_passDay_98 : decode cX4_passDay 98 = .ok (.ifCond .eq 18, 3) := by decide +kernel
theorem dX4_passDay_101 : decode cX4_passDay 101 = .ok (.aload_n 1, 1) := by decide +kernel
theorem dX4_passDay_102 : decode cX4_passDay 102 = .ok (.getfield 132, 3) := by decide +kernel
theorem dX4_passDay_105 : decode cX4_passDay 105 = .ok (.aload_n 0, 1) := by decide +kernel
theorem dX4_passDay_106 : decode cX4_passDay 106 = .ok (.getfield 9, 3) := by decide +kernel
theorem dX4_passDay_109 : decode cX4_passDay 109 = .ok (.iconst 0, 1) := by decide +kernel
theorem dX4_passDay_110 : decode cX4_passDay 110 = .ok (.iaload, 1) := by decide +kernel
theorem dX4_passDay_111 : decode cX4_passDay 111 = .ok (.dup2, 1) := by decide +kernel
theorem dX4_passDay_112 : decode cX4_passDay 112 = .ok (.iaload, 1) := by decide +kernel
theorem dX4_passDay_113 : decode cX4_passDay 113 = .ok (.iconst 1, 1) := by decide +kernel
theorem dX4_passDay_114 : decode cX4_passDay 114 = .ok (.iadd, 1) := by decide +kernel
theorem dX4_passDay_115 : decode cX4_passDay 115 = .ok (.iastore, 1) := by decide +kernel
theorem dX4_passDay_116 : decode cX4_passDay 116 = .ok (.aload_n 0, 1) := by decide +kernel
theorem dX4_passDay_117 : decode cX4_passDay 117 = .ok (.getfield 9, 3) := by decide +kernel
theorem dX4_passDay_120 : decode cX4_passDay 120 = .ok (.iconst 0, 1) := by decide +kernel
theorem dX4_passDay_121 : decode cX4_passDay 121 = .ok (.aload_n 1, 1) := by decide +kernel
theorem dX4_passDay_122 : decode cX4_passDay 122 = .ok (.getfield 148, 3) := by decide +kernel
theorem dX4_passDay_125 : decode cX4_passDay 125 = .ok (.iconst 0, 1) := by decide +kernel
theorem dX4_passDay_126 : decode cX4_passDay 126 = .ok (.bipush 9, 2) := by decide +kernel
theorem dX4_passDay_128 : decode cX4_passDay 128 = .ok (.invokestatic 151, 3) := by decide +kernel
theorem dX4_passDay_131 : decode cX4_passDay 131 = .ok (.aload_n 1, 1) := by decide +kernel
theorem dX4_passDay_132 : decode cX4_passDay 132 = .ok (.iload_n 2, 1) := by decide +kernel
theorem dX4_passDay_133 : decode cX4_passDay 133 = .ok (.putfield 157, 3) := by decide +kernel
theorem dX4_passDay_136 : decode cX4_passDay 136 = .ok (.aload_n 1, 1) := by decide +kernel
theorem dX4_passDay_137 : decode cX4_passDay 137 = .ok (.iload_n 3, 1) := by decide +kernel
theorem dX4_passDay_138 : decode cX4_passDay 138 = .ok (.iconst (-1), 1) := by decide +kernel
theorem dX4_passDay_139 : decode cX4_passDay 139 = .ok (.if_icmp .ne 7, 3) := by decide +kernel
theorem dX4_passDay_142 : decode cX4_passDay 142 = .ok (.iconst (-1), 1) := by decide +kernel
theorem dX4_passDay_143 : decode cX4_passDay 143 = .ok (.goto 9, 3) := by decide +kernel
theorem dX4_passDay_146 : decode cX4_passDay 146 = .ok (.aload_n 0, 1) := by decide +kernel
theorem dX4_passDay_147 : decode cX4_passDay 147 = .ok (.getfield 9, 3) := by decide +kernel
theorem dX4_passDay_150 : decode cX4_passDay 150 = .ok (.iload_n 3, 1) := by decide +kernel
theorem dX4_passDay_151 : decode cX4_passDay 151 = .ok (.iaload, 1) := by decide +kernel
theorem dX4_passDay_152 : decode cX4_passDay 152 = .ok (.putfield 160, 3) := by decide +kernel
theorem dX4_passDay_155 : decode cX4_passDay 155 = .ok (.aload_n 1, 1) := by decide +kernel
theorem dX4_passDay_156 : decode cX4_passDay 156 = .ok (.dup, 1) := by decide +kernel
theorem dX4_passDay_157 : decode cX4_passDay 157 = .ok (.getfield 126, 3) := by decide +kernel
theorem dX4_passDay_160 : decode cX4_passDay 160 = .ok (.iconst 1, 1) := by decide +kernel
theorem dX4_passDay_161 : decode cX4_passDay 161 = .ok (.iadd, 1) := by decide +kernel
theorem dX4_passDay_162 : decode cX4_passDay 162 = .ok (.putfield 126, 3) := by decide +kernel
theorem dX4_passDay_165 : decode cX4_passDay 165 = .ok (.iload_n 3, 1) := by decide +kernel
theorem dX4_passDay_166 : decode cX4_passDay 166 = .ok (.iconst (-1), 1) := by decide +kernel
theorem dX4_passDay_167 : decode cX4_passDay 167 = .ok (.if_icmp .eq 7, 3) := by decide +kernel
theorem dX4_passDay_170 : decode cX4_passDay 170 = .ok (.iconst 1, 1) := by decide +kernel
theorem dX4_passDay_171 : decode cX4_passDay 171 = .ok (.goto 4, 3) := by decide +kernel
theorem dX4_passDay_174 : decode cX4_passDay 174 = .ok (.iconst 0, 1) := by decide +kernel
theorem dX4_passDay_175 : decode cX4_passDay 175 = .ok (.ireturn, 1) := by decide +kernel
theorem dX4_drawBurntPlace_0 : decode cX4_drawBurntPlace 0 = .ok (.aload_n 0, 1) := by decide +kernel
theorem dX4_drawBurntPlace_1 : decode cX4_drawBurntPlace 1 = .ok (.getfield 41, 3) := by decide +kernel
theorem dX4_drawBurntPlace_4 : decode cX4_drawBurntPlace 4 = .ok (.getfield 163, 3) := by decide +kernel
theorem dX4_drawBurntPlace_7 : decode cX4_drawBurntPlace 7 = .ok (.iconst 3, 1) := by decide +kernel
theorem dX4_drawBurntPlace_8 : decode cX4_drawBurntPlace 8 = .ok (.iaload, 1) := by decide +kernel
theorem dX4_drawBurntPlace_9 : decode cX4_drawBurntPlace 9 = .ok (.istore_n 1, 1) := by decide +kernel
theorem dX4_drawBurntPlace_10 : decode cX4_drawBurntPlace 10 = .ok (.iload_n 1, 1) := by decide +kernel
theorem dX4_drawBurntPlace_11 : decode cX4_drawBurntPlace 11 = .ok (.ifCond .le 32, 3) := by decide +kernel
theorem dX4_drawBurntPlace_14 : decode cX4_drawBurntPlace 14 = .ok (.aload_n 0, 1) := by decide +kernel
theorem dX4_drawBurntPlace_15 : decode cX4_drawBurntPlace 15 = .ok (.getfield 41, 3) := by decide +kernel
theorem dX4_drawBurntPlace_18 : decode cX4_drawBurntPlace 18 = .ok (.getfield 74, 3) := by decide +kernel
theorem dX4_drawBurntPlace_21 : decode cX4_drawBurntPlace 21 = .ok (.getfield 78, 3) := by decide +kernel
theorem dX4_drawBurntPlace_24 : decode cX4_drawBurntPlace 24 = .ok (.ifCond .le 19, 3) := by decide +kernel
theorem dX4_drawBurntPlace_27 : decode cX4_drawBurntPlace 27 = .ok (.aload_n 0, 1) := by decide +kernel
theorem dX4_drawBurntPlace_28 : decode cX4_drawBurntPlace 28 = .ok (.getfield 41, 3) := by decide +kernel
theorem dX4_drawBurntPlace_31 : decode cX4_drawBurntPlace 31 = .ok (.getfield 48, 3) := by decide +kernel
theorem dX4_drawBurntPlace_34 : decode cX4_drawBurntPlace 34 = .ok (.bipush 100, 2) := by decide +kernel
theorem dX4_drawBurntPlace_36 : decode cX4_drawBurntPlace 36 = .ok (.invokevirtual 166, 3) := by decide +kernel
theorem dX4_drawBurntPlace_39 : decode cX4_drawBurntPlace 39 = .ok (.iload_n 1, 1) := by decide +kernel
theorem dX4_drawBurntPlace_40 : decode cX4_drawBurntPlace 40 = .ok (.if_icmp .lt 5, 3) := by decide +kernel
theorem dX4_drawBurntPlace_43 : decode cX4_drawBurntPlace 43 = .ok (.iconst (-1), 1) := by decide +kernel
theorem dX4_drawBurntPlace_44 : decode cX4_drawBurntPlace 44 = .ok (.ireturn, 1) := by decide +kernel
theorem dX4_drawBurntPlace_45 : decode cX4_drawBurntPlace 45 = .ok (.aload_n 0, 1) := by decide +kernel
theorem dX4_drawBurntPlace_46 : decode cX4_drawBurntPlace 46 = .ok (.getfield 41, 3) := by decide +kernel
theorem dX4_drawBurntPlace_49 : decode cX4_drawBurntPlace 49 = .ok (.getfield 48, 3) := by decide +kernel
theorem dX4_drawBurntPlace_52 : decode cX4_drawBurntPlace 52 = .ok (.aload_n 0, 1) := by decide +kernel
theorem dX4_drawBurntPlace_53 : decode cX4_drawBurntPlace 53 = .ok (.getfield 41, 3) := by decide +kernel
theorem dX4_drawBurntPlace_56 : decode cX4_drawBurntPlace 56 = .ok (.getfield 74, 3) := by decide +kernel
theorem dX4_drawBurntPlace_59 : decode cX4_drawBurntPlace 59 = .ok (.getfield 78, 3) := by decide +kernel
theorem dX4_drawBurntPlace_62 : decode cX4_drawBurntPlace 62 = .ok (.invokevirtual 166, 3) := by decide +kernel
theorem dX4_drawBurntPlace_65 : decode cX4_drawBurntPlace 65 = .ok (.ireturn, 1) := by decide +kernel
theorem dX4_bake_0 : decode cX4_bake 0 = .ok (.aload_n 0, 1) := by decide +kernel
theorem dX4_bake_1 : decode cX4_bake 1 = .ok (.getfield 41, 3) := by decide +kernel
theorem dX4_bake_4 : decode cX4_bake 4 = .ok (.getfield 48, 3) := by decide +kernel
theorem dX4_bake_7 : decode cX4_bake 7 = .ok (.astore_n 3, 1) := by decide +kernel
theorem dX4_bake_8 : decode cX4_bake 8 = .ok (.aload_n 0, 1) := by decide +kernel
theorem dX4_bake_9 : decode cX4_bake 9 = .ok (.getfield 9, 3) := by decide +kernel
theorem dX4_bake_12 : decode cX4_bake 12 = .ok (.iload_n 1, 1) := by decide +kernel
theorem dX4_bake_13 : decode cX4_bake 13 = .ok (.iaload, 1) := by decide +kernel
theorem dX4_bake_14 : decode cX4_bake 14 = .ok (.istore 4, 2) := by decide +kernel
theorem dX4_bake_16 : decode cX4_bake 16 = .ok (.aload_n 3, 1) := by decide +kernel
theorem dX4_bake_17 : decode cX4_bake 17 = .ok (.getfield 117, 3) := by decide +kernel
theorem dX4_bake_20 : decode cX4_bake 20 = .ok (.iload 4, 2) := by decide +kernel
theorem dX4_bake_22 : decode cX4_bake 22 = .ok (.dup2, 1) := by decide +kernel
theorem dX4_bake_23 : decode cX4_bake 23 = .ok (.iaload, 1) := by decide +kernel
theorem dX4_bake_24 : decode cX4_bake 24 = .ok (.aload_n 0, 1) := by decide +kernel
theorem dX4_bake_25 : decode cX4_bake 25 = .ok (.iload 4, 2) := by decide +kernel
theorem dX4_bake_27 : decode cX4_bake 27 = .ok (.aload_n 0, 1) := by decide +kernel
theorem dX4_bake_28 : decode cX4_bake 28 = .ok (.getfield 30, 3) := by decide +kernel
theorem dX4_bake_31 : decode cX4_bake 31 = .ok (.iload_n 1, 1) := by decide +kernel
theorem dX4_bake_32 : decode cX4_bake 32 = .ok (.iaload, 1) := by decide +kernel
theorem dX4_bake_33 : decode cX4_bake 33 = .ok (.invokevirtual 170, 3) := by decide +kernel
theorem dX4_bake_36 : decode cX4_bake 36 = .ok (.iadd, 1) := by decide +kernel
theorem dX4_bake_37 : decode cX4_bake 37 = .ok (.iastore, 1) := by decide +kernel
theorem dX4_bake_38 : decode cX4_bake 38 = .ok (.aload_n 0, 1) := by decide +kernel
theorem dX4_bake_39 : decode cX4_bake 39 = .ok (.getfield 30, 3) := by decide +kernel
theorem dX4_bake_42 : decode cX4_bake 42 = .ok (.iload_n 1, 1) := by decide +kernel
theorem dX4_bake_43 : decode cX4_bake 43 = .ok (.iconst 1, 1) := by decide +kernel
theorem dX4_bake_44 : decode cX4_bake 44 = .ok (.iadd, 1) := by decide +kernel
theorem dX4_bake_45 : decode cX4_bake 45 = .ok (.aload_n 0, 1) := by decide +kernel
theorem dX4_bake_46 : decode cX4_bake 46 = .ok (.iload 4, 2) := by decide +kernel
theorem dX4_bake_48 : decode cX4_bake 48 = .ok (.aload_n 0, 1) := by decide +kernel
theorem dX4_bake_49 : decode cX4_bake 49 = .ok (.getfield 30, 3) := by decide +kernel
theorem dX4_bake_52 : decode cX4_bake 52 = .ok (.iload_n 1, 1) := by decide +kernel
theorem dX4_bake_53 : decode cX4_bake 53 = .ok (.iaload, 1) := by decide +kernel
theorem dX4_bake_54 : decode cX4_bake 54 = .ok (.invokevirtual 174, 3) := by decide +kernel
theorem dX4_bake_57 : decode cX4_bake 57 = .ok (.iastore, 1) := by decide +kernel
theorem dX4_bake_58 : decode cX4_bake 58 = .ok (.aload_n 3, 1) := by decide +kernel
theorem dX4_bake_59 : decode cX4_bake 59 = .ok (.getfield 111, 3) := by decide +kernel
theorem dX4_bake_62 : decode cX4_bake 62 = .ok (.iload 4, 2) := by decide +kernel
theorem dX4_bake_64 : decode cX4_bake 64 = .ok (.dup2, 1) := by decide +kernel
theorem dX4_bake_65 : decode cX4_bake 65 = .ok (.iaload, 1) := by decide +kernel
theorem dX4_bake_66 : decode cX4_bake 66 = .ok (.aload_n 0, 1) := by decide +kernel
theorem dX4_bake_67 : decode cX4_bake 67 = .ok (.getfield 27, 3) := by decide +kernel
theorem dX4_bake_70 : decode cX4_bake 70 = .ok (.iload 4, 2) := by decide +kernel
theorem dX4_bake_72 : decode cX4_bake 72 = .ok (.iaload, 1) := by decide +kernel
theorem dX4_bake_73 : decode cX4_bake 73 = .ok (.isub, 1) := by decide +kernel
theorem dX4_bake_74 : decode cX4_bake 74 = .ok (.iastore, 1) := by decide +kernel
theorem dX4_bake_75 : decode cX4_bake 75 = .ok (.aload_n 3, 1) := by decide +kernel
theorem dX4_bake_76 : decode cX4_bake 76 = .ok (.getfield 123, 3) := by decide +kernel
theorem dX4_bake_79 : decode cX4_bake 79 = .ok (.iload 4, 2) := by decide +kernel
theorem dX4_bake_81 : decode cX4_bake 81 = .ok (.aload_n 0, 1) := by decide +kernel
theorem dX4_bake_82 : decode cX4_bake 82 = .ok (.getfield 27, 3) := by decide +kernel
theorem dX4_bake_85 : decode cX4_bake 85 = .ok (.iload 4, 2) := by decide +kernel
theorem dX4_bake_87 : decode cX4_bake 87 = .ok (.iaload, 1) := by decide +kernel
theorem dX4_bake_88 : decode cX4_bake 88 = .ok (.ifCond .ne 15, 3) := by decide +kernel
theorem dX4_bake_91 : decode cX4_bake 91 = .ok (.aload_n 3, 1) := by decide +kernel
theorem dX4_bake_92 : decode cX4_bake 92 = .ok (.getfield 123, 3) := by decide +kernel
theorem dX4_bake_95 : decode cX4_bake 95 = .ok (.iload 4, 2) := by decide +kernel
theorem dX4_bake_97 : decode cX4_bake 97 = .ok (.iaload, 1) := by decide +kernel
theorem dX4_bake_98 : decode cX4_bake 98 = .ok (.iconst 1, 1) := by decide +kernel
theorem dX4_bake_99 : decode cX4_bake 99 = .ok (.iadd, 1) := by decide +kernel
theorem dX4_bake_100 : decode cX4_bake 100 = .ok (.goto 4, 3) := by decide +kernel
theorem dX4_bake_103 : decode cX4_bake 103 = .ok (.iconst 0, 1) := by decide +kernel
theorem dX4_bake_104 : decode cX4_bake 104 = .ok (.iastore, 1) := by decide +kernel
theorem dX4_bake_105 : decode cX4_bake 105 = .ok (.iload_n 2, 1) := by decide +kernel
theorem dX4_bake_106 : decode cX4_bake 106 = .ok (.ifCond .eq 20, 3) := by decide +kernel
theorem dX4_bake_109 : decode cX4_bake 109 = .ok (.aload_n 3, 1) := by decide +kernel
theorem dX4_bake_110 : decode cX4_bake 110 = .ok (.dup, 1) := by decide +kernel
theorem dX4_bake_111 : decode cX4_bake 111 = .ok (.getfield 177, 3) := by decide +kernel
theorem dX4_bake_114 : decode cX4_bake 114 = .ok (.aload_n 0, 1) := by decide +kernel
theorem dX4_bake_115 : decode cX4_bake 115 = .ok (.getfield 27, 3) := by decide +kernel
theorem dX4_bake_118 : decode cX4_bake 118 = .ok (.iload 4, 2) := by decide +kernel
theorem dX4_bake_120 : decode cX4_bake 120 = .ok (.iaload, 1) := by decide +kernel
theorem dX4_bake_121 : decode cX4_bake 121 = .ok (.iadd, 1) := by decide +kernel
theorem dX4_bake_122 : decode cX4_bake 122 = .ok (.putfield 177, 3) := by decide +kernel
theorem dX4_bake_125 : decode cX4_bake 125 = .ok (.return_, 1) := by decide +kernel
theorem dX4_bake_126 : decode cX4_bake 126 = .ok (.iload_n 1, 1) := by decide +kernel
theorem dX4_bake_127 : decode cX4_bake 127 = .ok (.ifCond .le 16, 3) := by decide +kernel
theorem dX4_bake_130 : decode cX4_bake 130 = .ok (.aload_n 0, 1) := by decide +kernel
theorem dX4_bake_131 : decode cX4_bake 131 = .ok (.getfield 27, 3) := by decide +kernel
theorem dX4_bake_134 : decode cX4_bake 134 = .ok (.iload 4, 2) := by decide +kernel
theorem dX4_bake_136 : decode cX4_bake 136 = .ok (.iaload, 1) := by decide +kernel
theorem dX4_bake_137 : decode cX4_bake 137 = .ok (.bipush 9, 2) := by decide +kernel
theorem dX4_bake_139 : decode cX4_bake 139 = .ok (.idiv, 1) := by decide +kernel
theorem dX4_bake_140 : decode cX4_bake 140 = .ok (.goto 4, 3) := by decide +kernel
theorem dX4_bake_143 : decode cX4_bake 143 = .ok (.iconst 0, 1) := by decide +kernel
theorem dX4_bake_144 : decode cX4_bake 144 = .ok (.istore 5, 2) := by decide +kernel
theorem dX4_bake_146 : decode cX4_bake 146 = .ok (.aload_n 3, 1) := by decide +kernel
theorem dX4_bake_147 : decode cX4_bake 147 = .ok (.getfield 114, 3) := by decide +kernel
theorem dX4_bake_150 : decode cX4_bake 150 = .ok (.iload 4, 2) := by decide +kernel
theorem dX4_bake_152 : decode cX4_bake 152 = .ok (.dup2, 1) := by decide +kernel
theorem dX4_bake_153 : decode cX4_bake 153 = .ok (.iaload, 1) := by decide +kernel
theorem dX4_bake_154 : decode cX4_bake 154 = .ok (.aload_n 0, 1) := by decide +kernel
theorem dX4_bake_155 : decode cX4_bake 155 = .ok (.getfield 27, 3) := by decide +kernel
theorem dX4_bake_158 : decode cX4_bake 158 = .ok (.iload 4, 2) := by decide +kernel
theorem dX4_bake_160 : decode cX4_bake 160 = .ok (.iaload, 1) := by decide +kernel
theorem dX4_bake_161 : decode cX4_bake 161 = .ok (.iload 5, 2) := by decide +kernel
theorem dX4_bake_163 : decode cX4_bake 163 = .ok (.isub, 1) := by decide +kernel
theorem dX4_bake_164 : decode cX4_bake 164 = .ok (.iadd, 1) := by decide +kernel
theorem dX4_bake_165 : decode cX4_bake 165 = .ok (.iastore, 1) := by decide +kernel
theorem dX4_bake_166 : decode cX4_bake 166 = .ok (.iload_n 1, 1) := by decide +kernel
theorem dX4_bake_167 : decode cX4_bake 167 = .ok (.ifCond .le 21, 3) := by decide +kernel
theorem dX4_bake_170 : decode cX4_bake 170 = .ok (.aload_n 3, 1) := by decide +kernel
theorem dX4_bake_171 : decode cX4_bake 171 = .ok (.getfield 114, 3) := by decide +kernel
theorem dX4_bake_174 : decode cX4_bake 174 = .ok (.aload_n 0, 1) := by decide +kernel
theorem dX4_bake_175 : decode cX4_bake 175 = .ok (.getfield 9, 3) := by decide +kernel
theorem dX4_bake_178 : decode cX4_bake 178 = .ok (.iload_n 1, 1) := by decide +kernel
theorem dX4_bake_179 : decode cX4_bake 179 = .ok (.iconst 1, 1) := by decide +kernel
theorem dX4_bake_180 : decode cX4_bake 180 = .ok (.isub, 1) := by decide +kernel
theorem dX4_bake_181 : decode cX4_bake 181 = .ok (.iaload, 1) := by decide +kernel
theorem dX4_bake_182 : decode cX4_bake 182 = .ok (.dup2, 1) := by decide +kernel
theorem dX4_bake_183 : decode cX4_bake 183 = .ok (.iaload, 1) := by decide +kernel
theorem dX4_bake_184 : decode cX4_bake 184 = .ok (.iload 5, 2) := by decide +kernel
theorem dX4_bake_186 : decode cX4_bake 186 = .ok (.iadd, 1) := by decide +kernel
theorem dX4_bake_187 : decode cX4_bake 187 = .ok (.iastore, 1) := by decide +kernel
theorem dX4_bake_188 : decode cX4_bake 188 = .ok (.return_, 1) := by decide +kernel
theorem dX4_weighLoaves_0 : decode cX4_weighLoaves 0 = .ok (.iconst 0, 1) := by decide +kernel
theorem dX4_weighLoaves_1 : decode cX4_weighLoaves 1 = .ok (.istore_n 1, 1) := by decide +kernel
theorem dX4_weighLoaves_2 : decode cX4_weighLoaves 2 = .ok (.iload_n 1, 1) := by decide +kernel
theorem dX4_weighLoaves_3 : decode cX4_weighLoaves 3 = .ok (.aload_n 0, 1) := by decide +kernel
theorem dX4_weighLoaves_4 : decode cX4_weighLoaves 4 = .ok (.getfield 41, 3) := by decide +kernel
theorem dX4_weighLoaves_7 : decode cX4_weighLoaves 7 = .ok (.getfield 74, 3) := by decide +kernel
theorem dX4_weighLoaves_10 : decode cX4_weighLoaves 10 = .ok (.getfield 78, 3) := by decide +kernel
theorem dX4_weighLoaves_13 : decode cX4_weighLoaves 13 = .ok (.if_icmp .ge 42, 3) := by decide +kernel
theorem dX4_weighLoaves_16 : decode cX4_weighLoaves 16 = .ok (.aload_n 0, 1) := by decide +kernel
theorem dX4_weighLoaves_17 : decode cX4_weighLoaves 17 = .ok (.getfield 27, 3) := by decide +kernel
theorem dX4_weighLoaves_20 : decode cX4_weighLoaves 20 = .ok (.iload_n 1, 1) := by decide +kernel
theorem dX4_weighLoaves_21 : decode cX4_weighLoaves 21 = .ok (.aload_n 0, 1) := by decide +kernel
theorem dX4_weighLoaves_22 : decode cX4_weighLoaves 22 = .ok (.getfield 41, 3) := by decide +kernel
theorem dX4_weighLoaves_25 : decode cX4_weighLoaves 25 = .ok (.getfield 74, 3) := by decide +kernel
theorem dX4_weighLoaves_28 : decode cX4_weighLoaves 28 = .ok (.getfield 105, 3) := by decide +kernel
theorem dX4_weighLoaves_31 : decode cX4_weighLoaves 31 = .ok (.iload_n 1, 1) := by decide +kernel
theorem dX4_weighLoaves_32 : decode cX4_weighLoaves 32 = .ok (.iaload, 1) := by decide +kernel
theorem dX4_weighLoaves_33 : decode cX4_weighLoaves 33 = .ok (.aload_n 0, 1) := by decide +kernel
theorem dX4_weighLoaves_34 : decode cX4_weighLoaves 34 = .ok (.getfield 41, 3) := by decide +kernel
theorem dX4_weighLoaves_37 : decode cX4_weighLoaves 37 = .ok (.getfield 48, 3) := by decide +kernel
theorem dX4_weighLoaves_40 : decode cX4_weighLoaves 40 = .ok (.getfield 111, 3) := by decide +kernel
theorem dX4_weighLoaves_43 : decode cX4_weighLoaves 43 = .ok (.iload_n 1, 1) := by decide +kernel
theorem dX4_weighLoaves_44 : decode cX4_weighLoaves 44 = .ok (.iaload, 1) := by decide +kernel
theorem dX4_weighLoaves_45 : decode cX4_weighLoaves 45 = .ok (.invokestatic 180, 3) := by decide +kernel
theorem dX4_weighLoaves_48 : decode cX4_weighLoaves 48 = .ok (.iastore, 1) := by decide +kernel
theorem dX4_weighLoaves_49 : decode cX4_weighLoaves 49 = .ok (.iinc 1 1, 3) := by decide +kernel
theorem dX4_weighLoaves_52 : decode cX4_weighLoaves 52 = .ok (.goto (-50), 3) := by decide +kernel
theorem dX4_weighLoaves_55 : decode cX4_weighLoaves 55 = .ok (.return_, 1) := by decide +kernel
theorem dX4_woodOf_0 : decode cX4_woodOf 0 = .ok (.aload_n 0, 1) := by decide +kernel
theorem dX4_woodOf_1 : decode cX4_woodOf 1 = .ok (.getfield 41, 3) := by decide +kernel
theorem dX4_woodOf_4 : decode cX4_woodOf 4 = .ok (.getfield 74, 3) := by decide +kernel
theorem dX4_woodOf_7 : decode cX4_woodOf 7 = .ok (.getfield 108, 3) := by decide +kernel
theorem dX4_woodOf_10 : decode cX4_woodOf 10 = .ok (.iload_n 1, 1) := by decide +kernel
theorem dX4_woodOf_11 : decode cX4_woodOf 11 = .ok (.iaload, 1) := by decide +kernel
theorem dX4_woodOf_12 : decode cX4_woodOf 12 = .ok (.iload_n 2, 1) := by decide +kernel
theorem dX4_woodOf_13 : decode cX4_woodOf 13 = .ok (.isub, 1) := by decide +kernel
theorem dX4_woodOf_14 : decode cX4_woodOf 14 = .ok (.istore_n 3, 1) := by decide +kernel
theorem dX4_woodOf_15 : decode cX4_woodOf 15 = .ok (.aload_n 0, 1) := by decide +kernel
theorem dX4_woodOf_16 : decode cX4_woodOf 16 = .ok (.getfield 41, 3) := by decide +kernel
theorem dX4_woodOf_19 : decode cX4_woodOf 19 = .ok (.getfield 163, 3) := by decide +kernel
theorem dX4_woodOf_22 : decode cX4_woodOf 22 = .ok (.iconst 0, 1) := by decide +kernel
theorem dX4_woodOf_23 : decode cX4_woodOf 23 = .ok (.iaload, 1) := by decide +kernel
theorem dX4_woodOf_24 : decode cX4_woodOf 24 = .ok (.istore 4, 2) := by decide +kernel
theorem dX4_woodOf_26 : decode cX4_woodOf 26 = .ok (.aload_n 0, 1) := by decide +kernel
theorem dX4_woodOf_27 : decode cX4_woodOf 27 = .ok (.getfield 27, 3) := by decide +kernel
theorem dX4_woodOf_30 : decode cX4_woodOf 30 = .ok (.iload_n 1, 1) := by decide +kernel
theorem dX4_woodOf_31 : decode cX4_woodOf 31 = .ok (.iaload, 1) := by decide +kernel
theorem dX4_woodOf_32 : decode cX4_woodOf 32 = .ok (.ifCond .eq 12, 3) := by decide +kernel
theorem dX4_woodOf_35 : decode cX4_woodOf 35 = .ok (.iload_n 3, 1) := by decide +kernel
theorem dX4_woodOf_36 : decode cX4_woodOf 36 = .ok (.ifCond .le 8, 3) := by decide +kernel
theorem dX4_woodOf_39 : decode cX4_woodOf 39 = .ok (.iload 4, 2) := by decide +kernel
theorem dX4_woodOf_41 : decode cX4_woodOf 41 = .ok (.ifCond .gt 7, 3) := by decide +kernel
theorem dX4_woodOf_44 : decode cX4_woodOf 44 = .ok (.iconst 0, 1) := by decide +kernel
theorem dX4_woodOf_45 : decode cX4_woodOf 45 = .ok (.goto 12, 3) := by decide +kernel
theorem dX4_woodOf_48 : decode cX4_woodOf 48 = .ok (.iload_n 3, 1) := by decide +kernel
theorem dX4_woodOf_49 : decode cX4_woodOf 49 = .ok (.iload 4, 2) := by decide +kernel
theorem dX4_woodOf_51 : decode cX4_woodOf 51 = .ok (.iadd, 1) := by decide +kernel
theorem dX4_woodOf_52 : decode cX4_woodOf 52 = .ok (.iconst 1, 1) := by decide +kernel
theorem dX4_woodOf_53 : decode cX4_woodOf 53 = .ok (.isub, 1) := by decide +kernel
theorem dX4_woodOf_54 : decode cX4_woodOf 54 = .ok (.iload 4, 2) := by decide +kernel
theorem dX4_woodOf_56 : decode cX4_woodOf 56 = .ok (.idiv, 1) := by decide +kernel
theorem dX4_woodOf_57 : decode cX4_woodOf 57 = .ok (.ireturn, 1) := by decide +kernel
theorem dX4_heatAfter_0 : decode cX4_heatAfter 0 = .ok (.aload_n 0, 1) := by decide +kernel
theorem dX4_heatAfter_1 : decode cX4_heatAfter 1 = .ok (.getfield 27, 3) := by decide +kernel
theorem dX4_heatAfter_4 : decode cX4_heatAfter 4 = .ok (.iload_n 1, 1) := by decide +kernel
theorem dX4_heatAfter_5 : decode cX4_heatAfter 5 = .ok (.iaload, 1) := by decide +kernel
theorem dX4_heatAfter_6 : decode cX4_heatAfter 6 = .ok (.ifCond .ne 5, 3) := by decide +kernel
theorem dX4_heatAfter_9 : decode cX4_heatAfter 9 = .ok (.iload_n 2, 1) := by decide +kernel
theorem dX4_heatAfter_10 : decode cX4_heatAfter 10 = .ok (.ireturn, 1) := by decide +kernel
theorem dX4_heatAfter_11 : decode cX4_heatAfter 11 = .ok (.iload_n 2, 1) := by decide +kernel
theorem dX4_heatAfter_12 : decode cX4_heatAfter 12 = .ok (.aload_n 0, 1) := by decide +kernel
theorem dX4_heatAfter_13 : decode cX4_heatAfter 13 = .ok (.iload_n 1, 1) := by decide +kernel
theorem dX4_heatAfter_14 : decode cX4_heatAfter 14 = .ok (.iload_n 2, 1) := by decide +kernel
theorem dX4_heatAfter_15 : decode cX4_heatAfter 15 = .ok (.invokevirtual 170, 3) := by decide +kernel
theorem dX4_heatAfter_18 : decode cX4_heatAfter 18 = .ok (.aload_n 0, 1) := by decide +kernel
theorem dX4_heatAfter_19 : decode cX4_heatAfter 19 = .ok (.getfield 41, 3) := by decide +kernel
theorem dX4_heatAfter_22 : decode cX4_heatAfter 22 = .ok (.getfield 163, 3) := by decide +kernel
theorem dX4_heatAfter_25 : decode cX4_heatAfter 25 = .ok (.iconst 0, 1) := by decide +kernel
theorem dX4_heatAfter_26 : decode cX4_heatAfter 26 = .ok (.iaload, 1) := by decide +kernel
theorem dX4_heatAfter_27 : decode cX4_heatAfter 27 = .ok (.imul, 1) := by decide +kernel
theorem dX4_heatAfter_28 : decode cX4_heatAfter 28 = .ok (.iadd, 1) := by decide +kernel
theorem dX4_heatAfter_29 : decode cX4_heatAfter 29 = .ok (.istore_n 3, 1) := by decide +kernel
theorem dX4_heatAfter_30 : decode cX4_heatAfter 30 = .ok (.iconst 0, 1) := by decide +kernel
theorem dX4_heatAfter_31 : decode cX4_heatAfter 31 = .ok (.iload_n 3, 1) := by decide +kernel
theorem dX4_heatAfter_32 : decode cX4_heatAfter 32 = .ok (.aload_n 0, 1) := by decide +kernel
theorem dX4_heatAfter_33 : decode cX4_heatAfter 33 = .ok (.getfield 41, 3) := by decide +kernel
theorem dX4_heatAfter_36 : decode cX4_heatAfter 36 = .ok (.getfield 163, 3) := by decide +kernel
theorem dX4_heatAfter_39 : decode cX4_heatAfter 39 = .ok (.iconst 1, 1) := by decide +kernel
theorem dX4_heatAfter_40 : decode cX4_heatAfter 40 = .ok (.iaload, 1) := by decide +kernel
theorem dX4_heatAfter_41 : decode cX4_heatAfter 41 = .ok (.aload_n 0, 1) := by decide +kernel
theorem dX4_heatAfter_42 : decode cX4_heatAfter 42 = .ok (.getfield 41, 3) := by decide +kernel
theorem dX4_heatAfter_45 : decode cX4_heatAfter 45 = .ok (.getfield 74, 3) := by decide +kernel
theorem dX4_heatAfter_48 : decode cX4_heatAfter 48 = .ok (.getfield 185, 3) := by decide +kernel
theorem dX4_heatAfter_51 : decode cX4_heatAfter 51 = .ok (.iload_n 1, 1) := by decide +kernel
theorem dX4_heatAfter_52 : decode cX4_heatAfter 52 = .ok (.iaload, 1) := by decide +kernel
theorem dX4_heatAfter_53 : decode cX4_heatAfter 53 = .ok (.imul, 1) := by decide +kernel
