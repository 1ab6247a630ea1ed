theorem dX0_init_0 : decode cX0_init 0 = .ok (.aload_n 0, 1) := by decide +kernel
theorem dX0_init_1 : decode cX0_init 1 = .ok (.invokespecial 3, 3) := by decide +kernel
theorem dX0_init_4 : decode cX0_init 4 = .ok (.aload_n 0, 1) := by decide +kernel
theorem dX0_init_5 : decode cX0_init 5 = .ok (.bipush 20, 2) := by decide +kernel
theorem dX0_init_7 : decode cX0_init 7 = .ok (.anewarray 9, 3) := by decide +kernel
theorem dX0_init_10 : decode cX0_init 10 = .ok (.putfield 11, 3) := by decide +kernel
theorem dX0_init_13 : decode cX0_init 13 = .ok (.iconst 0, 1) := by decide +kernel
theorem dX0_init_14 : decode cX0_init 14 = .ok (.istore_n 1, 1) := by decide +kernel
theorem dX0_init_15 : decode cX0_init 15 = .ok (.iload_n 1, 1) := by decide +kernel
theorem dX0_init_16 : decode cX0_init 16 = .ok (.bipush 20, 2) := by decide +kernel
theorem dX0_init_18 : decode cX0_init 18 = .ok (.if_icmp .ge 22, 3) := by decide +kernel
theorem dX0_init_21 : decode cX0_init 21 = .ok (.aload_n 0, 1) := by decide +kernel
theorem dX0_init_22 : decode cX0_init 22 = .ok (.getfield 11, 3) := by decide +kernel
theorem dX0_init_25 : decode cX0_init 25 = .ok (.iload_n 1, 1) := by decide +kernel
theorem dX0_init_26 : decode cX0_init 26 = .ok (.new 9, 3) := by decide +kernel
theorem dX0_init_29 : decode cX0_init 29 = .ok (.dup, 1) := by decide +kernel
theorem dX0_init_30 : decode cX0_init 30 = .ok (.invokespecial 17, 3) := by decide +kernel
theorem dX0_init_33 : decode cX0_init 33 = .ok (.aastore, 1) := by decide +kernel
theorem dX0_init_34 : decode cX0_init 34 = .ok (.iinc 1 1, 3) := by decide +kernel
theorem dX0_init_37 : decode cX0_init 37 = .ok (.goto (-22), 3) := by decide +kernel
theorem dX0_init_40 : decode cX0_init 40 = .ok (.return_, 1) := by decide +kernel
theorem dX0_keep_0 : decode cX0_keep 0 = .ok (.aload_n 0, 1) := by decide +kernel
theorem dX0_keep_1 : decode cX0_keep 1 = .ok (.getfield 18, 3) := by decide +kernel
theorem dX0_keep_4 : decode cX0_keep 4 = .ok (.bipush 20, 2) := by decide +kernel
theorem dX0_keep_6 : decode cX0_keep 6 = .ok (.if_icmp .lt 7, 3) := by decide +kernel
theorem dX0_keep_9 : decode cX0_keep 9 = .ok (.aload_n 0, 1) := by decide +kernel
theorem dX0_keep_10 : decode cX0_keep 10 = .ok (.invokevirtual 22, 3) := by decide +kernel
theorem dX0_keep_13 : decode cX0_keep 13 = .ok (.aload_n 0, 1) := by decide +kernel
theorem dX0_keep_14 : decode cX0_keep 14 = .ok (.getfield 11, 3) := by decide +kernel
theorem dX0_keep_17 : decode cX0_keep 17 = .ok (.aload_n 0, 1) := by decide +kernel
theorem dX0_keep_18 : decode cX0_keep 18 = .ok (.getfield 18, 3) := by decide +kernel
theorem dX0_keep_21 : decode cX0_keep 21 = .ok (.aaload, 1) := by decide +kernel
theorem dX0_keep_22 : decode cX0_keep 22 = .ok (.aload_n 1, 1) := by decide +kernel
theorem dX0_keep_23 : decode cX0_keep 23 = .ok (.invokevirtual 25, 3) := by decide +kernel
theorem dX0_keep_26 : decode cX0_keep 26 = .ok (.aload_n 0, 1) := by decide +kernel
theorem dX0_keep_27 : decode cX0_keep 27 = .ok (.dup, 1) := by decide +kernel
theorem dX0_keep_28 : decode cX0_keep 28 = .ok (.getfield 18, 3) := by decide +kernel
theorem dX0_keep_31 : decode cX0_keep 31 = .ok (.iconst 1, 1) := by decide +kernel
theorem dX0_keep_32 : decode cX0_keep 32 = .ok (.iadd, 1) := by decide +kernel
theorem dX0_keep_33 : decode cX0_keep 33 = .ok (.putfield 18, 3) := by decide +kernel
theorem dX0_keep_36 : decode cX0_keep 36 = .ok (.return_, 1) := by decide +kernel
theorem dX0_forgetFirst_0 : decode cX0_forgetFirst 0 = .ok (.aload_n 0, 1) := by decide +kernel
theorem dX0_forgetFirst_1 : decode cX0_forgetFirst 1 = .ok (.getfield 11, 3) := by decide +kernel
theorem dX0_forgetFirst_4 : decode cX0_forgetFirst 4 = .ok (.iconst 0, 1) := by decide +kernel
theorem dX0_forgetFirst_5 : decode cX0_forgetFirst 5 = .ok (.aaload, 1) := by decide +kernel
theorem dX0_forgetFirst_6 : decode cX0_forgetFirst 6 = .ok (.astore_n 1, 1) := by decide +kernel
theorem dX0_forgetFirst_7 : decode cX0_forgetFirst 7 = .ok (.iconst 1, 1) := by decide +kernel
theorem dX0_forgetFirst_8 : decode cX0_forgetFirst 8 = .ok (.istore_n 2, 1) := by decide +kernel
theorem dX0_forgetFirst_9 : decode cX0_forgetFirst 9 = .ok (.iload_n 2, 1) := by decide +kernel
theorem dX0_forgetFirst_10 : decode cX0_forgetFirst 10 = .ok (.bipush 20, 2) := by decide +kernel
theorem dX0_forgetFirst_12 : decode cX0_forgetFirst 12 = .ok (.if_icmp .ge 23, 3) := by decide +kernel
theorem dX0_forgetFirst_15 : decode cX0_forgetFirst 15 = .ok (.aload_n 0, 1) := by decide +kernel
theorem dX0_forgetFirst_16 : decode cX0_forgetFirst 16 = .ok (.getfield 11, 3) := by decide +kernel
theorem dX0_forgetFirst_19 : decode cX0_forgetFirst 19 = .ok (.iload_n 2, 1) := by decide +kernel
theorem dX0_forgetFirst_20 : decode cX0_forgetFirst 20 = .ok (.iconst 1, 1) := by decide +kernel
theorem dX0_forgetFirst_21 : decode cX0_forgetFirst 21 = .ok (.isub, 1) := by decide +kernel
theorem dX0_forgetFirst_22 : decode cX0_forgetFirst 22 = .ok (.aload_n 0, 1) := by decide +kernel
theorem dX0_forgetFirst_23 : decode cX0_forgetFirst 23 = .ok (.getfield 11, 3) := by decide +kernel
theorem dX0_forgetFirst_26 : decode cX0_forgetFirst 26 = .ok (.iload_n 2, 1) := by decide +kernel
theorem dX0_forgetFirst_27 : decode cX0_forgetFirst 27 = .ok (.aaload, 1) := by decide +kernel
theorem dX0_forgetFirst_28 : decode cX0_forgetFirst 28 = .ok (.aastore, 1) := by decide +kernel
theorem dX0_forgetFirst_29 : decode cX0_forgetFirst 29 = .ok (.iinc 2 1, 3) := by decide +kernel
theorem dX0_forgetFirst_32 : decode cX0_forgetFirst 32 = .ok (.goto (-23), 3) := by decide +kernel
theorem dX0_forgetFirst_35 : decode cX0_forgetFirst 35 = .ok (.aload_n 0, 1) := by decide +kernel
theorem dX0_forgetFirst_36 : decode cX0_forgetFirst 36 = .ok (.getfield 11, 3) := by decide +kernel
theorem dX0_forgetFirst_39 : decode cX0_forgetFirst 39 = .ok (.bipush 19, 2) := by decide +kernel
theorem dX0_forgetFirst_41 : decode cX0_forgetFirst 41 = .ok (.aload_n 1, 1) := by decide +kernel
theorem dX0_forgetFirst_42 : decode cX0_forgetFirst 42 = .ok (.aastore, 1) := by decide +kernel
theorem dX0_forgetFirst_43 : decode cX0_forgetFirst 43 = .ok (.aload_n 0, 1) := by decide +kernel
theorem dX0_forgetFirst_44 : decode cX0_forgetFirst 44 = .ok (.bipush 19, 2) := by decide +kernel
theorem dX0_forgetFirst_46 : decode cX0_forgetFirst 46 = .ok (.putfield 18, 3) := by decide +kernel
theorem dX0_forgetFirst_49 : decode cX0_forgetFirst 49 = .ok (.return_, 1) := by decide +kernel
theorem dX0_takeBack_0 : decode cX0_takeBack 0 = .ok (.aload_n 0, 1) := by decide +kernel
theorem dX0_takeBack_1 : decode cX0_takeBack 1 = .ok (.getfield 18, 3) := by decide +kernel
theorem dX0_takeBack_4 : decode cX0_takeBack 4 = .ok (.iconst 1, 1) := by decide +kernel
theorem dX0_takeBack_5 : decode cX0_takeBack 5 = .ok (.if_icmp .ge 5, 3) := by decide +kernel
theorem dX0_takeBack_8 : decode cX0_takeBack 8 = .ok (.iconst 0, 1) := by decide +kernel
theorem dX0_takeBack_9 : decode cX0_takeBack 9 = .ok (.ireturn, 1) := by decide +kernel
theorem dX0_takeBack_10 : decode cX0_takeBack 10 = .ok (.aload_n 0, 1) := by decide +kernel
theorem dX0_takeBack_11 : decode cX0_takeBack 11 = .ok (.dup, 1) := by decide +kernel
theorem dX0_takeBack_12 : decode cX0_takeBack 12 = .ok (.getfield 18, 3) := by decide +kernel
theorem dX0_takeBack_15 : decode cX0_takeBack 15 = .ok (.iconst 1, 1) := by decide +kernel
theorem dX0_takeBack_16 : decode cX0_takeBack 16 = .ok (.isub, 1) := by decide +kernel
theorem dX0_takeBack_17 : decode cX0_takeBack 17 = .ok (.putfield 18, 3) := by decide +kernel
theorem dX0_takeBack_20 : decode cX0_takeBack 20 = .ok (.aload_n 1, 1) := by decide +kernel
theorem dX0_takeBack_21 : decode cX0_takeBack 21 = .ok (.aload_n 0, 1) := by decide +kernel
theorem dX0_takeBack_22 : decode cX0_takeBack 22 = .ok (.getfield 11, 3) := by decide +kernel
theorem dX0_takeBack_25 : decode cX0_takeBack 25 = .ok (.aload_n 0, 1) := by decide +kernel
theorem dX0_takeBack_26 : decode cX0_takeBack 26 = .ok (.getfield 18, 3) := by decide +kernel
theorem dX0_takeBack_29 : decode cX0_takeBack 29 = .ok (.aaload, 1) := by decide +kernel
theorem dX0_takeBack_30 : decode cX0_takeBack 30 = .ok (.invokevirtual 25, 3) := by decide +kernel
theorem dX0_takeBack_33 : decode cX0_takeBack 33 = .ok (.iconst 1, 1) := by decide +kernel
theorem dX0_takeBack_34 : decode cX0_takeBack 34 = .ok (.ireturn, 1) := by decide +kernel
theorem dX0_copyFrom_0 : decode cX0_copyFrom 0 = .ok (.aload_n 0, 1) := by decide +kernel
theorem dX0_copyFrom_1 : decode cX0_copyFrom 1 = .ok (.aload_n 1, 1) := by decide +kernel
theorem dX0_copyFrom_2 : decode cX0_copyFrom 2 = .ok (.getfield 18, 3) := by decide +kernel
theorem dX0_copyFrom_5 : decode cX0_copyFrom 5 = .ok (.putfield 18, 3) := by decide +kernel
theorem dX0_copyFrom_8 : decode cX0_copyFrom 8 = .ok (.iconst 0, 1) := by decide +kernel
theorem dX0_copyFrom_9 : decode cX0_copyFrom 9 = .ok (.istore_n 2, 1) := by decide +kernel
theorem dX0_copyFrom_10 : decode cX0_copyFrom 10 = .ok (.iload_n 2, 1) := by decide +kernel
theorem dX0_copyFrom_11 : decode cX0_copyFrom 11 = .ok (.aload_n 0, 1) := by decide +kernel
theorem dX0_copyFrom_12 : decode cX0_copyFrom 12 = .ok (.getfield 18, 3) := by decide +kernel
theorem dX0_copyFrom_15 : decode cX0_copyFrom 15 = .ok (.if_icmp .ge 24, 3) := by decide +kernel
theorem dX0_copyFrom_18 : decode cX0_copyFrom 18 = .ok (.aload_n 0, 1) := by decide +kernel
theorem dX0_copyFrom_19 : decode cX0_copyFrom 19 = .ok (.getfield 11, 3) := by decide +kernel
theorem dX0_copyFrom_22 : decode cX0_copyFrom 22 = .ok (.iload_n 2, 1) := by decide +kernel
theorem dX0_copyFrom_23 : decode cX0_copyFrom 23 = .ok (.aaload, 1) := by decide +kernel
theorem dX0_copyFrom_24 : decode cX0_copyFrom 24 = .ok (.aload_n 1, 1) := by decide +kernel
theorem dX0_copyFrom_25 : decode cX0_copyFrom 25 = .ok (.getfield 11, 3) := by decide +kernel
theorem dX0_copyFrom_28 : decode cX0_copyFrom 28 = .ok (.iload_n 2, 1) := by decide +kernel
theorem dX0_copyFrom_29 : decode cX0_copyFrom 29 = .ok (.aaload, 1) := by decide +kernel
theorem dX0_copyFrom_30 : decode cX0_copyFrom 30 = .ok (.invokevirtual 25, 3) := by decide +kernel
theorem dX0_copyFrom_33 : decode cX0_copyFrom 33 = .ok (.iinc 2 1, 3) := by decide +kernel
theorem dX0_copyFrom_36 : decode cX0_copyFrom 36 = .ok (.goto (-26), 3) := by decide +kernel
theorem dX0_copyFrom_39 : decode cX0_copyFrom 39 = .ok (.return_, 1) := by decide +kernel
theorem dX1_init_0 : decode cX1_init 0 = .ok (.aload_n 0, 1) := by decide +kernel
theorem dX1_init_1 : decode cX1_init 1 = .ok (.invokespecial 3, 3) := by decide +kernel
theorem dX1_init_4 : decode cX1_init 4 = .ok (.aload_n 0, 1) := by decide +kernel
theorem dX1_init_5 : decode cX1_init 5 = .ok (.new 9, 3) := by decide +kernel
theorem dX1_init_8 : decode cX1_init 8 = .ok (.dup, 1) := by decide +kernel
theorem dX1_init_9 : decode cX1_init 9 = .ok (.invokespecial 11, 3) := by decide +kernel
theorem dX1_init_12 : decode cX1_init 12 = .ok (.putfield 12, 3) := by decide +kernel
theorem dX1_init_15 : decode cX1_init 15 = .ok (.aload_n 0, 1) := by decide +kernel
theorem dX1_init_16 : decode cX1_init 16 = .ok (.new 18, 3) := by decide +kernel
theorem dX1_init_19 : decode cX1_init 19 = .ok (.dup, 1) := by decide +kernel
theorem dX1_init_20 : decode cX1_init 20 = .ok (.invokespecial 20, 3) := by decide +kernel
theorem dX1_init_23 : decode cX1_init 23 = .ok (.putfield 21, 3) := by decide +kernel
theorem dX1_init_26 : decode cX1_init 26 = .ok (.aload_n 0, 1) := by decide +kernel
theorem dX1_init_27 : decode cX1_init 27 = .ok (.iconst 5, 1) := by decide +kernel
theorem dX1_init_28 : decode cX1_init 28 = .ok (.anewarray 18, 3) := by decide +kernel
theorem dX1_init_31 : decode cX1_init 31 = .ok (.putfield 25, 3) := by decide +kernel
theorem dX1_init_34 : decode cX1_init 34 = .ok (.aload_n 0, 1) := by decide +kernel
theorem dX1_init_35 : decode cX1_init 35 = .ok (.iconst 4, 1) := by decide +kernel
theorem dX1_init_36 : decode cX1_init 36 = .ok (.newarray .int, 2) := by decide +kernel
theorem dX1_init_38 : decode cX1_init 38 = .ok (.putfield 29, 3) := by decide +kernel
theorem dX1_init_41 : decode cX1_init 41 = .ok (.aload_n 0, 1) := by decide +kernel
theorem dX1_init_42 : decode cX1_init 42 = .ok (.iconst 4, 1) := by decide +kernel
theorem dX1_init_43 : decode cX1_init 43 = .ok (.newarray .int, 2) := by decide +kernel
theorem dX1_init_45 : decode cX1_init 45 = .ok (.putfield 33, 3) := by decide +kernel
theorem dX1_init_48 : decode cX1_init 48 = .ok (.aload_n 0, 1) := by decide +kernel
theorem dX1_init_49 : decode cX1_init 49 = .ok (.bipush 7, 2) := by decide +kernel
theorem dX1_init_51 : decode cX1_init 51 = .ok (.newarray .boolean, 2) := by decide +kernel
theorem dX1_init_53 : decode cX1_init 53 = .ok (.putfield 36, 3) := by decide +kernel
theorem dX1_init_56 : decode cX1_init 56 = .ok (.aload_n 0, 1) := by decide +kernel
theorem dX1_init_57 : decode cX1_init 57 = .ok (.bipush 7, 2) := by decide +kernel
theorem dX1_init_59 : decode cX1_init 59 = .ok (.iconst 5, 1) := by decide +kernel
theorem dX1_init_60 : decode cX1_init 60 = .ok (.multianewarray 40 2, 4) := by decide +kernel
theorem dX1_init_64 : decode cX1_init 64 = .ok (.putfield 42, 3) := by decide +kernel
theorem dX1_init_67 : decode cX1_init 67 = .ok (.aload_n 0, 1) := by decide +kernel
theorem dX1_init_68 : decode cX1_init 68 = .ok (.bipush 32, 2) := by decide +kernel
theorem dX1_init_70 : decode cX1_init 70 = .ok (.newarray .int, 2) := by decide +kernel
theorem dX1_init_72 : decode cX1_init 72 = .ok (.putfield 45, 3) := by decide +kernel
theorem dX1_init_75 : decode cX1_init 75 = .ok (.aload_n 0, 1) := by decide +kernel
theorem dX1_init_76 : decode cX1_init 76 = .ok (.aload_n 1, 1) := by decide +kernel
theorem dX1_init_77 : decode cX1_init 77 = .ok (.putfield 48, 3) := by decide +kernel
theorem dX1_init_80 : decode cX1_init 80 = .ok (.aload_n 0, 1) := by decide +kernel
theorem dX1_init_81 : decode cX1_init 81 = .ok (.aload_n 2, 1) := by decide +kernel
theorem dX1_init_82 : decode cX1_init 82 = .ok (.putfield 52, 3) := by decide +kernel
theorem dX1_init_85 : decode cX1_init 85 = .ok (.iconst 0, 1) := by decide +kernel
theorem dX1_init_86 : decode cX1_init 86 = .ok (.istore_n 3, 1) := by decide +kernel
theorem dX1_init_87 : decode cX1_init 87 = .ok (.iload_n 3, 1) := by decide +kernel
theorem dX1_init_88 : decode cX1_init 88 = .ok (.iconst 4, 1) := by decide +kernel
theorem dX1_init_89 : decode cX1_init 89 = .ok (.if_icmp .gt 22, 3) := by decide +kernel
theorem dX1_init_92 : decode cX1_init 92 = .ok (.aload_n 0, 1) := by decide +kernel
theorem dX1_init_93 : decode cX1_init 93 = .ok (.getfield 25, 3) := by decide +kernel
theorem dX1_init_96 : decode cX1_init 96 = .ok (.iload_n 3, 1) := by decide +kernel
theorem dX1_init_97 : decode cX1_init 97 = .ok (.new 18, 3) := by decide +kernel
theorem dX1_init_100 : decode cX1_init 100 = .ok (.dup, 1) := by decide +kernel
theorem dX1_init_101 : decode cX1_init 101 = .ok (.invokespecial 20, 3) := by decide +kernel
theorem dX1_init_104 : decode cX1_init 104 = .ok (.aastore, 1) := by decide +kernel
theorem dX1_init_105 : decode cX1_init 105 = .ok (.iinc 3 1, 3) := by decide +kernel
theorem dX1_init_108 : decode cX1_init 108 = .ok (.goto (-21), 3) := by decide +kernel
theorem dX1_init_111 : decode cX1_init 111 = .ok (.return_, 1) := by decide +kernel
theorem dX1_startOn_0 : decode cX1_startOn 0 = .ok (.aload_n 1, 1) := by decide +kernel
theorem dX1_startOn_1 : decode cX1_startOn 1 = .ok (.aload_n 0, 1) := by decide +kernel
theorem dX1_startOn_2 : decode cX1_startOn 2 = .ok (.getfield 48, 3) := by decide +kernel
theorem dX1_startOn_5 : decode cX1_startOn 5 = .ok (.getfield 56, 3) := by decide +kernel
theorem dX1_startOn_8 : decode cX1_startOn 8 = .ok (.invokevirtual 61, 3) := by decide +kernel
theorem dX1_startOn_11 : decode cX1_startOn 11 = .ok (.aload_n 0, 1) := by decide +kernel
theorem dX1_startOn_12 : decode cX1_startOn 12 = .ok (.getfield 12, 3) := by decide +kernel
theorem dX1_startOn_15 : decode cX1_startOn 15 = .ok (.aload_n 0, 1) := by decide +kernel
theorem dX1_startOn_16 : decode cX1_startOn 16 = .ok (.getfield 48, 3) := by decide +kernel
theorem dX1_startOn_19 : decode cX1_startOn 19 = .ok (.getfield 65, 3) := by decide +kernel
theorem dX1_startOn_22 : decode cX1_startOn 22 = .ok (.aload_n 0, 1) := by decide +kernel
theorem dX1_startOn_23 : decode cX1_startOn 23 = .ok (.getfield 52, 3) := by decide +kernel
theorem dX1_startOn_26 : decode cX1_startOn 26 = .ok (.aload_n 0, 1) := by decide +kernel
theorem dX1_startOn_27 : decode cX1_startOn 27 = .ok (.getfield 48, 3) := by decide +kernel
theorem dX1_startOn_30 : decode cX1_startOn 30 = .ok (.getfield 69, 3) := by decide +kernel
theorem dX1_startOn_33 : decode cX1_startOn 33 = .ok (.invokestatic 73, 3) := by decide +kernel
theorem dX1_startOn_36 : decode cX1_startOn 36 = .ok (.invokevirtual 77, 3) := by decide +kernel
theorem dX1_startOn_39 : decode cX1_startOn 39 = .ok (.return_, 1) := by decide +kernel
theorem dX1_after_0 : decode cX1_after 0 = .ok (.aload_n 0, 1) := by decide +kernel
theorem dX1_after_1 : decode cX1_after 1 = .ok (.aload_n 0, 1) := by decide +kernel
theorem dX1_after_2 : decode cX1_after 2 = .ok (.getfield 21, 3) := by decide +kernel
theorem dX1_after_5 : decode cX1_after 5 = .ok (.invokevirtual 81, 3) := by decide +kernel
theorem dX1_after_8 : decode cX1_after 8 = .ok (.iconst 0, 1) := by decide +kernel
theorem dX1_after_9 : decode cX1_after 9 = .ok (.istore_n 2, 1) := by decide +kernel
theorem dX1_after_10 : decode cX1_after 10 = .ok (.iload_n 2, 1) := by decide +kernel
theorem dX1_after_11 : decode cX1_after 11 = .ok (.iload_n 1, 1) := by decide +kernel
theorem dX1_after_12 : decode cX1_after 12 = .ok (.if_icmp .ge 21, 3) := by decide +kernel
theorem dX1_after_15 : decode cX1_after 15 = .ok (.aload_n 0, 1) := by decide +kernel
theorem dX1_after_16 : decode cX1_after 16 = .ok (.getfield 12, 3) := by decide +kernel
theorem dX1_after_19 : decode cX1_after 19 = .ok (.aload_n 0, 1) := by decide +kernel
theorem dX1_after_20 : decode cX1_after 20 = .ok (.getfield 21, 3) := by decide +kernel
theorem dX1_after_23 : decode cX1_after 23 = .ok (.invokevirtual 84, 3) := by decide +kernel
theorem dX1_after_26 : decode cX1_after 26 = .ok (.pop, 1) := by decide +kernel
theorem dX1_after_27 : decode cX1_after 27 = .ok (.iinc 2 1, 3) := by decide +kernel
theorem dX1_after_30 : decode cX1_after 30 = .ok (.goto (-20), 3) := by decide +kernel
theorem dX1_after_33 : decode cX1_after 33 = .ok (.aload_n 0, 1) := by decide +kernel
theorem dX1_after_34 : decode cX1_after 34 = .ok (.getfield 21, 3) := by decide +kernel
theorem dX1_after_37 : decode cX1_after 37 = .ok (.areturn, 1) := by decide +kernel
theorem dX1_firstBare_0 : decode cX1_firstBare 0 = .ok (.aload_n 0, 1) := by decide +kernel
theorem dX1_firstBare_1 : decode cX1_firstBare 1 = .ok (.aload_n 0, 1) := by decide +kernel
theorem dX1_firstBare_2 : decode cX1_firstBare 2 = .ok (.getfield 21, 3) := by decide +kernel
theorem dX1_firstBare_5 : decode cX1_firstBare 5 = .ok (.invokevirtual 81, 3) := by decide +kernel
theorem dX1_firstBare_8 : decode cX1_firstBare 8 = .ok (.iconst 0, 1) := by decide +kernel
theorem dX1_firstBare_9 : decode cX1_firstBare 9 = .ok (.istore_n 2, 1) := by decide +kernel
theorem dX1_firstBare_10 : decode cX1_firstBare 10 = .ok (.iload_n 2, 1) := by decide +kernel
theorem dX1_firstBare_11 : decode cX1_firstBare 11 = .ok (.bipush 100, 2) := by decide +kernel
theorem dX1_firstBare_13 : decode cX1_firstBare 13 = .ok (.if_icmp .ge 41, 3) := by decide +kernel
theorem dX1_firstBare_16 : decode cX1_firstBare 16 = .ok (.aload_n 0, 1) := by decide +kernel
theorem dX1_firstBare_17 : decode cX1_firstBare 17 = .ok (.getfield 21, 3) := by decide +kernel
theorem dX1_firstBare_20 : decode cX1_firstBare 20 = .ok (.getfield 88, 3) := by decide +kernel
theorem dX1_firstBare_23 : decode cX1_firstBare 23 = .ok (.iload_n 1, 1) := by decide +kernel
theorem dX1_firstBare_24 : decode cX1_firstBare 24 = .ok (.iaload, 1) := by decide +kernel
theorem dX1_firstBare_25 : decode cX1_firstBare 25 = .ok (.ifCond .ne 11, 3) := by decide +kernel
theorem dX1_firstBare_28 : decode cX1_firstBare 28 = .ok (.aload_n 0, 1) := by decide +kernel
theorem dX1_firstBare_29 : decode cX1_firstBare 29 = .ok (.getfield 21, 3) := by decide +kernel
theorem dX1_firstBare_32 : decode cX1_firstBare 32 = .ok (.getfield 91, 3) := by decide +kernel
theorem dX1_firstBare_35 : decode cX1_firstBare 35 = .ok (.ireturn, 1) := by decide +kernel
theorem dX1_firstBare_36 : decode cX1_firstBare 36 = .ok (.aload_n 0, 1) := by decide +kernel
theorem dX1_firstBare_37 : decode cX1_firstBare 37 = .ok (.getfield 12, 3) := by decide +kernel
theorem dX1_firstBare_40 : decode cX1_firstBare 40 = .ok (.aload_n 0, 1) := by decide +kernel
theorem dX1_firstBare_41 : decode cX1_firstBare 41 = .ok (.getfield 21, 3) := by decide +kernel
theorem dX1_firstBare_44 : decode cX1_firstBare 44 = .ok (.invokevirtual 84, 3) := by decide +kernel
theorem dX1_firstBare_47 : decode cX1_firstBare 47 = .ok (.pop, 1) := by decide +kernel
theorem dX1_firstBare_48 : decode cX1_firstBare 48 = .ok (.iinc 2 1, 3) := by decide +kernel
theorem dX1_firstBare_51 : decode cX1_firstBare 51 = .ok (.goto (-41), 3) := by decide +kernel
theorem dX1_firstBare_54 : decode cX1_firstBare 54 = .ok (.bipush (-2), 2) := by decide +kernel
theorem dX1_firstBare_56 : decode cX1_firstBare 56 = .ok (.ireturn, 1) := by decide +kernel
theorem dX1_findRow_0 : decode cX1_findRow 0 = .ok (.aload_n 0, 1) := by decide +kernel
theorem dX1_findRow_1 : decode cX1_findRow 1 = .ok (.aload_n 0, 1) := by decide +kernel
theorem dX1_findRow_2 : decode cX1_findRow 2 = .ok (.getfield 25, 3) := by decide +kernel
theorem dX1_findRow_5 : decode cX1_findRow 5 = .ok (.iconst 0, 1) := by decide +kernel
theorem dX1_findRow_6 : decode cX1_findRow 6 = .ok (.aaload, 1) := by decide +kernel
theorem dX1_findRow_7 : decode cX1_findRow 7 = .ok (.invokevirtual 81, 3) := by decide +kernel
theorem dX1_findRow_10 : decode cX1_findRow 10 = .ok (.aload_n 0, 1) := by decide +kernel
theorem dX1_findRow_11 : decode cX1_findRow 11 = .ok (.getfield 12, 3) := by decide +kernel
theorem dX1_findRow_14 : decode cX1_findRow 14 = .ok (.iload_n 1, 1) := by decide +kernel
theorem dX1_findRow_15 : decode cX1_findRow 15 = .ok (.putfield 94, 3) := by decide +kernel
theorem dX1_findRow_18 : decode cX1_findRow 18 = .ok (.aload_n 0, 1) := by decide +kernel
theorem dX1_findRow_19 : decode cX1_findRow 19 = .ok (.iconst (-1), 1) := by decide +kernel
theorem dX1_findRow_20 : decode cX1_findRow 20 = .ok (.putfield 97, 3) := by decide +kernel
theorem dX1_findRow_23 : decode cX1_findRow 23 = .ok (.aload_n 0, 1) := by decide +kernel
theorem dX1_findRow_24 : decode cX1_findRow 24 = .ok (.iconst 0, 1) := by decide +kernel
theorem dX1_findRow_25 : decode cX1_findRow 25 = .ok (.iload_n 2, 1) := by decide +kernel
theorem dX1_findRow_26 : decode cX1_findRow 26 = .ok (.iload_n 1, 1) := by decide +kernel
theorem dX1_findRow_27 : decode cX1_findRow 27 = .ok (.invokevirtual 100, 3) := by decide +kernel
theorem dX1_findRow_30 : decode cX1_findRow 30 = .ok (.return_, 1) := by decide +kernel
theorem dX1_tryRows_0 : decode cX1_tryRows 0 = .ok (.iload_n 1, 1) := by decide +kernel
theorem dX1_tryRows_1 : decode cX1_tryRows 1 = .ok (.iload_n 2, 1) := by decide +kernel
theorem dX1_tryRows_2 : decode cX1_tryRows 2 = .ok (.if_icmp .ge 8, 3) := by decide +kernel
theorem dX1_tryRows_5 : decode cX1_tryRows 5 = .ok (.iload_n 1, 1) := by decide +kernel
theorem dX1_tryRows_6 : decode cX1_tryRows 6 = .ok (.iconst 4, 1) := by decide +kernel
theorem dX1_tryRows_7 : decode cX1_tryRows 7 = .ok (.if_icmp .lt 48, 3) := by decide +kernel
theorem dX1_tryRows_10 : decode cX1_tryRows 10 = .ok (.aload_n 0, 1) := by decide +kernel
theorem dX1_tryRows_11 : decode cX1_tryRows 11 = .ok (.getfield 25, 3) := by decide +kernel
theorem dX1_tryRows_14 : decode cX1_tryRows 14 = .ok (.iload_n 1, 1) := by decide +kernel
theorem dX1_tryRows_15 : decode cX1_tryRows 15 = .ok (.aaload, 1) := by decide +kernel
theorem dX1_tryRows_16 : decode cX1_tryRows 16 = .ok (.getfield 104, 3) := by decide +kernel
theorem dX1_tryRows_19 : decode cX1_tryRows 19 = .ok (.iload_n 3, 1) := by decide +kernel
theorem dX1_tryRows_20 : decode cX1_tryRows 20 = .ok (.iaload, 1) := by decide +kernel
theorem dX1_tryRows_21 : decode cX1_tryRows 21 = .ok (.aload_n 0, 1) := by decide +kernel
theorem dX1_tryRows_22 : decode cX1_tryRows 22 = .ok (.getfield 97, 3) := by decide +kernel
theorem dX1_tryRows_25 : decode cX1_tryRows 25 = .ok (.if_icmp .le 29, 3) := by decide +kernel
theorem dX1_tryRows_28 : decode cX1_tryRows 28 = .ok (.aload_n 0, 1) := by decide +kernel
theorem dX1_tryRows_29 : decode cX1_tryRows 29 = .ok (.aload_n 0, 1) := by decide +kernel
theorem dX1_tryRows_30 : decode cX1_tryRows 30 = .ok (.getfield 25, 3) := by decide +kernel
theorem dX1_tryRows_33 : decode cX1_tryRows 33 = .ok (.iload_n 1, 1) := by decide +kernel
theorem dX1_tryRows_34 : decode cX1_tryRows 34 = .ok (.aaload, 1) := by decide +kernel
theorem dX1_tryRows_35 : decode cX1_tryRows 35 = .ok (.getfield 104, 3) := by decide +kernel
theorem dX1_tryRows_38 : decode cX1_tryRows 38 = .ok (.iload_n 3, 1) := by decide +kernel
theorem dX1_tryRows_39 : decode cX1_tryRows 39 = .ok (.iaload, 1) := by decide +kernel
theorem dX1_tryRows_40 : decode cX1_tryRows 40 = .ok (.putfield 97, 3) := by decide +kernel
theorem dX1_tryRows_43 : decode cX1_tryRows 43 = .ok (.aload_n 0, 1) := by decide +kernel
theorem dX1_tryRows_44 : decode cX1_tryRows 44 = .ok (.getfield 29, 3) := by decide +kernel
theorem dX1_tryRows_47 : decode cX1_tryRows 47 = .ok (.aload_n 0, 1) := by decide +kernel
theorem dX1_tryRows_48 : decode cX1_tryRows 48 = .ok (.getfield 33, 3) := by decide +kernel
theorem dX1_tryRows_51 : decode cX1_tryRows 51 = .ok (.invokestatic 107, 3) := by decide +kernel
theorem dX1_tryRows_54 : decode cX1_tryRows 54 = .ok (.return_, 1) := by decide +kernel
theorem dX1_tryRows_55 : decode cX1_tryRows 55 = .ok (.aload_n 0, 1) := by decide +kernel
theorem dX1_tryRows_56 : decode cX1_tryRows 56 = .ok (.getfield 25, 3) := by decide +kernel
theorem dX1_tryRows_59 : decode cX1_tryRows 59 = .ok (.iload_n 1, 1) := by decide +kernel
theorem dX1_tryRows_60 : decode cX1_tryRows 60 = .ok (.iconst 1, 1) := by decide +kernel
theorem dX1_tryRows_61 : decode cX1_tryRows 61 = .ok (.iadd, 1) := by decide +kernel
theorem dX1_tryRows_62 : decode cX1_tryRows 62 = .ok (.aaload, 1) := by decide +kernel
theorem dX1_tryRows_63 : decode cX1_tryRows 63 = .ok (.astore 4, 2) := by decide +kernel
theorem dX1_tryRows_65 : decode cX1_tryRows 65 = .ok (.iconst (-1), 1) := by decide +kernel
theorem dX1_tryRows_66 : decode cX1_tryRows 66 = .ok (.istore 5, 2) := by decide +kernel
theorem dX1_tryRows_68 : decode cX1_tryRows 68 = .ok (.iload 5, 2) := by decide +kernel
theorem dX1_tryRows_70 : decode cX1_tryRows 70 = .ok (.aload_n 0, 1) := by decide +kernel
theorem dX1_tryRows_71 : decode cX1_tryRows 71 = .ok (.getfield 48, 3) := by decide +kernel
theorem dX1_tryRows_74 : decode cX1_tryRows 74 = .ok (.getfield 65, 3) := by decide +kernel
theorem dX1_tryRows_77 : decode cX1_tryRows 77 = .ok (.getfield 111, 3) := by decide +kernel
theorem dX1_tryRows_80 : decode cX1_tryRows 80 = .ok (.if_icmp .ge 83, 3) := by decide +kernel
theorem dX1_tryRows_83 : decode cX1_tryRows 83 = .ok (.iload 5, 2) := by decide +kernel
theorem dX1_tryRows_85 : decode cX1_tryRows 85 = .ok (.iload_n 3, 1) := by decide +kernel
theorem dX1_tryRows_86 : decode cX1_tryRows 86 = .ok (.if_icmp .ne 6, 3) := by decide +kernel
theorem dX1_tryRows_89 : decode cX1_tryRows 89 = .ok (.goto 68, 3) := by decide +kernel
theorem dX1_tryRows_92 : decode cX1_tryRows 92 = .ok (.aload 4, 2) := by decide +kernel
theorem dX1_tryRows_94 : decode cX1_tryRows 94 = .ok (.aload_n 0, 1) := by decide +kernel
theorem dX1_tryRows_95 : decode cX1_tryRows 95 = .ok (.getfield 25, 3) := by decide +kernel
theorem dX1_tryRows_98 : decode cX1_tryRows 98 = .ok (.iload_n 1, 1) := by decide +kernel
theorem dX1_tryRows_99 : decode cX1_tryRows 99 = .ok (.aaload, 1) := by decide +kernel
theorem dX1_tryRows_100 : decode cX1_tryRows 100 = .ok (.invokevirtual 61, 3) := by decide +kernel
theorem dX1_tryRows_103 : decode cX1_tryRows 103 = .ok (.aload_n 0, 1) := by decide +kernel
theorem dX1_tryRows_104 : decode cX1_tryRows 104 = .ok (.getfield 12, 3) := by decide +kernel
theorem dX1_tryRows_107 : decode cX1_tryRows 107 = .ok (.iload 5, 2) := by decide +kernel
theorem dX1_tryRows_109 : decode cX1_tryRows 109 = .ok (.putfield 116, 3) := by decide +kernel
theorem dX1_tryRows_112 : decode cX1_tryRows 112 = .ok (.aload_n 0, 1) := by decide +kernel
theorem dX1_tryRows_113 : decode cX1_tryRows 113 = .ok (.getfield 12, 3) := by decide +kernel
theorem dX1_tryRows_116 : decode cX1_tryRows 116 = .ok (.iconst 0, 1) := by decide +kernel
theorem dX1_tryRows_117 : decode cX1_tryRows 117 = .ok (.putfield 119, 3) := by decide +kernel
theorem dX1_tryRows_120 : decode cX1_tryRows 120 = .ok (.aload_n 0, 1) := by decide +kernel
theorem dX1_tryRows_121 : decode cX1_tryRows 121 = .ok (.getfield 12, 3) := by decide +kernel
theorem dX1_tryRows_124 : decode cX1_tryRows 124 = .ok (.aload 4, 2) := by decide +kernel
theorem dX1_tryRows_126 : decode cX1_tryRows 126 = .ok (.invokevirtual 84, 3) := by decide +kernel
theorem dX1_tryRows_129 : decode cX1_tryRows 129 = .ok (.pop, 1) := by decide +kernel
theorem dX1_tryRows_130 : decode cX1_tryRows 130 = .ok (.aload_n 0, 1) := by decide +kernel
theorem dX1_tryRows_131 : decode cX1_tryRows 131 = .ok (.getfield 12, 3) := by decide +kernel
theorem dX1_tryRows_134 : decode cX1_tryRows 134 = .ok (.getfield 119, 3) := by decide +kernel
theorem dX1_tryRows_137 : decode cX1_tryRows 137 = .ok (.ifCond .ne 20, 3) := by decide +kernel
theorem dX1_tryRows_140 : decode cX1_tryRows 140 = .ok (.aload_n 0, 1) := by decide +kernel
theorem dX1_tryRows_141 : decode cX1_tryRows 141 = .ok (.getfield 29, 3) := by decide +kernel
theorem dX1_tryRows_144 : decode cX1_tryRows 144 = .ok (.iload_n 1, 1) := by decide +kernel
theorem dX1_tryRows_145 : decode cX1_tryRows 145 = .ok (.iload 5, 2) := by decide +kernel
theorem dX1_tryRows_147 : decode cX1_tryRows 147 = .ok (.iastore, 1) := by decide +kernel
theorem dX1_tryRows_148 : decode cX1_tryRows 148 = .ok (.aload_n 0, 1) := by decide +kernel
theorem dX1_tryRows_149 : decode cX1_tryRows 149 = .ok (.iload_n 1, 1) := by decide +kernel
theorem dX1_tryRows_150 : decode cX1_tryRows 150 = .ok (.iconst 1, 1) := by decide +kernel
theorem dX1_tryRows_151 : decode cX1_tryRows 151 = .ok (.iadd, 1) := by decide +kernel
theorem dX1_tryRows_152 : decode cX1_tryRows 152 = .ok (.iload_n 2, 1) := by decide +kernel
theorem dX1_tryRows_153 : decode cX1_tryRows 153 = .ok (.iload_n 3, 1) := by decide +kernel
theorem dX1_tryRows_154 : decode cX1_tryRows 154 = .ok (.invokevirtual 100, 3) := by decide +kernel
theorem dX1_tryRows_157 : decode cX1_tryRows 157 = .ok (.iinc 5 1, 3) := by decide +kernel
theorem dX1_tryRows_160 : decode cX1_tryRows 160 = .ok (.goto (-92), 3) := by decide +kernel
theorem dX1_tryRows_163 : decode cX1_tryRows 163 = .ok (.return_, 1) := by decide +kernel
theorem dX1_findRate_0 : decode cX1_findRate 0 = .ok (.aload_n 0, 1) := by decide +kernel
theorem dX1_findRate_1 : decode cX1_findRate 1 = .ok (.iconst (-1), 1) := by decide +kernel
theorem dX1_findRate_2 : decode cX1_findRate 2 = .ok (.putfield 97, 3) := by decide +kernel
theorem dX1_findRate_5 : decode cX1_findRate 5 = .ok (.iconst 1, 1) := by decide +kernel
theorem dX1_findRate_6 : decode cX1_findRate 6 = .ok (.istore_n 2, 1) := by decide +kernel
theorem dX1_findRate_7 : decode cX1_findRate 7 = .ok (.iload_n 2, 1) := by decide +kernel
theorem dX1_findRate_8 : decode cX1_findRate 8 = .ok (.bipush 9, 2) := by decide +kernel
theorem dX1_findRate_10 : decode cX1_findRate 10 = .ok (.if_icmp .gt 42, 3) := by decide +kernel
theorem dX1_findRate_13 : decode cX1_findRate 13 = .ok (.aload_n 0, 1) := by decide +kernel
theorem dX1_findRate_14 : decode cX1_findRate 14 = .ok (.aload_n 0, 1) := by decide +kernel
theorem dX1_findRate_15 : decode cX1_findRate 15 = .ok (.getfield 21, 3) := by decide +kernel
theorem dX1_findRate_18 : decode cX1_findRate 18 = .ok (.invokevirtual 81, 3) := by decide +kernel
theorem dX1_findRate_21 : decode cX1_findRate 21 = .ok (.aload_n 0, 1) := by decide +kernel
theorem dX1_findRate_22 : decode cX1_findRate 22 = .ok (.getfield 21, 3) := by decide +kernel
theorem dX1_findRate_25 : decode cX1_findRate 25 = .ok (.iload_n 2, 1) := by decide +kernel
theorem dX1_findRate_26 : decode cX1_findRate 26 = .ok (.putfield 123, 3) := by decide +kernel
theorem dX1_findRate_29 : decode cX1_findRate 29 = .ok (.aload_n 0, 1) := by decide +kernel
theorem dX1_findRate_30 : decode cX1_findRate 30 = .ok (.getfield 12, 3) := by decide +kernel
theorem dX1_findRate_33 : decode cX1_findRate 33 = .ok (.aload_n 0, 1) := by decide +kernel
theorem dX1_findRate_34 : decode cX1_findRate 34 = .ok (.getfield 21, 3) := by decide +kernel
theorem dX1_findRate_37 : decode cX1_findRate 37 = .ok (.iload_n 1, 1) := by decide +kernel
theorem dX1_findRate_38 : decode cX1_findRate 38 = .ok (.invokevirtual 126, 3) := by decide +kernel
theorem dX1_findRate_41 : decode cX1_findRate 41 = .ok (.aload_n 0, 1) := by decide +kernel
theorem dX1_findRate_42 : decode cX1_findRate 42 = .ok (.iload_n 2, 1) := by decide +kernel
theorem dX1_findRate_43 : decode cX1_findRate 43 = .ok (.invokevirtual 130, 3) := by decide +kernel
theorem dX1_findRate_46 : decode cX1_findRate 46 = .ok (.iinc 2 1, 3) := by decide +kernel
theorem dX1_findRate_49 : decode cX1_findRate 49 = .ok (.goto (-42), 3) := by decide +kernel
theorem dX1_findRate_52 : decode cX1_findRate 52 = .ok (.return_, 1) := by decide +kernel
theorem dX1_keepIfFuller_0 : decode cX1_keepIfFuller 0 = .ok (.aload_n 0, 1) := by decide +kernel
theorem dX1_keepIfFuller_1 : decode cX1_keepIfFuller 1 = .ok (.getfield 21, 3) := by decide +kernel
theorem dX1_keepIfFuller_4 : decode cX1_keepIfFuller 4 = .ok (.getfield 104, 3) := by decide +kernel
theorem dX1_keepIfFuller_7 : decode cX1_keepIfFuller 7 = .ok (.invokestatic 134, 3) := by decide +kernel
theorem dX1_keepIfFuller_10 : decode cX1_keepIfFuller 10 = .ok (.istore_n 2, 1) := by decide +kernel
theorem dX1_keepIfFuller_11 : decode cX1_keepIfFuller 11 = .ok (.iload_n 2, 1) := by decide +kernel
theorem dX1_keepIfFuller_12 : decode cX1_keepIfFuller 12 = .ok (.aload_n 0, 1) := by decide +kernel
theorem dX1_keepIfFuller_13 : decode cX1_keepIfFuller 13 = .ok (.getfield 97, 3) := by decide +kernel
theorem dX1_keepIfFuller_16 : decode cX1_keepIfFuller 16 = .ok (.if_icmp .le 13, 3) := by decide +kernel
theorem dX1_keepIfFuller_19 : decode cX1_keepIfFuller 19 = .ok (.aload_n 0, 1) := by decide +kernel
theorem dX1_keepIfFuller_20 : decode cX1_keepIfFuller 20 = .ok (.iload_n 2, 1) := by decide +kernel
theorem dX1_keepIfFuller_21 : decode cX1_keepIfFuller 21 = .ok (.putfield 97, 3) := by decide +kernel
theorem dX1_keepIfFuller_24 : decode cX1_keepIfFuller 24 = .ok (.aload_n 0, 1) := by decide +kernel
theorem dX1_keepIfFuller_25 : decode cX1_keepIfFuller 25 = .ok (.iload_n 1, 1) := by decide +kernel
theorem dX1_keepIfFuller_26 : decode cX1_keepIfFuller 26 = .ok (.putfield 138, 3) := by decide +kernel
theorem dX1_keepIfFuller_29 : decode cX1_keepIfFuller 29 = .ok (.return_, 1) := by decide +kernel
theorem dX1_firstQuiet_0 : decode cX1_firstQuiet 0 = .ok (.aload_n 0, 1) := by decide +kernel
theorem dX1_firstQuiet_1 : decode cX1_firstQuiet 1 = .ok (.aload_n 0, 1) := by decide +kernel
theorem dX1_firstQuiet_2 : decode cX1_firstQuiet 2 = .ok (.getfield 21, 3) := by decide +kernel
theorem dX1_firstQuiet_5 : decode cX1_firstQuiet 5 = .ok (.invokevirtual 81, 3) := by decide +kernel
theorem dX1_firstQuiet_8 : decode cX1_firstQuiet 8 = .ok (.iconst 0, 1) := by decide +kernel
theorem dX1_firstQuiet_9 : decode cX1_firstQuiet 9 = .ok (.istore_n 1, 1) := by decide +kernel
theorem dX1_firstQuiet_10 : decode cX1_firstQuiet 10 = .ok (.iconst 0, 1) := by decide +kernel
theorem dX1_firstQuiet_11 : decode cX1_firstQuiet 11 = .ok (.istore_n 2, 1) := by decide +kernel
theorem dX1_firstQuiet_12 : decode cX1_firstQuiet 12 = .ok (.iload_n 2, 1) := by decide +kernel
theorem dX1_firstQuiet_13 : decode cX1_firstQuiet 13 = .ok (.bipush 64, 2) := by decide +kernel
theorem dX1_firstQuiet_15 : decode cX1_firstQuiet 15 = .ok (.if_icmp .ge 46, 3) := by decide +kernel
theorem dX1_firstQuiet_18 : decode cX1_firstQuiet 18 = .ok (.aload_n 0, 1) := by decide +kernel
theorem dX1_firstQuiet_19 : decode cX1_firstQuiet 19 = .ok (.getfield 12, 3) := by decide +kernel
theorem dX1_firstQuiet_22 : decode cX1_firstQuiet 22 = .ok (.aload_n 0, 1) := by decide +kernel
theorem dX1_firstQuiet_23 : decode cX1_firstQuiet 23 = .ok (.getfield 21, 3) := by decide +kernel
theorem dX1_firstQuiet_26 : decode cX1_firstQuiet 26 = .ok (.invokevirtual 84, 3) := by decide +kernel
theorem dX1_firstQuiet_29 : decode cX1_firstQuiet 29 = .ok (.ifCond .ne 9, 3) := by decide +kernel
theorem dX1_firstQuiet_32 : decode cX1_firstQuiet 32 = .ok (.iload_n 1, 1) := by decide +kernel
theorem dX1_firstQuiet_33 : decode cX1_firstQuiet 33 = .ok (.iconst 1, 1) := by decide +kernel
theorem dX1_firstQuiet_34 : decode cX1_firstQuiet 34 = .ok (.iadd, 1) := by decide +kernel
theorem dX1_firstQuiet_35 : decode cX1_firstQuiet 35 = .ok (.goto 4, 3) := by decide +kernel
theorem dX1_firstQuiet_38 : decode cX1_firstQuiet 38 = .ok (.iconst 0, 1) := by decide +kernel
theorem dX1_firstQuiet_39 : decode cX1_firstQuiet 39 = .ok (.istore_n 1, 1) := by decide +kernel
theorem dX1_firstQuiet_40 : decode cX1_firstQuiet 40 = .ok (.iload_n 1, 1) := by decide +kernel
theorem dX1_firstQuiet_41 : decode cX1_firstQuiet 41 = .ok (.iconst 5, 1) := by decide +kernel
theorem dX1_firstQuiet_42 : decode cX1_firstQuiet 42 = .ok (.if_icmp .ne 13, 3) := by decide +kernel
theorem dX1_firstQuiet_45 : decode cX1_firstQuiet 45 = .ok (.aload_n 0, 1) := by decide +kernel
theorem dX1_firstQuiet_46 : decode cX1_firstQuiet 46 = .ok (.getfield 21, 3) := by decide +kernel
theorem dX1_firstQuiet_49 : decode cX1_firstQuiet 49 = .ok (.getfield 91, 3) := by decide +kernel
theorem dX1_firstQuiet_52 : decode cX1_firstQuiet 52 = .ok (.iconst 5, 1) := by decide +kernel
theorem dX1_firstQuiet_53 : decode cX1_firstQuiet 53 = .ok (.isub, 1) := by decide +kernel
theorem dX1_firstQuiet_54 : decode cX1_firstQuiet 54 = .ok (.ireturn, 1) := by decide +kernel
theorem dX1_firstQuiet_55 : decode cX1_firstQuiet 55 = .ok (.iinc 2 1, 3) := by decide +kernel
theorem dX1_firstQuiet_58 : decode cX1_firstQuiet 58 = .ok (.goto (-46), 3) := by decide +kernel
theorem dX1_firstQuiet_61 : decode cX1_firstQuiet 61 = .ok (.bipush (-2), 2) := by decide +kernel
theorem dX1_firstQuiet_63 : decode cX1_firstQuiet 63 = .ok (.ireturn, 1) := by decide +kernel
theorem dX1_worthOf_0 : decode cX1_worthOf 0 = .ok (.aload_n 0, 1) := by decide +kernel
theorem dX1_worthOf_1 : decode cX1_worthOf 1 = .ok (.aload_n 0, 1) := by decide +kernel
theorem dX1_worthOf_2 : decode cX1_worthOf 2 = .ok (.getfield 21, 3) := by decide +kernel
theorem dX1_worthOf_5 : decode cX1_worthOf 5 = .ok (.invokevirtual 81, 3) := by decide +kernel
theorem dX1_worthOf_8 : decode cX1_worthOf 8 = .ok (.aload_n 0, 1) := by decide +kernel
theorem dX1_worthOf_9 : decode cX1_worthOf 9 = .ok (.getfield 12, 3) := by decide +kernel
theorem dX1_worthOf_12 : decode cX1_worthOf 12 = .ok (.aload_n 0, 1) := by decide +kernel
theorem dX1_worthOf_13 : decode cX1_worthOf 13 = .ok (.getfield 21, 3) := by decide +kernel
theorem dX1_worthOf_16 : decode cX1_worthOf 16 = .ok (.iload_n 3, 1) := by decide +kernel
theorem dX1_worthOf_17 : decode cX1_worthOf 17 = .ok (.invokevirtual 126, 3) := by decide +kernel
theorem dX1_worthOf_20 : decode cX1_worthOf 20 = .ok (.aload_n 0, 1) := by decide +kernel
theorem dX1_worthOf_21 : decode cX1_worthOf 21 = .ok (.getfield 21, 3) := by decide +kernel
theorem dX1_worthOf_24 : decode cX1_worthOf 24 = .ok (.getfield 104, 3) := by decide +kernel
theorem dX1_worthOf_27 : decode cX1_worthOf 27 = .ok (.iload_n 1, 1) := by decide +kernel
theorem dX1_worthOf_28 : decode cX1_worthOf 28 = .ok (.iaload, 1) := by decide +kernel
theorem dX1_worthOf_29 : decode cX1_worthOf 29 = .ok (.istore 4, 2) := by decide +kernel
theorem dX1_worthOf_31 : decode cX1_worthOf 31 = .ok (.aload_n 0, 1) := by decide +kernel
theorem dX1_worthOf_32 : decode cX1_worthOf 32 = .ok (.aload_n 0, 1) := by decide +kernel
theorem dX1_worthOf_33 : decode cX1_worthOf 33 = .ok (.getfield 21, 3) := by decide +kernel
theorem dX1_worthOf_36 : decode cX1_worthOf 36 = .ok (.invokevirtual 81, 3) := by decide +kernel
theorem dX1_worthOf_39 : decode cX1_worthOf 39 = .ok (.aload_n 0, 1) := by decide +kernel
theorem dX1_worthOf_40 : decode cX1_worthOf 40 = .ok (.getfield 21, 3) := by decide +kernel
theorem dX1_worthOf_43 : decode cX1_worthOf 43 = .ok (.iload_n 1, 1) := by decide +kernel
theorem dX1_worthOf_44 : decode cX1_worthOf 44 = .ok (.iload_n 2, 1) := by decide +kernel
theorem dX1_worthOf_45 : decode cX1_worthOf 45 = .ok (.invokevirtual 141, 3) := by decide +kernel
theorem dX1_worthOf_48 : decode cX1_worthOf 48 = .ok (.aload_n 0, 1) := by decide +kernel
theorem dX1_worthOf_49 : decode cX1_worthOf 49 = .ok (.getfield 12, 3) := by decide +kernel
theorem dX1_worthOf_52 : decode cX1_worthOf 52 = .ok (.aload_n 0, 1) := by decide +kernel
theorem dX1_worthOf_53 : decode cX1_worthOf 53 = .ok (.getfield 21, 3) := by decide +kernel
theorem dX1_worthOf_56 : decode cX1_worthOf 56 = .ok (.iload_n 3, 1) := by decide +kernel
theorem dX1_worthOf_57 : decode cX1_worthOf 57 = .ok (.invokevirtual 126, 3) := by decide +kernel
theorem dX1_worthOf_60 : decode cX1_worthOf 60 = .ok (.aload_n 0, 1) := by decide +kernel
theorem dX1_worthOf_61 : decode cX1_worthOf 61 = .ok (.getfield 21, 3) := by decide +kernel
theorem dX1_worthOf_64 : decode cX1_worthOf 64 = .ok (.getfield 104, 3) := by decide +kernel
theorem dX1_worthOf_67 : decode cX1_worthOf 67 = .ok (.iload_n 1, 1) := by decide +kernel
theorem dX1_worthOf_68 : decode cX1_worthOf 68 = .ok (.iaload, 1) := by decide +kernel
theorem dX1_worthOf_69 : decode cX1_worthOf 69 = .ok (.iload 4, 2) := by decide +kernel
theorem dX1_worthOf_71 : decode cX1_worthOf 71 = .ok (.isub, 1) := by decide +kernel
theorem dX1_worthOf_72 : decode cX1_worthOf 72 = .ok (.ireturn, 1) := by decide +kernel
theorem dX1_leastSun_0 : decode cX1_leastSun 0 = .ok (.iconst 0, 1) := by decide +kernel
theorem dX1_leastSun_1 : decode cX1_leastSun 1 = .ok (.istore 4, 2) := by decide +kernel
theorem dX1_leastSun_3 : decode cX1_leastSun 3 = .ok (.iload 4, 2) := by decide +kernel
theorem dX1_leastSun_5 : decode cX1_leastSun 5 = .ok (.bipush 20, 2) := by decide +kernel
theorem dX1_leastSun_7 : decode cX1_leastSun 7 = .ok (.if_icmp .gt 55, 3) := by decide +kernel
theorem dX1_leastSun_10 : decode cX1_leastSun 10 = .ok (.aload_n 0, 1) := by decide +kernel
theorem dX1_leastSun_11 : decode cX1_leastSun 11 = .ok (.aload_n 0, 1) := by decide +kernel
theorem dX1_leastSun_12 : decode cX1_leastSun 12 = .ok (.getfield 21, 3) := by decide +kernel
theorem dX1_leastSun_15 : decode cX1_leastSun 15 = .ok (.invokevirtual 81, 3) := by decide +kernel
theorem dX1_leastSun_18 : decode cX1_leastSun 18 = .ok (.aload_n 0, 1) := by decide +kernel
theorem dX1_leastSun_19 : decode cX1_leastSun 19 = .ok (.getfield 21, 3) := by decide +kernel
theorem dX1_leastSun_22 : decode cX1_leastSun 22 = .ok (.iload_n 1, 1) := by decide +kernel
theorem dX1_leastSun_23 : decode cX1_leastSun 23 = .ok (.iload 4, 2) := by decide +kernel
theorem dX1_leastSun_25 : decode cX1_leastSun 25 = .ok (.invokevirtual 145, 3) := by decide +kernel
theorem dX1_leastSun_28 : decode cX1_leastSun 28 = .ok (.aload_n 0, 1) := by decide +kernel
theorem dX1_leastSun_29 : decode cX1_leastSun 29 = .ok (.getfield 12, 3) := by decide +kernel
theorem dX1_leastSun_32 : decode cX1_leastSun 32 = .ok (.aload_n 0, 1) := by decide +kernel
theorem dX1_leastSun_33 : decode cX1_leastSun 33 = .ok (.getfield 21, 3) := by decide +kernel
theorem dX1_leastSun_36 : decode cX1_leastSun 36 = .ok (.iload_n 3, 1) := by decide +kernel
theorem dX1_leastSun_37 : decode cX1_leastSun 37 = .ok (.invokevirtual 126, 3) := by decide +kernel
theorem dX1_leastSun_40 : decode cX1_leastSun 40 = .ok (.aload_n 0, 1) := by decide +kernel
theorem dX1_leastSun_41 : decode cX1_leastSun 41 = .ok (.getfield 21, 3) := by decide +kernel
theorem dX1_leastSun_44 : decode cX1_leastSun 44 = .ok (.getfield 104, 3) := by decide +kernel
theorem dX1_leastSun_47 : decode cX1_leastSun 47 = .ok (.iload_n 1, 1) := by decide +kernel
theorem dX1_leastSun_48 : decode cX1_leastSun 48 = .ok (.iaload, 1) := by decide +kernel
theorem dX1_leastSun_49 : decode cX1_leastSun 49 = .ok (.iload_n 2, 1) := by decide +kernel
theorem dX1_leastSun_50 : decode cX1_leastSun 50 = .ok (.if_icmp .lt 6, 3) := by decide +kernel
theorem dX1_leastSun_53 : decode cX1_leastSun 53 = .ok (.iload 4, 2) := by decide +kernel
theorem dX1_leastSun_55 : decode cX1_leastSun 55 = .ok (.ireturn, 1) := by decide +kernel
theorem dX1_leastSun_56 : decode cX1_leastSun 56 = .ok (.iinc 4 1, 3) := by decide +kernel
theorem dX1_leastSun_59 : decode cX1_leastSun 59 = .ok (.goto (-56), 3) := by decide +kernel
theorem dX1_leastSun_62 : decode cX1_leastSun 62 = .ok (.bipush (-2), 2) := by decide +kernel
theorem dX1_leastSun_64 : decode cX1_leastSun 64 = .ok (.ireturn, 1) := by decide +kernel
theorem dX1_play_0 : decode cX1_play 0 = .ok (.aload_n 0, 1) := by decide +kernel
theorem dX1_play_1 : decode cX1_play 1 = .ok (.aload_n 0, 1) := by decide +kernel
theorem dX1_play_2 : decode cX1_play 2 = .ok (.getfield 25, 3) := by decide +kernel
theorem dX1_play_5 : decode cX1_play 5 = .ok (.iconst 0, 1) := by decide +kernel
theorem dX1_play_6 : decode cX1_play 6 = .ok (.aaload, 1) := by decide +kernel
theorem dX1_play_7 : decode cX1_play 7 = .ok (.invokevirtual 81, 3) := by decide +kernel
theorem dX1_play_10 : decode cX1_play 10 = .ok (.aload_n 0, 1) := by decide +kernel
theorem dX1_play_11 : decode cX1_play 11 = .ok (.getfield 12, 3) := by decide +kernel
theorem dX1_play_14 : decode cX1_play 14 = .ok (.iconst 1, 1) := by decide +kernel
theorem dX1_play_15 : decode cX1_play 15 = .ok (.iload_n 1, 1) := by decide +kernel
theorem dX1_play_16 : decode cX1_play 16 = .ok (.ishl, 1) := by decide +kernel
theorem dX1_play_17 : decode cX1_play 17 = .ok (.iconst 1, 1) := by decide +kernel
theorem dX1_play_18 : decode cX1_play 18 = .ok (.iload_n 2, 1) := by decide +kernel
theorem dX1_play_19 : decode cX1_play 19 = .ok (.ishl, 1) := by decide +kernel
theorem dX1_play_20 : decode cX1_play 20 = .ok (.ior, 1) := by decide +kernel
theorem dX1_play_21 : decode cX1_play 21 = .ok (.putfield 148, 3) := by decide +kernel
theorem dX1_play_24 : decode cX1_play 24 = .ok (.aload_n 0, 1) := by decide +kernel
theorem dX1_play_25 : decode cX1_play 25 = .ok (.aload_n 0, 1) := by decide +kernel
theorem dX1_play_26 : decode cX1_play 26 = .ok (.iconst 0, 1) := by decide +kernel
theorem dX1_play_27 : decode cX1_play 27 = .ok (.iload_n 3, 1) := by decide +kernel
theorem dX1_play_28 : decode cX1_play 28 = .ok (.iload_n 1, 1) := by decide +kernel
theorem dX1_play_29 : decode cX1_play 29 = .ok (.iload_n 2, 1) := by decide +kernel
theorem dX1_play_30 : decode cX1_play 30 = .ok (.invokevirtual 151, 3) := by decide +kernel
theorem dX1_play_33 : decode cX1_play 33 = .ok (.putfield 97, 3) := by decide +kernel
theorem dX1_play_36 : decode cX1_play 36 = .ok (.return_, 1) := by decide +kernel
theorem dX1_playOn_0 : decode cX1_playOn 0 = .ok (.aload_n 0, 1) := by decide +kernel
theorem dX1_playOn_1 : decode cX1_playOn 1 = .ok (.getfield 25, 3) := by decide +kernel
theorem dX1_playOn_4 : decode cX1_playOn 4 = .ok (.iload_n 1, 1) := by decide +kernel
theorem dX1_playOn_5 : decode cX1_playOn 5 = .ok (.aaload, 1) := by decide +kernel
theorem dX1_playOn_6 : decode cX1_playOn 6 = .ok (.astore 5, 2) := by decide +kernel
theorem dX1_playOn_8 : decode cX1_playOn 8 = .ok (.iload_n 1, 1) := by decide +kernel
theorem dX1_playOn_9 : decode cX1_playOn 9 = .ok (.iload_n 2, 1) := by decide +kernel
theorem dX1_playOn_10 : decode cX1_playOn 10 = .ok (.if_icmp .ge 8, 3) := by decide +kernel
theorem dX1_playOn_13 : decode cX1_playOn 13 = .ok (.iload_n 1, 1) := by decide +kernel
theorem dX1_playOn_14 : decode cX1_playOn 14 = .ok (.iconst 4, 1) := by decide +kernel
theorem dX1_playOn_15 : decode cX1_playOn 15 = .ok (.if_icmp .lt 20, 3) := by decide +kernel
theorem dX1_playOn_18 : decode cX1_playOn 18 = .ok (.aload 5, 2) := by decide +kernel
theorem dX1_playOn_20 : decode cX1_playOn 20 = .ok (.getfield 104, 3) := by decide +kernel
theorem dX1_playOn_23 : decode cX1_playOn 23 = .ok (.iload_n 3, 1) := by decide +kernel
theorem dX1_playOn_24 : decode cX1_playOn 24 = .ok (.iaload, 1) := by decide +kernel
theorem dX1_playOn_25 : decode cX1_playOn 25 = .ok (.aload 5, 2) := by decide +kernel
theorem dX1_playOn_27 : decode cX1_playOn 27 = .ok (.getfield 104, 3) := by decide +kernel
theorem dX1_playOn_30 : decode cX1_playOn 30 = .ok (.iload 4, 2) := by decide +kernel
theorem dX1_playOn_32 : decode cX1_playOn 32 = .ok (.iaload, 1) := by decide +kernel
theorem dX1_playOn_33 : decode cX1_playOn 33 = .ok (.isub, 1) := by decide +kernel
theorem dX1_playOn_34 : decode cX1_playOn 34 = .ok (.ireturn, 1) := by decide +kernel
theorem dX1_playOn_35 : decode cX1_playOn 35 = .ok (.iload_n 1, 1) := by decide +kernel
theorem dX1_playOn_36 : decode cX1_playOn 36 = .ok (.iconst 2, 1) := by decide +kernel
theorem dX1_playOn_37 : decode cX1_playOn 37 = .ok (.irem, 1) := by decide +kernel
theorem dX1_playOn_38 : decode cX1_playOn 38 = .ok (.ifCond .ne 7, 3) := by decide +kernel
theorem dX1_playOn_41 : decode cX1_playOn 41 = .ok (.iconst 1, 1) := by decide +kernel
theorem dX1_playOn_42 : decode cX1_playOn 42 = .ok (.goto 4, 3) := by decide +kernel
theorem dX1_playOn_45 : decode cX1_playOn 45 = .ok (.iconst 0, 1) := by decide +kernel
theorem dX1_playOn_46 : decode cX1_playOn 46 = .ok (.istore 6, 2) := by decide +kernel
theorem dX1_playOn_48 : decode cX1_playOn 48 = .ok (.iload 6, 2) := by decide +kernel
theorem dX1_playOn_50 : decode cX1_playOn 50 = .ok (.ifCond .eq 7, 3) := by decide +kernel
theorem dX1_playOn_53 : decode cX1_playOn 53 = .ok (.iload_n 3, 1) := by decide +kernel
theorem dX1_playOn_54 : decode cX1_playOn 54 = .ok (.goto 5, 3) := by decide +kernel
theorem dX1_playOn_57 : decode cX1_playOn 57 = .ok (.iload 4, 2) := by decide +kernel
theorem dX1_playOn_59 : decode cX1_playOn 59 = .ok (.istore 7, 2) := by decide +kernel
theorem dX1_playOn_61 : decode cX1_playOn 61 = .ok (.iload 6, 2) := by decide +kernel
theorem dX1_playOn_63 : decode cX1_playOn 63 = .ok (.ifCond .eq 8, 3) := by decide +kernel
theorem dX1_playOn_66 : decode cX1_playOn 66 = .ok (.iload 4, 2) := by decide +kernel
theorem dX1_playOn_68 : decode cX1_playOn 68 = .ok (.goto 4, 3) := by decide +kernel
theorem dX1_playOn_71 : decode cX1_playOn 71 = .ok (.iload_n 3, 1) := by decide +kernel
theorem dX1_playOn_72 : decode cX1_playOn 72 = .ok (.istore 8, 2) := by decide +kernel
theorem dX1_playOn_74 : decode cX1_playOn 74 = .ok (.aload_n 0, 1) := by decide +kernel
theorem dX1_playOn_75 : decode cX1_playOn 75 = .ok (.getfield 25, 3) := by decide +kernel
theorem dX1_playOn_78 : decode cX1_playOn 78 = .ok (.iload_n 1, 1) := by decide +kernel
theorem dX1_playOn_79 : decode cX1_playOn 79 = .ok (.iconst 1, 1) := by decide +kernel
theorem dX1_playOn_80 : decode cX1_playOn 80 = .ok (.iadd, 1) := by decide +kernel
theorem dX1_playOn_81 : decode cX1_playOn 81 = .ok (.aaload, 1) := by decide +kernel
theorem dX1_playOn_82 : decode cX1_playOn 82 = .ok (.astore 9, 2) := by decide +kernel
theorem dX1_playOn_84 : decode cX1_playOn 84 = .ok (.aload 9, 2) := by decide +kernel
theorem dX1_playOn_86 : decode cX1_playOn 86 = .ok (.aload 5, 2) := by decide +kernel
theorem dX1_playOn_88 : decode cX1_playOn 88 = .ok (.invokevirtual 61, 3) := by decide +kernel
theorem dX1_playOn_91 : decode cX1_playOn 91 = .ok (.aload_n 0, 1) := by decide +kernel
theorem dX1_playOn_92 : decode cX1_playOn 92 = .ok (.getfield 12, 3) := by decide +kernel
theorem dX1_playOn_95 : decode cX1_playOn 95 = .ok (.aload 9, 2) := by decide +kernel
theorem dX1_playOn_97 : decode cX1_playOn 97 = .ok (.invokevirtual 84, 3) := by decide +kernel
theorem dX1_playOn_100 : decode cX1_playOn 100 = .ok (.pop, 1) := by decide +kernel
theorem dX1_playOn_101 : decode cX1_playOn 101 = .ok (.aload_n 0, 1) := by decide +kernel
theorem dX1_playOn_102 : decode cX1_playOn 102 = .ok (.iload_n 1, 1) := by decide +kernel
theorem dX1_playOn_103 : decode cX1_playOn 103 = .ok (.iconst 1, 1) := by decide +kernel
theorem dX1_playOn_104 : decode cX1_playOn 104 = .ok (.iadd, 1) := by decide +kernel
theorem dX1_playOn_105 : decode cX1_playOn 105 = .ok (.iload_n 2, 1) := by decide +kernel
theorem dX1_playOn_106 : decode cX1_playOn 106 = .ok (.iload_n 3, 1) := by decide +kernel
theorem dX1_playOn_107 : decode cX1_playOn 107 = .ok (.iload 4, 2) := by decide +kernel
theorem dX1_playOn_109 : decode cX1_playOn 109 = .ok (.invokevirtual 151, 3) := by decide +kernel
theorem dX1_playOn_112 : decode cX1_playOn 112 = .ok (.istore 10, 2) := by decide +kernel
theorem dX1_playOn_114 : decode cX1_playOn 114 = .ok (.iconst 0, 1) := by decide +kernel
theorem dX1_playOn_115 : decode cX1_playOn 115 = .ok (.istore 11, 2) := by decide +kernel
theorem dX1_playOn_117 : decode cX1_playOn 117 = .ok (.aload 5, 2) := by decide +kernel
theorem dX1_playOn_119 : decode cX1_playOn 119 = .ok (.iload 7, 2) := by decide +kernel
theorem dX1_playOn_121 : decode cX1_playOn 121 = .ok (.iload 8, 2) := by decide +kernel
theorem dX1_playOn_123 : decode cX1_playOn 123 = .ok (.invokevirtual 155, 3) := by decide +kernel
theorem dX1_playOn_126 : decode cX1_playOn 126 = .ok (.ifCond .eq 71, 3) := by decide +kernel
theorem dX1_playOn_129 : decode cX1_playOn 129 = .ok (.aload 9, 2) := by decide +kernel
theorem dX1_playOn_131 : decode cX1_playOn 131 = .ok (.aload 5, 2) := by decide +kernel
theorem dX1_playOn_133 : decode cX1_playOn 133 = .ok (.invokevirtual 61, 3) := by decide +kernel
theorem dX1_playOn_136 : decode cX1_playOn 136 = .ok (.aload 9, 2) := by decide +kernel
theorem dX1_playOn_138 : decode cX1_playOn 138 = .ok (.iload 7, 2) := by decide +kernel
theorem dX1_playOn_140 : decode cX1_playOn 140 = .ok (.iload 8, 2) := by decide +kernel
theorem dX1_playOn_142 : decode cX1_playOn 142 = .ok (.invokevirtual 159, 3) := by decide +kernel
theorem dX1_playOn_145 : decode cX1_playOn 145 = .ok (.aload_n 0, 1) := by decide +kernel
theorem dX1_playOn_146 : decode cX1_playOn 146 = .ok (.getfield 12, 3) := by decide +kernel
theorem dX1_playOn_149 : decode cX1_playOn 149 = .ok (.aload 9, 2) := by decide +kernel
theorem dX1_playOn_151 : decode cX1_playOn 151 = .ok (.invokevirtual 84, 3) := by decide +kernel
theorem dX1_playOn_154 : decode cX1_playOn 154 = .ok (.pop, 1) := by decide +kernel
theorem dX1_playOn_155 : decode cX1_playOn 155 = .ok (.aload_n 0, 1) := by decide +kernel
theorem dX1_playOn_156 : decode cX1_playOn 156 = .ok (.iload_n 1, 1) := by decide +kernel
theorem dX1_playOn_157 : decode cX1_playOn 157 = .ok (.iconst 1, 1) := by decide +kernel
theorem dX1_playOn_158 : decode cX1_playOn 158 = .ok (.iadd, 1) := by decide +kernel
theorem dX1_playOn_159 : decode cX1_playOn 159 = .ok (.iload_n 2, 1) := by decide +kernel
theorem dX1_playOn_160 : decode cX1_playOn 160 = .ok (.iload_n 3, 1) := by decide +kernel
theorem dX1_playOn_161 : decode cX1_playOn 161 = .ok (.iload 4, 2) := by decide +kernel
theorem dX1_playOn_163 : decode cX1_playOn 163 = .ok (.invokevirtual 151, 3) := by decide +kernel
theorem dX1_playOn_166 : decode cX1_playOn 166 = .ok (.istore 12, 2) := by decide +kernel
theorem dX1_playOn_168 : decode cX1_playOn 168 = .ok (.iload 6, 2) := by decide +kernel
theorem dX1_playOn_170 : decode cX1_playOn 170 = .ok (.ifCond .eq 13, 3) := by decide +kernel
theorem dX1_playOn_173 : decode cX1_playOn 173 = .ok (.iload 12, 2) := by decide +kernel
theorem dX1_playOn_175 : decode cX1_playOn 175 = .ok (.iload 10, 2) := by decide +kernel
theorem dX1_playOn_177 : decode cX1_playOn 177 = .ok (.if_icmp .le 20, 3) := by decide +kernel
theorem dX1_playOn_180 : decode cX1_playOn 180 = .ok (.goto 10, 3) := by decide +kernel
theorem dX1_playOn_183 : decode cX1_playOn 183 = .ok (.iload 12, 2) := by decide +kernel
theorem dX1_playOn_185 : decode cX1_playOn 185 = .ok (.iload 10, 2) := by decide +kernel
theorem dX1_playOn_187 : decode cX1_playOn 187 = .ok (.if_icmp .ge 10, 3) := by decide +kernel
theorem dX1_playOn_190 : decode cX1_playOn 190 = .ok (.iload 12, 2) := by decide +kernel
theorem dX1_playOn_192 : decode cX1_playOn 192 = .ok (.istore 10, 2) := by decide +kernel
theorem dX1_playOn_194 : decode cX1_playOn 194 = .ok (.iconst 1, 1) := by decide +kernel
theorem dX1_playOn_195 : decode cX1_playOn 195 = .ok (.istore 11, 2) := by decide +kernel
theorem dX1_playOn_197 : decode cX1_playOn 197 = .ok (.iload_n 1, 1) := by decide +kernel
theorem dX1_playOn_198 : decode cX1_playOn 198 = .ok (.ifCond .ne 9, 3) := by decide +kernel
theorem dX1_playOn_201 : decode cX1_playOn 201 = .ok (.aload_n 0, 1) := by decide +kernel
theorem dX1_playOn_202 : decode cX1_playOn 202 = .ok (.iload 11, 2) := by decide +kernel
theorem dX1_playOn_204 : decode cX1_playOn 204 = .ok (.putfield 138, 3) := by decide +kernel
theorem dX1_playOn_207 : decode cX1_playOn 207 = .ok (.iload 10, 2) := by decide +kernel
theorem dX1_playOn_209 : decode cX1_playOn 209 = .ok (.ireturn, 1) := by decide +kernel
theorem dX1_findShunned_0 : decode cX1_findShunned 0 = .ok (.aload_n 0, 1) := by decide +kernel
theorem dX1_findShunned_1 : decode cX1_findShunned 1 = .ok (.iconst (-1), 1) := by decide +kernel
theorem dX1_findShunned_2 : decode cX1_findShunned 2 = .ok (.putfield 97, 3) := by decide +kernel
theorem dX1_findShunned_5 : decode cX1_findShunned 5 = .ok (.aload_n 0, 1) := by decide +kernel
theorem dX1_findShunned_6 : decode cX1_findShunned 6 = .ok (.iconst 0, 1) := by decide +kernel
theorem dX1_findShunned_7 : decode cX1_findShunned 7 = .ok (.putfield 138, 3) := by decide +kernel
theorem dX1_findShunned_10 : decode cX1_findShunned 10 = .ok (.iconst 0, 1) := by decide +kernel
theorem dX1_findShunned_11 : decode cX1_findShunned 11 = .ok (.istore_n 2, 1) := by decide +kernel
theorem dX1_findShunned_12 : decode cX1_findShunned 12 = .ok (.iload_n 2, 1) := by decide +kernel
theorem dX1_findShunned_13 : decode cX1_findShunned 13 = .ok (.iconst 1, 1) := by decide +kernel
theorem dX1_findShunned_14 : decode cX1_findShunned 14 = .ok (.aload_n 0, 1) := by decide +kernel
theorem dX1_findShunned_15 : decode cX1_findShunned 15 = .ok (.getfield 48, 3) := by decide +kernel
theorem dX1_findShunned_18 : decode cX1_findShunned 18 = .ok (.getfield 65, 3) := by decide +kernel
theorem dX1_findShunned_21 : decode cX1_findShunned 21 = .ok (.getfield 111, 3) := by decide +kernel
theorem dX1_findShunned_24 : decode cX1_findShunned 24 = .ok (.ishl, 1) := by decide +kernel
theorem dX1_findShunned_25 : decode cX1_findShunned 25 = .ok (.if_icmp .ge 143, 3) := by decide +kernel
theorem dX1_findShunned_28 : decode cX1_findShunned 28 = .ok (.aload_n 0, 1) := by decide +kernel
theorem dX1_findShunned_29 : decode cX1_findShunned 29 = .ok (.iload_n 2, 1) := by decide +kernel
theorem dX1_findShunned_30 : decode cX1_findShunned 30 = .ok (.invokevirtual 162, 3) := by decide +kernel
theorem dX1_findShunned_33 : decode cX1_findShunned 33 = .ok (.istore_n 3, 1) := by decide +kernel
theorem dX1_findShunned_34 : decode cX1_findShunned 34 = .ok (.iload_n 3, 1) := by decide +kernel
theorem dX1_findShunned_35 : decode cX1_findShunned 35 = .ok (.iconst (-1), 1) := by decide +kernel
theorem dX1_findShunned_36 : decode cX1_findShunned 36 = .ok (.if_icmp .eq 18, 3) := by decide +kernel
theorem dX1_findShunned_39 : decode cX1_findShunned 39 = .ok (.aload_n 0, 1) := by decide +kernel
theorem dX1_findShunned_40 : decode cX1_findShunned 40 = .ok (.getfield 45, 3) := by decide +kernel
theorem dX1_findShunned_43 : decode cX1_findShunned 43 = .ok (.iload_n 2, 1) := by decide +kernel
theorem dX1_findShunned_44 : decode cX1_findShunned 44 = .ok (.aload_n 0, 1) := by decide +kernel
theorem dX1_findShunned_45 : decode cX1_findShunned 45 = .ok (.getfield 45, 3) := by decide +kernel
theorem dX1_findShunned_48 : decode cX1_findShunned 48 = .ok (.iload_n 3, 1) := by decide +kernel
theorem dX1_findShunned_49 : decode cX1_findShunned 49 = .ok (.iaload, 1) := by decide +kernel
theorem dX1_findShunned_50 : decode cX1_findShunned 50 = .ok (.iastore, 1) := by decide +kernel
theorem dX1_findShunned_51 : decode cX1_findShunned 51 = .ok (.goto 111, 3) := by decide +kernel
theorem dX1_findShunned_54 : decode cX1_findShunned 54 = .ok (.aload_n 0, 1) := by decide +kernel
theorem dX1_findShunned_55 : decode cX1_findShunned 55 = .ok (.aload_n 0, 1) := by decide +kernel
theorem dX1_findShunned_56 : decode cX1_findShunned 56 = .ok (.getfield 21, 3) := by decide +kernel
theorem dX1_findShunned_59 : decode cX1_findShunned 59 = .ok (.invokevirtual 81, 3) := by decide +kernel
theorem dX1_findShunned_62 : decode cX1_findShunned 62 = .ok (.aload_n 0, 1) := by decide +kernel
theorem dX1_findShunned_63 : decode cX1_findShunned 63 = .ok (.getfield 12, 3) := by decide +kernel
theorem dX1_findShunned_66 : decode cX1_findShunned 66 = .ok (.iload_n 2, 1) := by decide +kernel
theorem dX1_findShunned_67 : decode cX1_findShunned 67 = .ok (.putfield 166, 3) := by decide +kernel
theorem dX1_findShunned_70 : decode cX1_findShunned 70 = .ok (.aload_n 0, 1) := by decide +kernel
theorem dX1_findShunned_71 : decode cX1_findShunned 71 = .ok (.getfield 12, 3) := by decide +kernel
theorem dX1_findShunned_74 : decode cX1_findShunned 74 = .ok (.aload_n 0, 1) := by decide +kernel
theorem dX1_findShunned_75 : decode cX1_findShunned 75 = .ok (.getfield 21, 3) := by decide +kernel
theorem dX1_findShunned_78 : decode cX1_findShunned 78 = .ok (.iload_n 1, 1) := by decide +kernel
theorem dX1_findShunned_79 : decode cX1_findShunned 79 = .ok (.invokevirtual 126, 3) := by decide +kernel
theorem dX1_findShunned_82 : decode cX1_findShunned 82 = .ok (.aload_n 0, 1) := by decide +kernel
theorem dX1_findShunned_83 : decode cX1_findShunned 83 = .ok (.getfield 45, 3) := by decide +kernel
theorem dX1_findShunned_86 : decode cX1_findShunned 86 = .ok (.iload_n 2, 1) := by decide +kernel
theorem dX1_findShunned_87 : decode cX1_findShunned 87 = .ok (.aload_n 0, 1) := by decide +kernel
theorem dX1_findShunned_88 : decode cX1_findShunned 88 = .ok (.getfield 12, 3) := by decide +kernel
theorem dX1_findShunned_91 : decode cX1_findShunned 91 = .ok (.getfield 169, 3) := by decide +kernel
theorem dX1_findShunned_94 : decode cX1_findShunned 94 = .ok (.iastore, 1) := by decide +kernel
theorem dX1_findShunned_95 : decode cX1_findShunned 95 = .ok (.aload_n 0, 1) := by decide +kernel
theorem dX1_findShunned_96 : decode cX1_findShunned 96 = .ok (.getfield 21, 3) := by decide +kernel
theorem dX1_findShunned_99 : decode cX1_findShunned 99 = .ok (.getfield 104, 3) := by decide +kernel
theorem dX1_findShunned_102 : decode cX1_findShunned 102 = .ok (.invokestatic 134, 3) := by decide +kernel
theorem dX1_findShunned_105 : decode cX1_findShunned 105 = .ok (.istore 4, 2) := by decide +kernel
theorem dX1_findShunned_107 : decode cX1_findShunned 107 = .ok (.iload_n 2, 1) := by decide +kernel
theorem dX1_findShunned_108 : decode cX1_findShunned 108 = .ok (.invokestatic 171, 3) := by decide +kernel
theorem dX1_findShunned_111 : decode cX1_findShunned 111 = .ok (.aload_n 0, 1) := by decide +kernel
theorem dX1_findShunned_112 : decode cX1_findShunned 112 = .ok (.getfield 138, 3) := by decide +kernel
theorem dX1_findShunned_115 : decode cX1_findShunned 115 = .ok (.invokestatic 171, 3) := by decide +kernel
theorem dX1_findShunned_118 : decode cX1_findShunned 118 = .ok (.if_icmp .ge 7, 3) := by decide +kernel
theorem dX1_findShunned_121 : decode cX1_findShunned 121 = .ok (.iconst 1, 1) := by decide +kernel
theorem dX1_findShunned_122 : decode cX1_findShunned 122 = .ok (.goto 4, 3) := by decide +kernel
theorem dX1_findShunned_125 : decode cX1_findShunned 125 = .ok (.iconst 0, 1) := by decide +kernel
theorem dX1_findShunned_126 : decode cX1_findShunned 126 = .ok (.istore 5, 2) := by decide +kernel
theorem dX1_findShunned_128 : decode cX1_findShunned 128 = .ok (.iload 4, 2) := by decide +kernel
theorem dX1_findShunned_130 : decode cX1_findShunned 130 = .ok (.aload_n 0, 1) := by decide +kernel
theorem dX1_findShunned_131 : decode cX1_findShunned 131 = .ok (.getfield 97, 3) := by decide +kernel
theorem dX1_findShunned_134 : decode cX1_findShunned 134 = .ok (.if_icmp .gt 17, 3) := by decide +kernel
theorem dX1_findShunned_137 : decode cX1_findShunned 137 = .ok (.iload 4, 2) := by decide +kernel
theorem dX1_findShunned_139 : decode cX1_findShunned 139 = .ok (.aload_n 0, 1) := by decide +kernel
theorem dX1_findShunned_140 : decode cX1_findShunned 140 = .ok (.getfield 97, 3) := by decide +kernel
theorem dX1_findShunned_143 : decode cX1_findShunned 143 = .ok (.if_icmp .ne 19, 3) := by decide +kernel
theorem dX1_findShunned_146 : decode cX1_findShunned 146 = .ok (.iload 5, 2) := by decide +kernel
theorem dX1_findShunned_148 : decode cX1_findShunned 148 = .ok (.ifCond .eq 14, 3) := by decide +kernel
theorem dX1_findShunned_151 : decode cX1_findShunned 151 = .ok (.aload_n 0, 1) := by decide +kernel
theorem dX1_findShunned_152 : decode cX1_findShunned 152 = .ok (.iload 4, 2) := by decide +kernel
theorem dX1_findShunned_154 : decode cX1_findShunned 154 = .ok (.putfield 97, 3) := by decide +kernel
theorem dX1_findShunned_157 : decode cX1_findShunned 157 = .ok (.aload_n 0, 1) := by decide +kernel
theorem dX1_findShunned_158 : decode cX1_findShunned 158 = .ok (.iload_n 2, 1) := by decide +kernel
theorem dX1_findShunned_159 : decode cX1_findShunned 159 = .ok (.putfield 138, 3) := by decide +kernel
theorem dX1_findShunned_162 : decode cX1_findShunned 162 = .ok (.iinc 2 1, 3) := by decide +kernel
theorem dX1_findShunned_165 : decode cX1_findShunned 165 = .ok (.goto (-153), 3) := by decide +kernel
theorem dX1_findShunned_168 : decode cX1_findShunned 168 = .ok (.return_, 1) := by decide +kernel
theorem dX1_sameWithFewer_0 : decode cX1_sameWithFewer 0 = .ok (.iconst 0, 1) := by decide +kernel
theorem dX1_sameWithFewer_1 : decode cX1_sameWithFewer 1 = .ok (.istore_n 2, 1) := by decide +kernel
theorem dX1_sameWithFewer_2 : decode cX1_sameWithFewer 2 = .ok (.iload_n 2, 1) := by decide +kernel
theorem dX1_sameWithFewer_3 : decode cX1_sameWithFewer 3 = .ok (.iconst 5, 1) := by decide +kernel
theorem dX1_sameWithFewer_4 : decode cX1_sameWithFewer 4 = .ok (.if_icmp .ge 37, 3) := by decide +kernel
theorem dX1_sameWithFewer_7 : decode cX1_sameWithFewer 7 = .ok (.iload_n 1, 1) := by decide +kernel
theorem dX1_sameWithFewer_8 : decode cX1_sameWithFewer 8 = .ok (.iconst 1, 1) := by decide +kernel
theorem dX1_sameWithFewer_9 : decode cX1_sameWithFewer 9 = .ok (.iload_n 2, 1) := by decide +kernel
theorem dX1_sameWithFewer_10 : decode cX1_sameWithFewer 10 = .ok (.ishl, 1) := by decide +kernel
theorem dX1_sameWithFewer_11 : decode cX1_sameWithFewer 11 = .ok (.iconst (-1), 1) := by decide +kernel
theorem dX1_sameWithFewer_12 : decode cX1_sameWithFewer 12 = .ok (.ixor, 1) := by decide +kernel
theorem dX1_sameWithFewer_13 : decode cX1_sameWithFewer 13 = .ok (.iand, 1) := by decide +kernel
theorem dX1_sameWithFewer_14 : decode cX1_sameWithFewer 14 = .ok (.istore_n 3, 1) := by decide +kernel
theorem dX1_sameWithFewer_15 : decode cX1_sameWithFewer 15 = .ok (.iload_n 3, 1) := by decide +kernel
theorem dX1_sameWithFewer_16 : decode cX1_sameWithFewer 16 = .ok (.iload_n 1, 1) := by decide +kernel
theorem dX1_sameWithFewer_17 : decode cX1_sameWithFewer 17 = .ok (.if_icmp .eq 18, 3) := by decide +kernel
theorem dX1_sameWithFewer_20 : decode cX1_sameWithFewer 20 = .ok (.aload_n 0, 1) := by decide +kernel
theorem dX1_sameWithFewer_21 : decode cX1_sameWithFewer 21 = .ok (.getfield 45, 3) := by decide +kernel
theorem dX1_sameWithFewer_24 : decode cX1_sameWithFewer 24 = .ok (.iload_n 3, 1) := by decide +kernel
theorem dX1_sameWithFewer_25 : decode cX1_sameWithFewer 25 = .ok (.iaload, 1) := by decide +kernel
theorem dX1_sameWithFewer_26 : decode cX1_sameWithFewer 26 = .ok (.iload_n 2, 1) := by decide +kernel
theorem dX1_sameWithFewer_27 : decode cX1_sameWithFewer 27 = .ok (.ishr, 1) := by decide +kernel
theorem dX1_sameWithFewer_28 : decode cX1_sameWithFewer 28 = .ok (.iconst 1, 1) := by decide +kernel
theorem dX1_sameWithFewer_29 : decode cX1_sameWithFewer 29 = .ok (.iand, 1) := by decide +kernel
theorem dX1_sameWithFewer_30 : decode cX1_sameWithFewer 30 = .ok (.ifCond .ne 5, 3) := by decide +kernel
theorem dX1_sameWithFewer_33 : decode cX1_sameWithFewer 33 = .ok (.iload_n 3, 1) := by decide +kernel
theorem dX1_sameWithFewer_34 : decode cX1_sameWithFewer 34 = .ok (.ireturn, 1) := by decide +kernel
theorem dX1_sameWithFewer_35 : decode cX1_sameWithFewer 35 = .ok (.iinc 2 1, 3) := by decide +kernel
theorem dX1_sameWithFewer_38 : decode cX1_sameWithFewer 38 = .ok (.goto (-36), 3) := by decide +kernel
theorem dX1_sameWithFewer_41 : decode cX1_sameWithFewer 41 = .ok (.iconst (-1), 1) := by decide +kernel
theorem dX1_sameWithFewer_42 : decode cX1_sameWithFewer 42 = .ok (.ireturn, 1) := by decide +kernel
theorem dX1_findMothered_0 : decode cX1_findMothered 0 = .ok (.aload_n 0, 1) := by decide +kernel
theorem dX1_findMothered_1 : decode cX1_findMothered 1 = .ok (.iconst (-1), 1) := by decide +kernel
theorem dX1_findMothered_2 : decode cX1_findMothered 2 = .ok (.putfield 97, 3) := by decide +kernel
theorem dX1_findMothered_5 : decode cX1_findMothered 5 = .ok (.iconst (-1), 1) := by decide +kernel
theorem dX1_findMothered_6 : decode cX1_findMothered 6 = .ok (.istore_n 2, 1) := by decide +kernel
theorem dX1_findMothered_7 : decode cX1_findMothered 7 = .ok (.iload_n 2, 1) := by decide +kernel
theorem dX1_findMothered_8 : decode cX1_findMothered 8 = .ok (.aload_n 0, 1) := by decide +kernel
theorem dX1_findMothered_9 : decode cX1_findMothered 9 = .ok (.getfield 48, 3) := by decide +kernel
theorem dX1_findMothered_12 : decode cX1_findMothered 12 = .ok (.getfield 65, 3) := by decide +kernel
theorem dX1_findMothered_15 : decode cX1_findMothered 15 = .ok (.getfield 111, 3) := by decide +kernel
theorem dX1_findMothered_18 : decode cX1_findMothered 18 = .ok (.if_icmp .ge 48, 3) := by decide +kernel
theorem dX1_findMothered_21 : decode cX1_findMothered 21 = .ok (.aload_n 0, 1) := by decide +kernel
theorem dX1_findMothered_22 : decode cX1_findMothered 22 = .ok (.aload_n 0, 1) := by decide +kernel
theorem dX1_findMothered_23 : decode cX1_findMothered 23 = .ok (.getfield 21, 3) := by decide +kernel
theorem dX1_findMothered_26 : decode cX1_findMothered 26 = .ok (.invokevirtual 81, 3) := by decide +kernel
theorem dX1_findMothered_29 : decode cX1_findMothered 29 = .ok (.iload_n 2, 1) := by decide +kernel
theorem dX1_findMothered_30 : decode cX1_findMothered 30 = .ok (.iconst (-1), 1) := by decide +kernel
theorem dX1_findMothered_31 : decode cX1_findMothered 31 = .ok (.if_icmp .eq 12, 3) := by decide +kernel
theorem dX1_findMothered_34 : decode cX1_findMothered 34 = .ok (.aload_n 0, 1) := by decide +kernel
theorem dX1_findMothered_35 : decode cX1_findMothered 35 = .ok (.getfield 21, 3) := by decide +kernel
theorem dX1_findMothered_38 : decode cX1_findMothered 38 = .ok (.iload_n 2, 1) := by decide +kernel
theorem dX1_findMothered_39 : decode cX1_findMothered 39 = .ok (.iconst 1, 1) := by decide +kernel
theorem dX1_findMothered_40 : decode cX1_findMothered 40 = .ok (.invokevirtual 145, 3) := by decide +kernel
theorem dX1_findMothered_43 : decode cX1_findMothered 43 = .ok (.aload_n 0, 1) := by decide +kernel
theorem dX1_findMothered_44 : decode cX1_findMothered 44 = .ok (.getfield 12, 3) := by decide +kernel
theorem dX1_findMothered_47 : decode cX1_findMothered 47 = .ok (.aload_n 0, 1) := by decide +kernel
theorem dX1_findMothered_48 : decode cX1_findMothered 48 = .ok (.getfield 21, 3) := by decide +kernel
theorem dX1_findMothered_51 : decode cX1_findMothered 51 = .ok (.iload_n 1, 1) := by decide +kernel
theorem dX1_findMothered_52 : decode cX1_findMothered 52 = .ok (.invokevirtual 126, 3) := by decide +kernel
theorem dX1_findMothered_55 : decode cX1_findMothered 55 = .ok (.aload_n 0, 1) := by decide +kernel
theorem dX1_findMothered_56 : decode cX1_findMothered 56 = .ok (.iload_n 2, 1) := by decide +kernel
theorem dX1_findMothered_57 : decode cX1_findMothered 57 = .ok (.invokevirtual 130, 3) := by decide +kernel
theorem dX1_findMothered_60 : decode cX1_findMothered 60 = .ok (.iinc 2 1, 3) := by decide +kernel
theorem dX1_findMothered_63 : decode cX1_findMothered 63 = .ok (.goto (-56), 3) := by decide +kernel
theorem dX1_findMothered_66 : decode cX1_findMothered 66 = .ok (.return_, 1) := by decide +kernel
theorem dX1_findRules_0 : decode cX1_findRules 0 = .ok (.aload_n 0, 1) := by decide +kernel
theorem dX1_findRules_1 : decode cX1_findRules 1 = .ok (.iconst 0, 1) := by decide +kernel
theorem dX1_findRules_2 : decode cX1_findRules 2 = .ok (.putfield 97, 3) := by decide +kernel
theorem dX1_findRules_5 : decode cX1_findRules 5 = .ok (.aload_n 0, 1) := by decide +kernel
theorem dX1_findRules_6 : decode cX1_findRules 6 = .ok (.bipush (-2), 2) := by decide +kernel
theorem dX1_findRules_8 : decode cX1_findRules 8 = .ok (.putfield 138, 3) := by decide +kernel
theorem dX1_findRules_11 : decode cX1_findRules 11 = .ok (.iconst (-1), 1) := by decide +kernel
theorem dX1_findRules_12 : decode cX1_findRules 12 = .ok (.istore_n 3, 1) := by decide +kernel
theorem dX1_findRules_13 : decode cX1_findRules 13 = .ok (.iload_n 3, 1) := by decide +kernel
theorem dX1_findRules_14 : decode cX1_findRules 14 = .ok (.bipush 6, 2) := by decide +kernel
theorem dX1_findRules_16 : decode cX1_findRules 16 = .ok (.if_icmp .ge 71, 3) := by decide +kernel
theorem dX1_findRules_19 : decode cX1_findRules 19 = .ok (.aload_n 0, 1) := by decide +kernel
theorem dX1_findRules_20 : decode cX1_findRules 20 = .ok (.getfield 36, 3) := by decide +kernel
theorem dX1_findRules_23 : decode cX1_findRules 23 = .ok (.iload_n 3, 1) := by decide +kernel
theorem dX1_findRules_24 : decode cX1_findRules 24 = .ok (.iconst 1, 1) := by decide +kernel
theorem dX1_findRules_25 : decode cX1_findRules 25 = .ok (.iadd, 1) := by decide +kernel
theorem dX1_findRules_26 : decode cX1_findRules 26 = .ok (.iload_n 3, 1) := by decide +kernel
theorem dX1_findRules_27 : decode cX1_findRules 27 = .ok (.iload_n 1, 1) := by decide +kernel
theorem dX1_findRules_28 : decode cX1_findRules 28 = .ok (.if_icmp .ge 16, 3) := by decide +kernel
theorem dX1_findRules_31 : decode cX1_findRules 31 = .ok (.aload_n 0, 1) := by decide +kernel
theorem dX1_findRules_32 : decode cX1_findRules 32 = .ok (.iload_n 3, 1) := by decide +kernel
theorem dX1_findRules_33 : decode cX1_findRules 33 = .ok (.iload_n 2, 1) := by decide +kernel
theorem dX1_findRules_34 : decode cX1_findRules 34 = .ok (.invokevirtual 176, 3) := by decide +kernel
theorem dX1_findRules_37 : decode cX1_findRules 37 = .ok (.ifCond .eq 7, 3) := by decide +kernel
theorem dX1_findRules_40 : decode cX1_findRules 40 = .ok (.iconst 1, 1) := by decide +kernel
theorem dX1_findRules_41 : decode cX1_findRules 41 = .ok (.goto 4, 3) := by decide +kernel
theorem dX1_findRules_44 : decode cX1_findRules 44 = .ok (.iconst 0, 1) := by decide +kernel
theorem dX1_findRules_45 : decode cX1_findRules 45 = .ok (.bastore, 1) := by decide +kernel
theorem dX1_findRules_46 : decode cX1_findRules 46 = .ok (.aload_n 0, 1) := by decide +kernel
theorem dX1_findRules_47 : decode cX1_findRules 47 = .ok (.getfield 36, 3) := by decide +kernel
theorem dX1_findRules_50 : decode cX1_findRules 50 = .ok (.iload_n 3, 1) := by decide +kernel
theorem dX1_findRules_51 : decode cX1_findRules 51 = .ok (.iconst 1, 1) := by decide +kernel
theorem dX1_findRules_52 : decode cX1_findRules 52 = .ok (.iadd, 1) := by decide +kernel
theorem dX1_findRules_53 : decode cX1_findRules 53 = .ok (.baload, 1) := by decide +kernel
theorem dX1_findRules_54 : decode cX1_findRules 54 = .ok (.ifCond .eq 27, 3) := by decide +kernel
theorem dX1_findRules_57 : decode cX1_findRules 57 = .ok (.aload_n 0, 1) := by decide +kernel
theorem dX1_findRules_58 : decode cX1_findRules 58 = .ok (.dup, 1) := by decide +kernel
theorem dX1_findRules_59 : decode cX1_findRules 59 = .ok (.getfield 97, 3) := by decide +kernel
theorem dX1_findRules_62 : decode cX1_findRules 62 = .ok (.iconst 1, 1) := by decide +kernel
theorem dX1_findRules_63 : decode cX1_findRules 63 = .ok (.iadd, 1) := by decide +kernel
theorem dX1_findRules_64 : decode cX1_findRules 64 = .ok (.putfield 97, 3) := by decide +kernel
theorem dX1_findRules_67 : decode cX1_findRules 67 = .ok (.aload_n 0, 1) := by decide +kernel
theorem dX1_findRules_68 : decode cX1_findRules 68 = .ok (.getfield 138, 3) := by decide +kernel
theorem dX1_findRules_71 : decode cX1_findRules 71 = .ok (.bipush (-2), 2) := by decide +kernel
theorem dX1_findRules_73 : decode cX1_findRules 73 = .ok (.if_icmp .ne 8, 3) := by decide +kernel
theorem dX1_findRules_76 : decode cX1_findRules 76 = .ok (.aload_n 0, 1) := by decide +kernel
theorem dX1_findRules_77 : decode cX1_findRules 77 = .ok (.iload_n 3, 1) := by decide +kernel
theorem dX1_findRules_78 : decode cX1_findRules 78 = .ok (.putfield 138, 3) := by decide +kernel
theorem dX1_findRules_81 : decode cX1_findRules 81 = .ok (.iinc 3 1, 3) := by decide +kernel
theorem dX1_findRules_84 : decode cX1_findRules 84 = .ok (.goto (-71), 3) := by decide +kernel
theorem dX1_findRules_87 : decode cX1_findRules 87 = .ok (.return_, 1) := by decide +kernel
theorem dX1_isSo_0 : decode cX1_isSo 0 = .ok (.aload_n 0, 1) := by decide +kernel
theorem dX1_isSo_1 : decode cX1_isSo 1 = .ok (.getfield 21, 3) := by decide +kernel
theorem dX1_isSo_4 : decode cX1_isSo 4 = .ok (.aload_n 0, 1) := by decide +kernel
theorem dX1_isSo_5 : decode cX1_isSo 5 = .ok (.getfield 48, 3) := by decide +kernel
theorem dX1_isSo_8 : decode cX1_isSo 8 = .ok (.getfield 65, 3) := by decide +kernel
theorem dX1_isSo_11 : decode cX1_isSo 11 = .ok (.invokevirtual 179, 3) := by decide +kernel
theorem dX1_isSo_14 : decode cX1_isSo 14 = .ok (.aload_n 0, 1) := by decide +kernel
theorem dX1_isSo_15 : decode cX1_isSo 15 = .ok (.getfield 12, 3) := by decide +kernel
theorem dX1_isSo_18 : decode cX1_isSo 18 = .ok (.aload_n 0, 1) := by decide +kernel
theorem dX1_isSo_19 : decode cX1_isSo 19 = .ok (.getfield 48, 3) := by decide +kernel
theorem dX1_isSo_22 : decode cX1_isSo 22 = .ok (.getfield 65, 3) := by decide +kernel
theorem dX1_isSo_25 : decode cX1_isSo 25 = .ok (.aload_n 0, 1) := by decide +kernel
theorem dX1_isSo_26 : decode cX1_isSo 26 = .ok (.getfield 52, 3) := by decide +kernel
theorem dX1_isSo_29 : decode cX1_isSo 29 = .ok (.iload_n 1, 1) := by decide +kernel
theorem dX1_isSo_30 : decode cX1_isSo 30 = .ok (.invokestatic 73, 3) := by decide +kernel
theorem dX1_isSo_33 : decode cX1_isSo 33 = .ok (.invokevirtual 77, 3) := by decide +kernel
theorem dX1_isSo_36 : decode cX1_isSo 36 = .ok (.iload_n 2, 1) := by decide +kernel
theorem dX1_isSo_37 : decode cX1_isSo 37 = .ok (.aload_n 0, 1) := by decide +kernel
theorem dX1_isSo_38 : decode cX1_isSo 38 = .ok (.getfield 48, 3) := by decide +kernel
theorem dX1_isSo_41 : decode cX1_isSo 41 = .ok (.invokevirtual 183, 3) := by decide +kernel
theorem dX1_isSo_44 : decode cX1_isSo 44 = .ok (.invokestatic 187, 3) := by decide +kernel
theorem dX1_isSo_47 : decode cX1_isSo 47 = .ok (.istore_n 3, 1) := by decide +kernel
theorem dX1_isSo_48 : decode cX1_isSo 48 = .ok (.iconst 0, 1) := by decide +kernel
theorem dX1_isSo_49 : decode cX1_isSo 49 = .ok (.istore 4, 2) := by decide +kernel
theorem dX1_isSo_51 : decode cX1_isSo 51 = .ok (.iload 4, 2) := by decide +kernel
theorem dX1_isSo_53 : decode cX1_isSo 53 = .ok (.iload_n 3, 1) := by decide +kernel
theorem dX1_isSo_54 : decode cX1_isSo 54 = .ok (.if_icmp .gt 66, 3) := by decide +kernel
theorem dX1_isSo_57 : decode cX1_isSo 57 = .ok (.aload_n 0, 1) := by decide +kernel
theorem dX1_isSo_58 : decode cX1_isSo 58 = .ok (.getfield 12, 3) := by decide +kernel
theorem dX1_isSo_61 : decode cX1_isSo 61 = .ok (.aload_n 0, 1) := by decide +kernel
theorem dX1_isSo_62 : decode cX1_isSo 62 = .ok (.getfield 21, 3) := by decide +kernel
theorem dX1_isSo_65 : decode cX1_isSo 65 = .ok (.invokevirtual 84, 3) := by decide +kernel
theorem dX1_isSo_68 : decode cX1_isSo 68 = .ok (.pop, 1) := by decide +kernel
theorem dX1_isSo_69 : decode cX1_isSo 69 = .ok (.aload_n 0, 1) := by decide +kernel
theorem dX1_isSo_70 : decode cX1_isSo 70 = .ok (.getfield 48, 3) := by decide +kernel
theorem dX1_isSo_73 : decode cX1_isSo 73 = .ok (.iload 4, 2) := by decide +kernel
theorem dX1_isSo_75 : decode cX1_isSo 75 = .ok (.aload_n 0, 1) := by decide +kernel
theorem dX1_isSo_76 : decode cX1_isSo 76 = .ok (.getfield 21, 3) := by decide +kernel
theorem dX1_isSo_79 : decode cX1_isSo 79 = .ok (.getfield 193, 3) := by decide +kernel
theorem dX1_isSo_82 : decode cX1_isSo 82 = .ok (.invokevirtual 196, 3) := by decide +kernel
theorem dX1_isSo_85 : decode cX1_isSo 85 = .ok (.ifCond .ne 5, 3) := by decide +kernel
theorem dX1_isSo_88 : decode cX1_isSo 88 = .ok (.iconst 0, 1) := by decide +kernel
theorem dX1_isSo_89 : decode cX1_isSo 89 = .ok (.ireturn, 1) := by decide +kernel
theorem dX1_isSo_90 : decode cX1_isSo 90 = .ok (.iload 4, 2) := by decide +kernel
theorem dX1_isSo_92 : decode cX1_isSo 92 = .ok (.iload_n 2, 1) := by decide +kernel
theorem dX1_isSo_93 : decode cX1_isSo 93 = .ok (.if_icmp .ne 21, 3) := by decide +kernel
theorem dX1_isSo_96 : decode cX1_isSo 96 = .ok (.aload_n 0, 1) := by decide +kernel
theorem dX1_isSo_97 : decode cX1_isSo 97 = .ok (.getfield 21, 3) := by decide +kernel
theorem dX1_isSo_100 : decode cX1_isSo 100 = .ok (.getfield 193, 3) := by decide +kernel
theorem dX1_isSo_103 : decode cX1_isSo 103 = .ok (.aload_n 0, 1) := by decide +kernel
theorem dX1_isSo_104 : decode cX1_isSo 104 = .ok (.getfield 42, 3) := by decide +kernel
theorem dX1_isSo_107 : decode cX1_isSo 107 = .ok (.iload_n 1, 1) := by decide +kernel
theorem dX1_isSo_108 : decode cX1_isSo 108 = .ok (.iconst 1, 1) := by decide +kernel
theorem dX1_isSo_109 : decode cX1_isSo 109 = .ok (.iadd, 1) := by decide +kernel
theorem dX1_isSo_110 : decode cX1_isSo 110 = .ok (.aaload, 1) := by decide +kernel
theorem dX1_isSo_111 : decode cX1_isSo 111 = .ok (.invokestatic 107, 3) := by decide +kernel
theorem dX1_isSo_114 : decode cX1_isSo 114 = .ok (.iinc 4 1, 3) := by decide +kernel
theorem dX1_isSo_117 : decode cX1_isSo 117 = .ok (.goto (-66), 3) := by decide +kernel
theorem dX1_isSo_120 : decode cX1_isSo 120 = .ok (.iconst 1, 1) := by decide +kernel
theorem dX1_isSo_121 : decode cX1_isSo 121 = .ok (.ireturn, 1) := by decide +kernel
theorem dX1_findLook_0 : decode cX1_findLook 0 = .ok (.aload_n 0, 1) := by decide +kernel
theorem dX1_findLook_1 : decode cX1_findLook 1 = .ok (.bipush 8, 2) := by decide +kernel
theorem dX1_findLook_3 : decode cX1_findLook 3 = .ok (.putfield 97, 3) := by decide +kernel
theorem dX1_findLook_6 : decode cX1_findLook 6 = .ok (.iconst 0, 1) := by decide +kernel
theorem dX1_findLook_7 : decode cX1_findLook 7 = .ok (.istore_n 1, 1) := by decide +kernel
theorem dX1_findLook_8 : decode cX1_findLook 8 = .ok (.iload_n 1, 1) := by decide +kernel
theorem dX1_findLook_9 : decode cX1_findLook 9 = .ok (.aload_n 0, 1) := by decide +kernel
theorem dX1_findLook_10 : decode cX1_findLook 10 = .ok (.getfield 48, 3) := by decide +kernel
theorem dX1_findLook_13 : decode cX1_findLook 13 = .ok (.getfield 65, 3) := by decide +kernel
theorem dX1_findLook_16 : decode cX1_findLook 16 = .ok (.getfield 111, 3) := by decide +kernel
theorem dX1_findLook_19 : decode cX1_findLook 19 = .ok (.if_icmp .ge 33, 3) := by decide +kernel
theorem dX1_findLook_22 : decode cX1_findLook 22 = .ok (.aload_n 0, 1) := by decide +kernel
theorem dX1_findLook_23 : decode cX1_findLook 23 = .ok (.iload_n 1, 1) := by decide +kernel
theorem dX1_findLook_24 : decode cX1_findLook 24 = .ok (.invokevirtual 200, 3) := by decide +kernel
theorem dX1_findLook_27 : decode cX1_findLook 27 = .ok (.istore_n 2, 1) := by decide +kernel
theorem dX1_findLook_28 : decode cX1_findLook 28 = .ok (.iload_n 2, 1) := by decide +kernel
theorem dX1_findLook_29 : decode cX1_findLook 29 = .ok (.aload_n 0, 1) := by decide +kernel
theorem dX1_findLook_30 : decode cX1_findLook 30 = .ok (.getfield 97, 3) := by decide +kernel
theorem dX1_findLook_33 : decode cX1_findLook 33 = .ok (.if_icmp .ge 13, 3) := by decide +kernel
theorem dX1_findLook_36 : decode cX1_findLook 36 = .ok (.aload_n 0, 1) := by decide +kernel
theorem dX1_findLook_37 : decode cX1_findLook 37 = .ok (.iload_n 2, 1) := by decide +kernel
theorem dX1_findLook_38 : decode cX1_findLook 38 = .ok (.putfield 97, 3) := by decide +kernel
theorem dX1_findLook_41 : decode cX1_findLook 41 = .ok (.aload_n 0, 1) := by decide +kernel
theorem dX1_findLook_42 : decode cX1_findLook 42 = .ok (.iload_n 1, 1) := by decide +kernel
theorem dX1_findLook_43 : decode cX1_findLook 43 = .ok (.putfield 138, 3) := by decide +kernel
theorem dX1_findLook_46 : decode cX1_findLook 46 = .ok (.iinc 1 1, 3) := by decide +kernel
theorem dX1_findLook_49 : decode cX1_findLook 49 = .ok (.goto (-41), 3) := by decide +kernel
theorem dX1_findLook_52 : decode cX1_findLook 52 = .ok (.return_, 1) := by decide +kernel
theorem dX1_mostAlike_0 : decode cX1_mostAlike 0 = .ok (.iconst 0, 1) := by decide +kernel
theorem dX1_mostAlike_1 : decode cX1_mostAlike 1 = .ok (.istore_n 2, 1) := by decide +kernel
theorem dX1_mostAlike_2 : decode cX1_mostAlike 2 = .ok (.iconst 0, 1) := by decide +kernel
theorem dX1_mostAlike_3 : decode cX1_mostAlike 3 = .ok (.istore_n 3, 1) := by decide +kernel
theorem dX1_mostAlike_4 : decode cX1_mostAlike 4 = .ok (.iload_n 3, 1) := by decide +kernel
theorem dX1_mostAlike_5 : decode cX1_mostAlike 5 = .ok (.aload_n 0, 1) := by decide +kernel
theorem dX1_mostAlike_6 : decode cX1_mostAlike 6 = .ok (.getfield 36, 3) := by decide +kernel
theorem dX1_mostAlike_9 : decode cX1_mostAlike 9 = .ok (.arraylength, 1) := by decide +kernel
theorem dX1_mostAlike_10 : decode cX1_mostAlike 10 = .ok (.if_icmp .ge 80, 3) := by decide +kernel
theorem dX1_mostAlike_13 : decode cX1_mostAlike 13 = .ok (.iconst 0, 1) := by decide +kernel
theorem dX1_mostAlike_14 : decode cX1_mostAlike 14 = .ok (.istore 4, 2) := by decide +kernel
theorem dX1_mostAlike_16 : decode cX1_mostAlike 16 = .ok (.iconst 0, 1) := by decide +kernel
theorem dX1_mostAlike_17 : decode cX1_mostAlike 17 = .ok (.istore 5, 2) := by decide +kernel
theorem dX1_mostAlike_19 : decode cX1_mostAlike 19 = .ok (.iload 5, 2) := by decide +kernel
theorem dX1_mostAlike_21 : decode cX1_mostAlike 21 = .ok (.aload_n 0, 1) := by decide +kernel
theorem dX1_mostAlike_22 : decode cX1_mostAlike 22 = .ok (.getfield 36, 3) := by decide +kernel
theorem dX1_mostAlike_25 : decode cX1_mostAlike 25 = .ok (.arraylength, 1) := by decide +kernel
theorem dX1_mostAlike_26 : decode cX1_mostAlike 26 = .ok (.if_icmp .ge 51, 3) := by decide +kernel
theorem dX1_mostAlike_29 : decode cX1_mostAlike 29 = .ok (.aload_n 0, 1) := by decide +kernel
theorem dX1_mostAlike_30 : decode cX1_mostAlike 30 = .ok (.getfield 36, 3) := by decide +kernel
theorem dX1_mostAlike_33 : decode cX1_mostAlike 33 = .ok (.iload_n 3, 1) := by decide +kernel
theorem dX1_mostAlike_34 : decode cX1_mostAlike 34 = .ok (.baload, 1) := by decide +kernel
theorem dX1_mostAlike_35 : decode cX1_mostAlike 35 = .ok (.ifCond .eq 36, 3) := by decide +kernel
theorem dX1_mostAlike_38 : decode cX1_mostAlike 38 = .ok (.aload_n 0, 1) := by decide +kernel
theorem dX1_mostAlike_39 : decode cX1_mostAlike 39 = .ok (.getfield 36, 3) := by decide +kernel
theorem dX1_mostAlike_42 : decode cX1_mostAlike 42 = .ok (.iload 5, 2) := by decide +kernel
theorem dX1_mostAlike_44 : decode cX1_mostAlike 44 = .ok (.baload, 1) := by decide +kernel
theorem dX1_mostAlike_45 : decode cX1_mostAlike 45 = .ok (.ifCond .eq 26, 3) := by decide +kernel
theorem dX1_mostAlike_48 : decode cX1_mostAlike 48 = .ok (.aload_n 0, 1) := by decide +kernel
theorem dX1_mostAlike_49 : decode cX1_mostAlike 49 = .ok (.getfield 42, 3) := by decide +kernel
theorem dX1_mostAlike_52 : decode cX1_mostAlike 52 = .ok (.iload_n 3, 1) := by decide +kernel
theorem dX1_mostAlike_53 : decode cX1_mostAlike 53 = .ok (.aaload, 1) := by decide +kernel
theorem dX1_mostAlike_54 : decode cX1_mostAlike 54 = .ok (.iload_n 1, 1) := by decide +kernel
theorem dX1_mostAlike_55 : decode cX1_mostAlike 55 = .ok (.iaload, 1) := by decide +kernel
theorem dX1_mostAlike_56 : decode cX1_mostAlike 56 = .ok (.aload_n 0, 1) := by decide +kernel
theorem dX1_mostAlike_57 : decode cX1_mostAlike 57 = .ok (.getfield 42, 3) := by decide +kernel
theorem dX1_mostAlike_60 : decode cX1_mostAlike 60 = .ok (.iload 5, 2) := by decide +kernel
theorem dX1_mostAlike_62 : decode cX1_mostAlike 62 = .ok (.aaload, 1) := by decide +kernel
theorem dX1_mostAlike_63 : decode cX1_mostAlike 63 = .ok (.iload_n 1, 1) := by decide +kernel
theorem dX1_mostAlike_64 : decode cX1_mostAlike 64 = .ok (.iaload, 1) := by decide +kernel
theorem dX1_mostAlike_65 : decode cX1_mostAlike 65 = .ok (.if_icmp .ne 6, 3) := by decide +kernel
theorem dX1_mostAlike_68 : decode cX1_mostAlike 68 = .ok (.iinc 4 1, 3) := by decide +kernel
theorem dX1_mostAlike_71 : decode cX1_mostAlike 71 = .ok (.iinc 5 1, 3) := by decide +kernel
theorem dX1_mostAlike_74 : decode cX1_mostAlike 74 = .ok (.goto (-55), 3) := by decide +kernel
theorem dX1_mostAlike_77 : decode cX1_mostAlike 77 = .ok (.iload_n 2, 1) := by decide +kernel
theorem dX1_mostAlike_78 : decode cX1_mostAlike 78 = .ok (.iload 4, 2) := by decide +kernel
theorem dX1_mostAlike_80 : decode cX1_mostAlike 80 = .ok (.invokestatic 187, 3) := by decide +kernel
theorem dX1_mostAlike_83 : decode cX1_mostAlike 83 = .ok (.istore_n 2, 1) := by decide +kernel
theorem dX1_mostAlike_84 : decode cX1_mostAlike 84 = .ok (.iinc 3 1, 3) := by decide +kernel
theorem dX1_mostAlike_87 : decode cX1_mostAlike 87 = .ok (.goto (-83), 3) := by decide +kernel
theorem dX1_mostAlike_90 : decode cX1_mostAlike 90 = .ok (.iload_n 2, 1) := by decide +kernel
theorem dX1_mostAlike_91 : decode cX1_mostAlike 91 = .ok (.ireturn, 1) := by decide +kernel
theorem dX1_drawSummers_0 : decode cX1_drawSummers 0 = .ok (.aload_n 0, 1) := by decide +kernel
theorem dX1_drawSummers_1 : decode cX1_drawSummers 1 = .ok (.getfield 48, 3) := by decide +kernel
theorem dX1_drawSummers_4 : decode cX1_drawSummers 4 = .ok (.getfield 203, 3) := by decide +kernel
theorem dX1_drawSummers_7 : decode cX1_drawSummers 7 = .ok (.istore 4, 2) := by decide +kernel
theorem dX1_drawSummers_9 : decode cX1_drawSummers 9 = .ok (.aload_n 0, 1) := by decide +kernel
theorem dX1_drawSummers_10 : decode cX1_drawSummers 10 = .ok (.iconst 0, 1) := by decide +kernel
theorem dX1_drawSummers_11 : decode cX1_drawSummers 11 = .ok (.putfield 97, 3) := by decide +kernel
theorem dX1_drawSummers_14 : decode cX1_drawSummers 14 = .ok (.aload_n 0, 1) := by decide +kernel
theorem dX1_drawSummers_15 : decode cX1_drawSummers 15 = .ok (.iconst 0, 1) := by decide +kernel
theorem dX1_drawSummers_16 : decode cX1_drawSummers 16 = .ok (.putfield 138, 3) := by decide +kernel
theorem dX1_drawSummers_19 : decode cX1_drawSummers 19 = .ok (.iconst 0, 1) := by decide +kernel
theorem dX1_drawSummers_20 : decode cX1_drawSummers 20 = .ok (.istore 5, 2) := by decide +kernel
theorem dX1_drawSummers_22 : decode cX1_drawSummers 22 = .ok (.iload 5, 2) := by decide +kernel
theorem dX1_drawSummers_24 : decode cX1_drawSummers 24 = .ok (.iload_n 1, 1) := by decide +kernel
theorem dX1_drawSummers_25 : decode cX1_drawSummers 25 = .ok (.if_icmp .ge 134, 3) := by decide +kernel
theorem dX1_drawSummers_28 : decode cX1_drawSummers 28 = .ok (.aload_n 0, 1) := by decide +kernel
theorem dX1_drawSummers_29 : decode cX1_drawSummers 29 = .ok (.aload_n 0, 1) := by decide +kernel
theorem dX1_drawSummers_30 : decode cX1_drawSummers 30 = .ok (.getfield 21, 3) := by decide +kernel
theorem dX1_drawSummers_33 : decode cX1_drawSummers 33 = .ok (.invokevirtual 81, 3) := by decide +kernel
theorem dX1_drawSummers_36 : decode cX1_drawSummers 36 = .ok (.iconst 0, 1) := by decide +kernel
theorem dX1_drawSummers_37 : decode cX1_drawSummers 37 = .ok (.istore 6, 2) := by decide +kernel
theorem dX1_drawSummers_39 : decode cX1_drawSummers 39 = .ok (.iload 6, 2) := by decide +kernel
theorem dX1_drawSummers_41 : decode cX1_drawSummers 41 = .ok (.iload_n 2, 1) := by decide +kernel
theorem dX1_drawSummers_42 : decode cX1_drawSummers 42 = .ok (.if_icmp .ge 92, 3) := by decide +kernel
theorem dX1_drawSummers_45 : decode cX1_drawSummers 45 = .ok (.iload 4, 2) := by decide +kernel
theorem dX1_drawSummers_47 : decode cX1_drawSummers 47 = .ok (.invokestatic 206, 3) := by decide +kernel
theorem dX1_drawSummers_50 : decode cX1_drawSummers 50 = .ok (.istore 4, 2) := by decide +kernel
theorem dX1_drawSummers_52 : decode cX1_drawSummers 52 = .ok (.iload 4, 2) := by decide +kernel
theorem dX1_drawSummers_54 : decode cX1_drawSummers 54 = .ok (.bipush 16, 2) := by decide +kernel
theorem dX1_drawSummers_56 : decode cX1_drawSummers 56 = .ok (.ishr, 1) := by decide +kernel
theorem dX1_drawSummers_57 : decode cX1_drawSummers 57 = .ok (.bipush 100, 2) := by decide +kernel
theorem dX1_drawSummers_59 : decode cX1_drawSummers 59 = .ok (.irem, 1) := by decide +kernel
theorem dX1_drawSummers_60 : decode cX1_drawSummers 60 = .ok (.iload_n 3, 1) := by decide +kernel
theorem dX1_drawSummers_61 : decode cX1_drawSummers 61 = .ok (.if_icmp .ge 47, 3) := by decide +kernel
theorem dX1_drawSummers_64 : decode cX1_drawSummers 64 = .ok (.aload_n 0, 1) := by decide +kernel
theorem dX1_drawSummers_65 : decode cX1_drawSummers 65 = .ok (.getfield 48, 3) := by decide +kernel
theorem dX1_drawSummers_68 : decode cX1_drawSummers 68 = .ok (.getfield 65, 3) := by decide +kernel
theorem dX1_drawSummers_71 : decode cX1_drawSummers 71 = .ok (.getfield 111, 3) := by decide +kernel
theorem dX1_drawSummers_74 : decode cX1_drawSummers 74 = .ok (.ifCond .le 34, 3) := by decide +kernel
theorem dX1_drawSummers_77 : decode cX1_drawSummers 77 = .ok (.iload 4, 2) := by decide +kernel
theorem dX1_drawSummers_79 : decode cX1_drawSummers 79 = .ok (.invokestatic 206, 3) := by decide +kernel
theorem dX1_drawSummers_82 : decode cX1_drawSummers 82 = .ok (.istore 4, 2) := by decide +kernel
theorem dX1_drawSummers_84 : decode cX1_drawSummers 84 = .ok (.aload_n 0, 1) := by decide +kernel
theorem dX1_drawSummers_85 : decode cX1_drawSummers 85 = .ok (.getfield 21, 3) := by decide +kernel
theorem dX1_drawSummers_88 : decode cX1_drawSummers 88 = .ok (.iload 4, 2) := by decide +kernel
theorem dX1_drawSummers_90 : decode cX1_drawSummers 90 = .ok (.bipush 16, 2) := by decide +kernel
theorem dX1_drawSummers_92 : decode cX1_drawSummers 92 = .ok (.ishr, 1) := by decide +kernel
theorem dX1_drawSummers_93 : decode cX1_drawSummers 93 = .ok (.aload_n 0, 1) := by decide +kernel
theorem dX1_drawSummers_94 : decode cX1_drawSummers 94 = .ok (.getfield 48, 3) := by decide +kernel
theorem dX1_drawSummers_97 : decode cX1_drawSummers 97 = .ok (.getfield 65, 3) := by decide +kernel
theorem dX1_drawSummers_100 : decode cX1_drawSummers 100 = .ok (.getfield 111, 3) := by decide +kernel
theorem dX1_drawSummers_103 : decode cX1_drawSummers 103 = .ok (.irem, 1) := by decide +kernel
theorem dX1_drawSummers_104 : decode cX1_drawSummers 104 = .ok (.iconst 1, 1) := by decide +kernel
theorem dX1_drawSummers_105 : decode cX1_drawSummers 105 = .ok (.invokevirtual 145, 3) := by decide +kernel
theorem dX1_drawSummers_108 : decode cX1_drawSummers 108 = .ok (.aload_n 0, 1) := by decide +kernel
theorem dX1_drawSummers_109 : decode cX1_drawSummers 109 = .ok (.dup, 1) := by decide +kernel
theorem dX1_drawSummers_110 : decode cX1_drawSummers 110 = .ok (.getfield 138, 3) := by decide +kernel
theorem dX1_drawSummers_113 : decode cX1_drawSummers 113 = .ok (.aload_n 0, 1) := by decide +kernel
theorem dX1_drawSummers_114 : decode cX1_drawSummers 114 = .ok (.getfield 12, 3) := by decide +kernel
theorem dX1_drawSummers_117 : decode cX1_drawSummers 117 = .ok (.aload_n 0, 1) := by decide +kernel
theorem dX1_drawSummers_118 : decode cX1_drawSummers 118 = .ok (.getfield 21, 3) := by decide +kernel
theorem dX1_drawSummers_121 : decode cX1_drawSummers 121 = .ok (.invokevirtual 84, 3) := by decide +kernel
theorem dX1_drawSummers_124 : decode cX1_drawSummers 124 = .ok (.iadd, 1) := by decide +kernel
theorem dX1_drawSummers_125 : decode cX1_drawSummers 125 = .ok (.putfield 138, 3) := by decide +kernel
theorem dX1_drawSummers_128 : decode cX1_drawSummers 128 = .ok (.iinc 6 1, 3) := by decide +kernel
theorem dX1_drawSummers_131 : decode cX1_drawSummers 131 = .ok (.goto (-92), 3) := by decide +kernel
theorem dX1_drawSummers_134 : decode cX1_drawSummers 134 = .ok (.aload_n 0, 1) := by decide +kernel
theorem dX1_drawSummers_135 : decode cX1_drawSummers 135 = .ok (.dup, 1) := by decide +kernel
theorem dX1_drawSummers_136 : decode cX1_drawSummers 136 = .ok (.getfield 97, 3) := by decide +kernel
theorem dX1_drawSummers_139 : decode cX1_drawSummers 139 = .ok (.aload_n 0, 1) := by decide +kernel
theorem dX1_drawSummers_140 : decode cX1_drawSummers 140 = .ok (.getfield 21, 3) := by decide +kernel
theorem dX1_drawSummers_143 : decode cX1_drawSummers 143 = .ok (.getfield 104, 3) := by decide +kernel
theorem dX1_drawSummers_146 : decode cX1_drawSummers 146 = .ok (.invokestatic 134, 3) := by decide +kernel
theorem dX1_drawSummers_149 : decode cX1_drawSummers 149 = .ok (.iadd, 1) := by decide +kernel
theorem dX1_drawSummers_150 : decode cX1_drawSummers 150 = .ok (.putfield 97, 3) := by decide +kernel
theorem dX1_drawSummers_153 : decode cX1_drawSummers 153 = .ok (.iinc 5 1, 3) := by decide +kernel
theorem dX1_drawSummers_156 : decode cX1_drawSummers 156 = .ok (.goto (-134), 3) := by decide +kernel
theorem dX1_drawSummers_159 : decode cX1_drawSummers 159 = .ok (.return_, 1) := by decide +kernel
theorem dX1_nextDrawn_0 : decode cX1_nextDrawn 0 = .ok (.iload_n 0, 1) := by decide +kernel
theorem dX1_nextDrawn_1 : decode cX1_nextDrawn 1 = .ok (.i2l, 1) := by decide +kernel
theorem dX1_nextDrawn_2 : decode cX1_nextDrawn 2 = .ok (.ldc2_w 209, 3) := by decide +kernel
theorem dX1_nextDrawn_5 : decode cX1_nextDrawn 5 = .ok (.lmul, 1) := by decide +kernel
theorem dX1_nextDrawn_6 : decode cX1_nextDrawn 6 = .ok (.ldc2_w 211, 3) := by decide +kernel
theorem dX1_nextDrawn_9 : decode cX1_nextDrawn 9 = .ok (.ladd, 1) := by decide +kernel
theorem dX1_nextDrawn_10 : decode cX1_nextDrawn 10 = .ok (.ldc2_w 213, 3) := by decide +kernel
theorem dX1_nextDrawn_13 : decode cX1_nextDrawn 13 = .ok (.land, 1) := by decide +kernel
theorem dX1_nextDrawn_14 : decode cX1_nextDrawn 14 = .ok (.l2i, 1) := by decide +kernel
theorem dX1_nextDrawn_15 : decode cX1_nextDrawn 15 = .ok (.ireturn, 1) := by decide +kernel
theorem dX2_init_0 : decode cX2_init 0 = .ok (.aload_n 0, 1) := by decide +kernel
theorem dX2_init_1 : decode cX2_init 1 = .ok (.invokespecial 3, 3) := by decide +kernel
theorem dX2_init_4 : decode cX2_init 4 = .ok (.aload_n 0, 1) := by decide +kernel
theorem dX2_init_5 : decode cX2_init 5 = .ok (.sipush 400, 3) := by decide +kernel
theorem dX2_init_8 : decode cX2_init 8 = .ok (.newarray .int, 2) := by decide +kernel
theorem dX2_init_10 : decode cX2_init 10 = .ok (.putfield 9, 3) := by decide +kernel
theorem dX2_init_13 : decode cX2_init 13 = .ok (.aload_n 0, 1) := by decide +kernel
theorem dX2_init_14 : decode cX2_init 14 = .ok (.sipush 401, 3) := by decide +kernel
theorem dX2_init_17 : decode cX2_init 17 = .ok (.newarray .int, 2) := by decide +kernel
theorem dX2_init_19 : decode cX2_init 19 = .ok (.putfield 15, 3) := by decide +kernel
theorem dX2_init_22 : decode cX2_init 22 = .ok (.aload_n 0, 1) := by decide +kernel
theorem dX2_init_23 : decode cX2_init 23 = .ok (.sipush 401, 3) := by decide +kernel
theorem dX2_init_26 : decode cX2_init 26 = .ok (.newarray .int, 2) := by decide +kernel
theorem dX2_init_28 : decode cX2_init 28 = .ok (.putfield 18, 3) := by decide +kernel
theorem dX2_init_31 : decode cX2_init 31 = .ok (.aload_n 0, 1) := by decide +kernel
theorem dX2_init_32 : decode cX2_init 32 = .ok (.sipush 401, 3) := by decide +kernel
theorem dX2_init_35 : decode cX2_init 35 = .ok (.newarray .int, 2) := by decide +kernel
theorem dX2_init_37 : decode cX2_init 37 = .ok (.putfield 21, 3) := by decide +kernel
theorem dX2_init_40 : decode cX2_init 40 = .ok (.return_, 1) := by decide +kernel
theorem dX2_putNumber_0 : decode cX2_putNumber 0 = .ok (.bipush 24, 2) := by decide +kernel
theorem dX2_putNumber_2 : decode cX2_putNumber 2 = .ok (.istore_n 2, 1) := by decide +kernel
theorem dX2_putNumber_3 : decode cX2_putNumber 3 = .ok (.iload_n 2, 1) := by decide +kernel
theorem dX2_putNumber_4 : decode cX2_putNumber 4 = .ok (.ifCond .lt 45, 3) := by decide +kernel
theorem dX2_putNumber_7 : decode cX2_putNumber 7 = .ok (.aload_n 0, 1) := by decide +kernel
theorem dX2_putNumber_8 : decode cX2_putNumber 8 = .ok (.getfield 24, 3) := by decide +kernel
theorem dX2_putNumber_11 : decode cX2_putNumber 11 = .ok (.sipush 400, 3) := by decide +kernel
theorem dX2_putNumber_14 : decode cX2_putNumber 14 = .ok (.if_icmp .ge 29, 3) := by decide +kernel
theorem dX2_putNumber_17 : decode cX2_putNumber 17 = .ok (.aload_n 0, 1) := by decide +kernel
theorem dX2_putNumber_18 : decode cX2_putNumber 18 = .ok (.getfield 9, 3) := by decide +kernel
theorem dX2_putNumber_21 : decode cX2_putNumber 21 = .ok (.aload_n 0, 1) := by decide +kernel
theorem dX2_putNumber_22 : decode cX2_putNumber 22 = .ok (.getfield 24, 3) := by decide +kernel
theorem dX2_putNumber_25 : decode cX2_putNumber 25 = .ok (.iload_n 1, 1) := by decide +kernel
theorem dX2_putNumber_26 : decode cX2_putNumber 26 = .ok (.iload_n 2, 1) := by decide +kernel
theorem dX2_putNumber_27 : decode cX2_putNumber 27 = .ok (.iushr, 1) := by decide +kernel
theorem dX2_putNumber_28 : decode cX2_putNumber 28 = .ok (.sipush 255, 3) := by decide +kernel
theorem dX2_putNumber_31 : decode cX2_putNumber 31 = .ok (.iand, 1) := by decide +kernel
theorem dX2_putNumber_32 : decode cX2_putNumber 32 = .ok (.iastore, 1) := by decide +kernel
theorem dX2_putNumber_33 : decode cX2_putNumber 33 = .ok (.aload_n 0, 1) := by decide +kernel
theorem dX2_putNumber_34 : decode cX2_putNumber 34 = .ok (.dup, 1) := by decide +kernel
theorem dX2_putNumber_35 : decode cX2_putNumber 35 = .ok (.getfield 24, 3) := by decide +kernel
theorem dX2_putNumber_38 : decode cX2_putNumber 38 = .ok (.iconst 1, 1) := by decide +kernel
theorem dX2_putNumber_39 : decode cX2_putNumber 39 = .ok (.iadd, 1) := by decide +kernel
theorem dX2_putNumber_40 : decode cX2_putNumber 40 = .ok (.putfield 24, 3) := by decide +kernel
theorem dX2_putNumber_43 : decode cX2_putNumber 43 = .ok (.iinc 2 (-8), 3) := by decide +kernel
theorem dX2_putNumber_46 : decode cX2_putNumber 46 = .ok (.goto (-43), 3) := by decide +kernel
theorem dX2_putNumber_49 : decode cX2_putNumber 49 = .ok (.return_, 1) := by decide +kernel
theorem dX2_split_0 : decode cX2_split 0 = .ok (.aload_n 0, 1) := by decide +kernel
theorem dX2_split_1 : decode cX2_split 1 = .ok (.iconst 0, 1) := by decide +kernel
theorem dX2_split_2 : decode cX2_split 2 = .ok (.putfield 28, 3) := by decide +kernel
theorem dX2_split_5 : decode cX2_split 5 = .ok (.aload_n 0, 1) := by decide +kernel
theorem dX2_split_6 : decode cX2_split 6 = .ok (.iconst 0, 1) := by decide +kernel
theorem dX2_split_7 : decode cX2_split 7 = .ok (.putfield 31, 3) := by decide +kernel
theorem dX2_split_10 : decode cX2_split 10 = .ok (.aload_n 0, 1) := by decide +kernel
theorem dX2_split_11 : decode cX2_split 11 = .ok (.iconst 0, 1) := by decide +kernel
theorem dX2_split_12 : decode cX2_split 12 = .ok (.putfield 34, 3) := by decide +kernel
theorem dX2_split_15 : decode cX2_split 15 = .ok (.iconst 0, 1) := by decide +kernel
theorem dX2_split_16 : decode cX2_split 16 = .ok (.istore_n 1, 1) := by decide +kernel
theorem dX2_split_17 : decode cX2_split 17 = .ok (.iconst 0, 1) := by decide +kernel
theorem dX2_split_18 : decode cX2_split 18 = .ok (.istore_n 2, 1) := by decide +kernel
theorem dX2_split_19 : decode cX2_split 19 = .ok (.iload_n 2, 1) := by decide +kernel
theorem dX2_split_20 : decode cX2_split 20 = .ok (.sipush 400, 3) := by decide +kernel
theorem dX2_split_23 : decode cX2_split 23 = .ok (.if_icmp .ge 99, 3) := by decide +kernel
theorem dX2_split_26 : decode cX2_split 26 = .ok (.iload_n 1, 1) := by decide +kernel
theorem dX2_split_27 : decode cX2_split 27 = .ok (.aload_n 0, 1) := by decide +kernel
theorem dX2_split_28 : decode cX2_split 28 = .ok (.getfield 24, 3) := by decide +kernel
theorem dX2_split_31 : decode cX2_split 31 = .ok (.if_icmp .ge 91, 3) := by decide +kernel
theorem dX2_split_34 : decode cX2_split 34 = .ok (.aload_n 0, 1) := by decide +kernel
theorem dX2_split_35 : decode cX2_split 35 = .ok (.getfield 9, 3) := by decide +kernel
theorem dX2_split_38 : decode cX2_split 38 = .ok (.iload_n 1, 1) := by decide +kernel
theorem dX2_split_39 : decode cX2_split 39 = .ok (.iaload, 1) := by decide +kernel
theorem dX2_split_40 : decode cX2_split 40 = .ok (.istore_n 3, 1) := by decide +kernel
theorem dX2_split_41 : decode cX2_split 41 = .ok (.iload_n 1, 1) := by decide +kernel
theorem dX2_split_42 : decode cX2_split 42 = .ok (.iconst 1, 1) := by decide +kernel
theorem dX2_split_43 : decode cX2_split 43 = .ok (.iadd, 1) := by decide +kernel
theorem dX2_split_44 : decode cX2_split 44 = .ok (.istore 4, 2) := by decide +kernel
theorem dX2_split_46 : decode cX2_split 46 = .ok (.iload_n 3, 1) := by decide +kernel
theorem dX2_split_47 : decode cX2_split 47 = .ok (.invokestatic 37, 3) := by decide +kernel
theorem dX2_split_50 : decode cX2_split 50 = .ok (.ifCond .eq 20, 3) := by decide +kernel
theorem dX2_split_53 : decode cX2_split 53 = .ok (.aload_n 0, 1) := by decide +kernel
theorem dX2_split_54 : decode cX2_split 54 = .ok (.iload_n 1, 1) := by decide +kernel
theorem dX2_split_55 : decode cX2_split 55 = .ok (.invokevirtual 41, 3) := by decide +kernel
theorem dX2_split_58 : decode cX2_split 58 = .ok (.istore 4, 2) := by decide +kernel
theorem dX2_split_60 : decode cX2_split 60 = .ok (.aload_n 0, 1) := by decide +kernel
theorem dX2_split_61 : decode cX2_split 61 = .ok (.iload_n 1, 1) := by decide +kernel
theorem dX2_split_62 : decode cX2_split 62 = .ok (.iload 4, 2) := by decide +kernel
theorem dX2_split_64 : decode cX2_split 64 = .ok (.invokevirtual 45, 3) := by decide +kernel
theorem dX2_split_67 : decode cX2_split 67 = .ok (.goto 46, 3) := by decide +kernel
theorem dX2_split_70 : decode cX2_split 70 = .ok (.iload_n 3, 1) := by decide +kernel
theorem dX2_split_71 : decode cX2_split 71 = .ok (.invokestatic 49, 3) := by decide +kernel
theorem dX2_split_74 : decode cX2_split 74 = .ok (.ifCond .eq 26, 3) := by decide +kernel
theorem dX2_split_77 : decode cX2_split 77 = .ok (.aload_n 0, 1) := by decide +kernel
theorem dX2_split_78 : decode cX2_split 78 = .ok (.iload_n 1, 1) := by decide +kernel
theorem dX2_split_79 : decode cX2_split 79 = .ok (.invokevirtual 52, 3) := by decide +kernel
theorem dX2_split_82 : decode cX2_split 82 = .ok (.istore 4, 2) := by decide +kernel
theorem dX2_split_84 : decode cX2_split 84 = .ok (.aload_n 0, 1) := by decide +kernel
theorem dX2_split_85 : decode cX2_split 85 = .ok (.aload_n 0, 1) := by decide +kernel
theorem dX2_split_86 : decode cX2_split 86 = .ok (.iload_n 1, 1) := by decide +kernel
theorem dX2_split_87 : decode cX2_split 87 = .ok (.iload 4, 2) := by decide +kernel
theorem dX2_split_89 : decode cX2_split 89 = .ok (.invokevirtual 55, 3) := by decide +kernel
theorem dX2_split_92 : decode cX2_split 92 = .ok (.iload_n 1, 1) := by decide +kernel
theorem dX2_split_93 : decode cX2_split 93 = .ok (.iconst 0, 1) := by decide +kernel
theorem dX2_split_94 : decode cX2_split 94 = .ok (.invokevirtual 59, 3) := by decide +kernel
theorem dX2_split_97 : decode cX2_split 97 = .ok (.goto 16, 3) := by decide +kernel
theorem dX2_split_100 : decode cX2_split 100 = .ok (.iload_n 3, 1) := by decide +kernel
theorem dX2_split_101 : decode cX2_split 101 = .ok (.bipush 32, 2) := by decide +kernel
theorem dX2_split_103 : decode cX2_split 103 = .ok (.if_icmp .eq 10, 3) := by decide +kernel
theorem dX2_split_106 : decode cX2_split 106 = .ok (.aload_n 0, 1) := by decide +kernel
theorem dX2_split_107 : decode cX2_split 107 = .ok (.iload_n 1, 1) := by decide +kernel
theorem dX2_split_108 : decode cX2_split 108 = .ok (.invokevirtual 63, 3) := by decide +kernel
theorem dX2_split_111 : decode cX2_split 111 = .ok (.istore 4, 2) := by decide +kernel
theorem dX2_split_113 : decode cX2_split 113 = .ok (.iload 4, 2) := by decide +kernel
theorem dX2_split_115 : decode cX2_split 115 = .ok (.istore_n 1, 1) := by decide +kernel
theorem dX2_split_116 : decode cX2_split 116 = .ok (.iinc 2 1, 3) := by decide +kernel
theorem dX2_split_119 : decode cX2_split 119 = .ok (.goto (-100), 3) := by decide +kernel
theorem dX2_split_122 : decode cX2_split 122 = .ok (.aload_n 0, 1) := by decide +kernel
theorem dX2_split_123 : decode cX2_split 123 = .ok (.iconst 0, 1) := by decide +kernel
theorem dX2_split_124 : decode cX2_split 124 = .ok (.aload_n 0, 1) := by decide +kernel
theorem dX2_split_125 : decode cX2_split 125 = .ok (.getfield 24, 3) := by decide +kernel
theorem dX2_split_128 : decode cX2_split 128 = .ok (.iconst 0, 1) := by decide +kernel
theorem dX2_split_129 : decode cX2_split 129 = .ok (.invokevirtual 59, 3) := by decide +kernel
theorem dX2_split_132 : decode cX2_split 132 = .ok (.return_, 1) := by decide +kernel
theorem dX2_isDigit_0 : decode cX2_isDigit 0 = .ok (.iload_n 0, 1) := by decide +kernel
theorem dX2_isDigit_1 : decode cX2_isDigit 1 = .ok (.bipush 48, 2) := by decide +kernel
theorem dX2_isDigit_3 : decode cX2_isDigit 3 = .ok (.if_icmp .lt 13, 3) := by decide +kernel
theorem dX2_isDigit_6 : decode cX2_isDigit 6 = .ok (.iload_n 0, 1) := by decide +kernel
theorem dX2_isDigit_7 : decode cX2_isDigit 7 = .ok (.bipush 57, 2) := by decide +kernel
theorem dX2_isDigit_9 : decode cX2_isDigit 9 = .ok (.if_icmp .gt 7, 3) := by decide +kernel
theorem dX2_isDigit_12 : decode cX2_isDigit 12 = .ok (.iconst 1, 1) := by decide +kernel
theorem dX2_isDigit_13 : decode cX2_isDigit 13 = .ok (.goto 4, 3) := by decide +kernel
theorem dX2_isDigit_16 : decode cX2_isDigit 16 = .ok (.iconst 0, 1) := by decide +kernel
theorem dX2_isDigit_17 : decode cX2_isDigit 17 = .ok (.ireturn, 1) := by decide +kernel
theorem dX2_isLetter_0 : decode cX2_isLetter 0 = .ok (.iload_n 0, 1) := by decide +kernel
theorem dX2_isLetter_1 : decode cX2_isLetter 1 = .ok (.bipush 97, 2) := by decide +kernel
theorem dX2_isLetter_3 : decode cX2_isLetter 3 = .ok (.if_icmp .lt 13, 3) := by decide +kernel
theorem dX2_isLetter_6 : decode cX2_isLetter 6 = .ok (.iload_n 0, 1) := by decide +kernel
theorem dX2_isLetter_7 : decode cX2_isLetter 7 = .ok (.bipush 122, 2) := by decide +kernel
theorem dX2_isLetter_9 : decode cX2_isLetter 9 = .ok (.if_icmp .gt 7, 3) := by decide +kernel
theorem dX2_isLetter_12 : decode cX2_isLetter 12 = .ok (.iconst 1, 1) := by decide +kernel
theorem dX2_isLetter_13 : decode cX2_isLetter 13 = .ok (.goto 4, 3) := by decide +kernel
theorem dX2_isLetter_16 : decode cX2_isLetter 16 = .ok (.iconst 0, 1) := by decide +kernel
theorem dX2_isLetter_17 : decode cX2_isLetter 17 = .ok (.ireturn, 1) := by decide +kernel
theorem dX2_behindDigits_0 : decode cX2_behindDigits 0 = .ok (.iload_n 1, 1) := by decide +kernel
theorem dX2_behindDigits_1 : decode cX2_behindDigits 1 = .ok (.istore_n 2, 1) := by decide +kernel
theorem dX2_behindDigits_2 : decode cX2_behindDigits 2 = .ok (.iload_n 2, 1) := by decide +kernel
theorem dX2_behindDigits_3 : decode cX2_behindDigits 3 = .ok (.aload_n 0, 1) := by decide +kernel
theorem dX2_behindDigits_4 : decode cX2_behindDigits 4 = .ok (.getfield 24, 3) := by decide +kernel
theorem dX2_behindDigits_7 : decode cX2_behindDigits 7 = .ok (.if_icmp .ge 23, 3) := by decide +kernel
theorem dX2_behindDigits_10 : decode cX2_behindDigits 10 = .ok (.aload_n 0, 1) := by decide +kernel
theorem dX2_behindDigits_11 : decode cX2_behindDigits 11 = .ok (.getfield 9, 3) := by decide +kernel
theorem dX2_behindDigits_14 : decode cX2_behindDigits 14 = .ok (.iload_n 2, 1) := by decide +kernel
theorem dX2_behindDigits_15 : decode cX2_behindDigits 15 = .ok (.iaload, 1) := by decide +kernel
theorem dX2_behindDigits_16 : decode cX2_behindDigits 16 = .ok (.invokestatic 37, 3) := by decide +kernel
theorem dX2_behindDigits_19 : decode cX2_behindDigits 19 = .ok (.ifCond .ne 5, 3) := by decide +kernel
theorem dX2_behindDigits_22 : decode cX2_behindDigits 22 = .ok (.iload_n 2, 1) := by decide +kernel
theorem dX2_behindDigits_23 : decode cX2_behindDigits 23 = .ok (.ireturn, 1) := by decide +kernel
theorem dX2_behindDigits_24 : decode cX2_behindDigits 24 = .ok (.iinc 2 1, 3) := by decide +kernel
theorem dX2_behindDigits_27 : decode cX2_behindDigits 27 = .ok (.goto (-25), 3) := by decide +kernel
theorem dX2_behindDigits_30 : decode cX2_behindDigits 30 = .ok (.aload_n 0, 1) := by decide +kernel
theorem dX2_behindDigits_31 : decode cX2_behindDigits 31 = .ok (.getfield 24, 3) := by decide +kernel
theorem dX2_behindDigits_34 : decode cX2_behindDigits 34 = .ok (.ireturn, 1) := by decide +kernel
theorem dX2_behindLetters_0 : decode cX2_behindLetters 0 = .ok (.iload_n 1, 1) := by decide +kernel
theorem dX2_behindLetters_1 : decode cX2_behindLetters 1 = .ok (.istore_n 2, 1) := by decide +kernel
theorem dX2_behindLetters_2 : decode cX2_behindLetters 2 = .ok (.iload_n 2, 1) := by decide +kernel
theorem dX2_behindLetters_3 : decode cX2_behindLetters 3 = .ok (.aload_n 0, 1) := by decide +kernel
theorem dX2_behindLetters_4 : decode cX2_behindLetters 4 = .ok (.getfield 24, 3) := by decide +kernel
theorem dX2_behindLetters_7 : decode cX2_behindLetters 7 = .ok (.if_icmp .ge 23, 3) := by decide +kernel
theorem dX2_behindLetters_10 : decode cX2_behindLetters 10 = .ok (.aload_n 0, 1) := by decide +kernel
theorem dX2_behindLetters_11 : decode cX2_behindLetters 11 = .ok (.getfield 9, 3) := by decide +kernel
theorem dX2_behindLetters_14 : decode cX2_behindLetters 14 = .ok (.iload_n 2, 1) := by decide +kernel
theorem dX2_behindLetters_15 : decode cX2_behindLetters 15 = .ok (.iaload, 1) := by decide +kernel
theorem dX2_behindLetters_16 : decode cX2_behindLetters 16 = .ok (.invokestatic 49, 3) := by decide +kernel
theorem dX2_behindLetters_19 : decode cX2_behindLetters 19 = .ok (.ifCond .ne 5, 3) := by decide +kernel
theorem dX2_behindLetters_22 : decode cX2_behindLetters 22 = .ok (.iload_n 2, 1) := by decide +kernel
theorem dX2_behindLetters_23 : decode cX2_behindLetters 23 = .ok (.ireturn, 1) := by decide +kernel
theorem dX2_behindLetters_24 : decode cX2_behindLetters 24 = .ok (.iinc 2 1, 3) := by decide +kernel
theorem dX2_behindLetters_27 : decode cX2_behindLetters 27 = .ok (.goto (-25), 3) := by decide +kernel
theorem dX2_behindLetters_30 : decode cX2_behindLetters 30 = .ok (.aload_n 0, 1) := by decide +kernel
theorem dX2_behindLetters_31 : decode cX2_behindLetters 31 = .ok (.getfield 24, 3) := by decide +kernel
theorem dX2_behindLetters_34 : decode cX2_behindLetters 34 = .ok (.ireturn, 1) := by decide +kernel
theorem dX2_add_0 : decode cX2_add 0 = .ok (.aload_n 0, 1) := by decide +kernel
theorem dX2_add_1 : decode cX2_add 1 = .ok (.getfield 28, 3) := by decide +kernel
theorem dX2_add_4 : decode cX2_add 4 = .ok (.sipush 400, 3) := by decide +kernel
theorem dX2_add_7 : decode cX2_add 7 = .ok (.if_icmp .gt 43, 3) := by decide +kernel
theorem dX2_add_10 : decode cX2_add 10 = .ok (.aload_n 0, 1) := by decide +kernel
theorem dX2_add_11 : decode cX2_add 11 = .ok (.getfield 15, 3) := by decide +kernel
theorem dX2_add_14 : decode cX2_add 14 = .ok (.aload_n 0, 1) := by decide +kernel
theorem dX2_add_15 : decode cX2_add 15 = .ok (.getfield 28, 3) := by decide +kernel
theorem dX2_add_18 : decode cX2_add 18 = .ok (.iload_n 1, 1) := by decide +kernel
theorem dX2_add_19 : decode cX2_add 19 = .ok (.iastore, 1) := by decide +kernel
theorem dX2_add_20 : decode cX2_add 20 = .ok (.aload_n 0, 1) := by decide +kernel
theorem dX2_add_21 : decode cX2_add 21 = .ok (.getfield 18, 3) := by decide +kernel
theorem dX2_add_24 : decode cX2_add 24 = .ok (.aload_n 0, 1) := by decide +kernel
theorem dX2_add_25 : decode cX2_add 25 = .ok (.getfield 28, 3) := by decide +kernel
theorem dX2_add_28 : decode cX2_add 28 = .ok (.iload_n 2, 1) := by decide +kernel
theorem dX2_add_29 : decode cX2_add 29 = .ok (.iastore, 1) := by decide +kernel
theorem dX2_add_30 : decode cX2_add 30 = .ok (.aload_n 0, 1) := by decide +kernel
theorem dX2_add_31 : decode cX2_add 31 = .ok (.getfield 21, 3) := by decide +kernel
theorem dX2_add_34 : decode cX2_add 34 = .ok (.aload_n 0, 1) := by decide +kernel
theorem dX2_add_35 : decode cX2_add 35 = .ok (.getfield 28, 3) := by decide +kernel
theorem dX2_add_38 : decode cX2_add 38 = .ok (.iload_n 3, 1) := by decide +kernel
theorem dX2_add_39 : decode cX2_add 39 = .ok (.iastore, 1) := by decide +kernel
theorem dX2_add_40 : decode cX2_add 40 = .ok (.aload_n 0, 1) := by decide +kernel
theorem dX2_add_41 : decode cX2_add 41 = .ok (.dup, 1) := by decide +kernel
theorem dX2_add_42 : decode cX2_add 42 = .ok (.getfield 28, 3) := by decide +kernel
theorem dX2_add_45 : decode cX2_add 45 = .ok (.iconst 1, 1) := by decide +kernel
theorem dX2_add_46 : decode cX2_add 46 = .ok (.iadd, 1) := by decide +kernel
theorem dX2_add_47 : decode cX2_add 47 = .ok (.putfield 28, 3) := by decide +kernel
theorem dX2_add_50 : decode cX2_add 50 = .ok (.return_, 1) := by decide +kernel
theorem dX2_addNumber_0 : decode cX2_addNumber 0 = .ok (.iload_n 2, 1) := by decide +kernel
theorem dX2_addNumber_1 : decode cX2_addNumber 1 = .ok (.iload_n 1, 1) := by decide +kernel
theorem dX2_addNumber_2 : decode cX2_addNumber 2 = .ok (.isub, 1) := by decide +kernel
theorem dX2_addNumber_3 : decode cX2_addNumber 3 = .ok (.iconst 5, 1) := by decide +kernel
theorem dX2_addNumber_4 : decode cX2_addNumber 4 = .ok (.if_icmp .le 11, 3) := by decide +kernel
theorem dX2_addNumber_7 : decode cX2_addNumber 7 = .ok (.aload_n 0, 1) := by decide +kernel
theorem dX2_addNumber_8 : decode cX2_addNumber 8 = .ok (.iconst 2, 1) := by decide +kernel
theorem dX2_addNumber_9 : decode cX2_addNumber 9 = .ok (.iload_n 1, 1) := by decide +kernel
theorem dX2_addNumber_10 : decode cX2_addNumber 10 = .ok (.iconst 0, 1) := by decide +kernel
theorem dX2_addNumber_11 : decode cX2_addNumber 11 = .ok (.invokevirtual 59, 3) := by decide +kernel
theorem dX2_addNumber_14 : decode cX2_addNumber 14 = .ok (.return_, 1) := by decide +kernel
theorem dX2_addNumber_15 : decode cX2_addNumber 15 = .ok (.iconst 0, 1) := by decide +kernel
theorem dX2_addNumber_16 : decode cX2_addNumber 16 = .ok (.istore_n 3, 1) := by decide +kernel
theorem dX2_addNumber_17 : decode cX2_addNumber 17 = .ok (.iload_n 1, 1) := by decide +kernel
theorem dX2_addNumber_18 : decode cX2_addNumber 18 = .ok (.istore 4, 2) := by decide +kernel
theorem dX2_addNumber_20 : decode cX2_addNumber 20 = .ok (.iload 4, 2) := by decide +kernel
theorem dX2_addNumber_22 : decode cX2_addNumber 22 = .ok (.iload_n 2, 1) := by decide +kernel
theorem dX2_addNumber_23 : decode cX2_addNumber 23 = .ok (.if_icmp .ge 25, 3) := by decide +kernel
theorem dX2_addNumber_26 : decode cX2_addNumber 26 = .ok (.iload_n 3, 1) := by decide +kernel
theorem dX2_addNumber_27 : decode cX2_addNumber 27 = .ok (.bipush 10, 2) := by decide +kernel
theorem dX2_addNumber_29 : decode cX2_addNumber 29 = .ok (.imul, 1) := by decide +kernel
theorem dX2_addNumber_30 : decode cX2_addNumber 30 = .ok (.aload_n 0, 1) := by decide +kernel
theorem dX2_addNumber_31 : decode cX2_addNumber 31 = .ok (.getfield 9, 3) := by decide +kernel
theorem dX2_addNumber_34 : decode cX2_addNumber 34 = .ok (.iload 4, 2) := by decide +kernel
theorem dX2_addNumber_36 : decode cX2_addNumber 36 = .ok (.iaload, 1) := by decide +kernel
theorem dX2_addNumber_37 : decode cX2_addNumber 37 = .ok (.iadd, 1) := by decide +kernel
theorem dX2_addNumber_38 : decode cX2_addNumber 38 = .ok (.bipush 48, 2) := by decide +kernel
theorem dX2_addNumber_40 : decode cX2_addNumber 40 = .ok (.isub, 1) := by decide +kernel
theorem dX2_addNumber_41 : decode cX2_addNumber 41 = .ok (.istore_n 3, 1) := by decide +kernel
theorem dX2_addNumber_42 : decode cX2_addNumber 42 = .ok (.iinc 4 1, 3) := by decide +kernel
theorem dX2_addNumber_45 : decode cX2_addNumber 45 = .ok (.goto (-25), 3) := by decide +kernel
theorem dX2_addNumber_48 : decode cX2_addNumber 48 = .ok (.aload_n 0, 1) := by decide +kernel
theorem dX2_addNumber_49 : decode cX2_addNumber 49 = .ok (.iconst 1, 1) := by decide +kernel
theorem dX2_addNumber_50 : decode cX2_addNumber 50 = .ok (.iload_n 1, 1) := by decide +kernel
theorem dX2_addNumber_51 : decode cX2_addNumber 51 = .ok (.iload_n 3, 1) := by decide +kernel
theorem dX2_addNumber_52 : decode cX2_addNumber 52 = .ok (.invokevirtual 59, 3) := by decide +kernel
theorem dX2_addNumber_55 : decode cX2_addNumber 55 = .ok (.return_, 1) := by decide +kernel
theorem dX2_addSign_0 : decode cX2_addSign 0 = .ok (.ldc 66, 2) := by decide +kernel
theorem dX2_addSign_2 : decode cX2_addSign 2 = .ok (.aload_n 0, 1) := by decide +kernel
theorem dX2_addSign_3 : decode cX2_addSign 3 = .ok (.getfield 9, 3) := by decide +kernel
theorem dX2_addSign_6 : decode cX2_addSign 6 = .ok (.iload_n 1, 1) := by decide +kernel
theorem dX2_addSign_7 : decode cX2_addSign 7 = .ok (.iaload, 1) := by decide +kernel
theorem dX2_addSign_8 : decode cX2_addSign 8 = .ok (.i2c, 1) := by decide +kernel
theorem dX2_addSign_9 : decode cX2_addSign 9 = .ok (.invokevirtual 68, 3) := by decide +kernel
theorem dX2_addSign_12 : decode cX2_addSign 12 = .ok (.istore_n 2, 1) := by decide +kernel
theorem dX2_addSign_13 : decode cX2_addSign 13 = .ok (.iload_n 2, 1) := by decide +kernel
theorem dX2_addSign_14 : decode cX2_addSign 14 = .ok (.ifCond .ge 7, 3) := by decide +kernel
theorem dX2_addSign_17 : decode cX2_addSign 17 = .ok (.iconst 3, 1) := by decide +kernel
theorem dX2_addSign_18 : decode cX2_addSign 18 = .ok (.goto 6, 3) := by decide +kernel
theorem dX2_addSign_21 : decode cX2_addSign 21 = .ok (.iconst 4, 1) := by decide +kernel
theorem dX2_addSign_22 : decode cX2_addSign 22 = .ok (.iload_n 2, 1) := by decide +kernel
theorem dX2_addSign_23 : decode cX2_addSign 23 = .ok (.iadd, 1) := by decide +kernel
theorem dX2_addSign_24 : decode cX2_addSign 24 = .ok (.istore_n 3, 1) := by decide +kernel
theorem dX2_addSign_25 : decode cX2_addSign 25 = .ok (.iload_n 1, 1) := by decide +kernel
theorem dX2_addSign_26 : decode cX2_addSign 26 = .ok (.iconst 1, 1) := by decide +kernel
theorem dX2_addSign_27 : decode cX2_addSign 27 = .ok (.iadd, 1) := by decide +kernel
theorem dX2_addSign_28 : decode cX2_addSign 28 = .ok (.aload_n 0, 1) := by decide +kernel
theorem dX2_addSign_29 : decode cX2_addSign 29 = .ok (.getfield 24, 3) := by decide +kernel
theorem dX2_addSign_32 : decode cX2_addSign 32 = .ok (.if_icmp .ge 20, 3) := by decide +kernel
theorem dX2_addSign_35 : decode cX2_addSign 35 = .ok (.aload_n 0, 1) := by decide +kernel
theorem dX2_addSign_36 : decode cX2_addSign 36 = .ok (.getfield 9, 3) := by decide +kernel
theorem dX2_addSign_39 : decode cX2_addSign 39 = .ok (.iload_n 1, 1) := by decide +kernel
theorem dX2_addSign_40 : decode cX2_addSign 40 = .ok (.iconst 1, 1) := by decide +kernel
theorem dX2_addSign_41 : decode cX2_addSign 41 = .ok (.iadd, 1) := by decide +kernel
theorem dX2_addSign_42 : decode cX2_addSign 42 = .ok (.iaload, 1) := by decide +kernel
theorem dX2_addSign_43 : decode cX2_addSign 43 = .ok (.bipush 61, 2) := by decide +kernel
theorem dX2_addSign_45 : decode cX2_addSign 45 = .ok (.if_icmp .ne 7, 3) := by decide +kernel
theorem dX2_addSign_48 : decode cX2_addSign 48 = .ok (.iconst 1, 1) := by decide +kernel
theorem dX2_addSign_49 : decode cX2_addSign 49 = .ok (.goto 4, 3) := by decide +kernel
theorem dX2_addSign_52 : decode cX2_addSign 52 = .ok (.iconst 0, 1) := by decide +kernel
theorem dX2_addSign_53 : decode cX2_addSign 53 = .ok (.istore 4, 2) := by decide +kernel
theorem dX2_addSign_55 : decode cX2_addSign 55 = .ok (.iload 4, 2) := by decide +kernel
theorem dX2_addSign_57 : decode cX2_addSign 57 = .ok (.ifCond .eq 21, 3) := by decide +kernel
theorem dX2_addSign_60 : decode cX2_addSign 60 = .ok (.iload_n 3, 1) := by decide +kernel
theorem dX2_addSign_61 : decode cX2_addSign 61 = .ok (.bipush 12, 2) := by decide +kernel
theorem dX2_addSign_63 : decode cX2_addSign 63 = .ok (.if_icmp .ne 15, 3) := by decide +kernel
theorem dX2_addSign_66 : decode cX2_addSign 66 = .ok (.aload_n 0, 1) := by decide +kernel
theorem dX2_addSign_67 : decode cX2_addSign 67 = .ok (.bipush 15, 2) := by decide +kernel
theorem dX2_addSign_69 : decode cX2_addSign 69 = .ok (.iload_n 1, 1) := by decide +kernel
theorem dX2_addSign_70 : decode cX2_addSign 70 = .ok (.iconst 0, 1) := by decide +kernel
theorem dX2_addSign_71 : decode cX2_addSign 71 = .ok (.invokevirtual 59, 3) := by decide +kernel
theorem dX2_addSign_74 : decode cX2_addSign 74 = .ok (.iload_n 1, 1) := by decide +kernel
theorem dX2_addSign_75 : decode cX2_addSign 75 = .ok (.iconst 2, 1) := by decide +kernel
theorem dX2_addSign_76 : decode cX2_addSign 76 = .ok (.iadd, 1) := by decide +kernel
theorem dX2_addSign_77 : decode cX2_addSign 77 = .ok (.ireturn, 1) := by decide +kernel
theorem dX2_addSign_78 : decode cX2_addSign 78 = .ok (.iload 4, 2) := by decide +kernel
theorem dX2_addSign_80 : decode cX2_addSign 80 = .ok (.ifCond .eq 21, 3) := by decide +kernel
theorem dX2_addSign_83 : decode cX2_addSign 83 = .ok (.iload_n 3, 1) := by decide +kernel
theorem dX2_addSign_84 : decode cX2_addSign 84 = .ok (.bipush 14, 2) := by decide +kernel
theorem dX2_addSign_86 : decode cX2_addSign 86 = .ok (.if_icmp .ne 15, 3) := by decide +kernel
theorem dX2_addSign_89 : decode cX2_addSign 89 = .ok (.aload_n 0, 1) := by decide +kernel
theorem dX2_addSign_90 : decode cX2_addSign 90 = .ok (.bipush 16, 2) := by decide +kernel
theorem dX2_addSign_92 : decode cX2_addSign 92 = .ok (.iload_n 1, 1) := by decide +kernel
theorem dX2_addSign_93 : decode cX2_addSign 93 = .ok (.iconst 0, 1) := by decide +kernel
theorem dX2_addSign_94 : decode cX2_addSign 94 = .ok (.invokevirtual 59, 3) := by decide +kernel
theorem dX2_addSign_97 : decode cX2_addSign 97 = .ok (.iload_n 1, 1) := by decide +kernel
theorem dX2_addSign_98 : decode cX2_addSign 98 = .ok (.iconst 2, 1) := by decide +kernel
theorem dX2_addSign_99 : decode cX2_addSign 99 = .ok (.iadd, 1) := by decide +kernel
theorem dX2_addSign_100 : decode cX2_addSign 100 = .ok (.ireturn, 1) := by decide +kernel
theorem dX2_addSign_101 : decode cX2_addSign 101 = .ok (.aload_n 0, 1) := by decide +kernel
theorem dX2_addSign_102 : decode cX2_addSign 102 = .ok (.iload_n 3, 1) := by decide +kernel
theorem dX2_addSign_103 : decode cX2_addSign 103 = .ok (.iload_n 1, 1) := by decide +kernel
theorem dX2_addSign_104 : decode cX2_addSign 104 = .ok (.iconst 0, 1) := by decide +kernel
theorem dX2_addSign_105 : decode cX2_addSign 105 = .ok (.invokevirtual 59, 3) := by decide +kernel
theorem dX2_addSign_108 : decode cX2_addSign 108 = .ok (.iload_n 1, 1) := by decide +kernel
theorem dX2_addSign_109 : decode cX2_addSign 109 = .ok (.iconst 1, 1) := by decide +kernel
theorem dX2_addSign_110 : decode cX2_addSign 110 = .ok (.iadd, 1) := by decide +kernel
theorem dX2_addSign_111 : decode cX2_addSign 111 = .ok (.ireturn, 1) := by decide +kernel
theorem dX2_wordOf_0 : decode cX2_wordOf 0 = .ok (.bipush 20, 2) := by decide +kernel
theorem dX2_wordOf_2 : decode cX2_wordOf 2 = .ok (.istore_n 3, 1) := by decide +kernel
theorem dX2_wordOf_3 : decode cX2_wordOf 3 = .ok (.iconst 0, 1) := by decide +kernel
theorem dX2_wordOf_4 : decode cX2_wordOf 4 = .ok (.istore 4, 2) := by decide +kernel
theorem dX2_wordOf_6 : decode cX2_wordOf 6 = .ok (.iconst 0, 1) := by decide +kernel
theorem dX2_wordOf_7 : decode cX2_wordOf 7 = .ok (.istore 5, 2) := by decide +kernel
theorem dX2_wordOf_9 : decode cX2_wordOf 9 = .ok (.iload 5, 2) := by decide +kernel
theorem dX2_wordOf_11 : decode cX2_wordOf 11 = .ok (.ldc 73, 2) := by decide +kernel
theorem dX2_wordOf_13 : decode cX2_wordOf 13 = .ok (.invokevirtual 75, 3) := by decide +kernel
theorem dX2_wordOf_16 : decode cX2_wordOf 16 = .ok (.if_icmp .gt 65, 3) := by decide +kernel
theorem dX2_wordOf_19 : decode cX2_wordOf 19 = .ok (.iload 5, 2) := by decide +kernel
theorem dX2_wordOf_21 : decode cX2_wordOf 21 = .ok (.ldc 73, 2) := by decide +kernel
theorem dX2_wordOf_23 : decode cX2_wordOf 23 = .ok (.invokevirtual 75, 3) := by decide +kernel
theorem dX2_wordOf_26 : decode cX2_wordOf 26 = .ok (.if_icmp .eq 15, 3) := by decide +kernel
theorem dX2_wordOf_29 : decode cX2_wordOf 29 = .ok (.ldc 73, 2) := by decide +kernel
theorem dX2_wordOf_31 : decode cX2_wordOf 31 = .ok (.iload 5, 2) := by decide +kernel
theorem dX2_wordOf_33 : decode cX2_wordOf 33 = .ok (.invokevirtual 78, 3) := by decide +kernel
theorem dX2_wordOf_36 : decode cX2_wordOf 36 = .ok (.bipush 32, 2) := by decide +kernel
theorem dX2_wordOf_38 : decode cX2_wordOf 38 = .ok (.if_icmp .ne 37, 3) := by decide +kernel
theorem dX2_wordOf_41 : decode cX2_wordOf 41 = .ok (.iload 5, 2) := by decide +kernel
theorem dX2_wordOf_43 : decode cX2_wordOf 43 = .ok (.iload 4, 2) := by decide +kernel
theorem dX2_wordOf_45 : decode cX2_wordOf 45 = .ok (.isub, 1) := by decide +kernel
theorem dX2_wordOf_46 : decode cX2_wordOf 46 = .ok (.iload_n 2, 1) := by decide +kernel
theorem dX2_wordOf_47 : decode cX2_wordOf 47 = .ok (.iload_n 1, 1) := by decide +kernel
theorem dX2_wordOf_48 : decode cX2_wordOf 48 = .ok (.isub, 1) := by decide +kernel
theorem dX2_wordOf_49 : decode cX2_wordOf 49 = .ok (.if_icmp .ne 17, 3) := by decide +kernel
theorem dX2_wordOf_52 : decode cX2_wordOf 52 = .ok (.aload_n 0, 1) := by decide +kernel
theorem dX2_wordOf_53 : decode cX2_wordOf 53 = .ok (.iload 4, 2) := by decide +kernel
theorem dX2_wordOf_55 : decode cX2_wordOf 55 = .ok (.iload 5, 2) := by decide +kernel
theorem dX2_wordOf_57 : decode cX2_wordOf 57 = .ok (.iload_n 1, 1) := by decide +kernel
theorem dX2_wordOf_58 : decode cX2_wordOf 58 = .ok (.invokevirtual 82, 3) := by decide +kernel
theorem dX2_wordOf_61 : decode cX2_wordOf 61 = .ok (.ifCond .eq 5, 3) := by decide +kernel
theorem dX2_wordOf_64 : decode cX2_wordOf 64 = .ok (.iload_n 3, 1) := by decide +kernel
theorem dX2_wordOf_65 : decode cX2_wordOf 65 = .ok (.ireturn, 1) := by decide +kernel
theorem dX2_wordOf_66 : decode cX2_wordOf 66 = .ok (.iinc 3 1, 3) := by decide +kernel
theorem dX2_wordOf_69 : decode cX2_wordOf 69 = .ok (.iload 5, 2) := by decide +kernel
theorem dX2_wordOf_71 : decode cX2_wordOf 71 = .ok (.iconst 1, 1) := by decide +kernel
theorem dX2_wordOf_72 : decode cX2_wordOf 72 = .ok (.iadd, 1) := by decide +kernel
theorem dX2_wordOf_73 : decode cX2_wordOf 73 = .ok (.istore 4, 2) := by decide +kernel
theorem dX2_wordOf_75 : decode cX2_wordOf 75 = .ok (.iinc 5 1, 3) := by decide +kernel
theorem dX2_wordOf_78 : decode cX2_wordOf 78 = .ok (.goto (-69), 3) := by decide +kernel
theorem dX2_wordOf_81 : decode cX2_wordOf 81 = .ok (.iconst 3, 1) := by decide +kernel
theorem dX2_wordOf_82 : decode cX2_wordOf 82 = .ok (.ireturn, 1) := by decide +kernel
theorem dX2_isWord_0 : decode cX2_isWord 0 = .ok (.iload_n 1, 1) := by decide +kernel
theorem dX2_isWord_1 : decode cX2_isWord 1 = .ok (.istore 4, 2) := by decide +kernel
theorem dX2_isWord_3 : decode cX2_isWord 3 = .ok (.iload 4, 2) := by decide +kernel
theorem dX2_isWord_5 : decode cX2_isWord 5 = .ok (.iload_n 2, 1) := by decide +kernel
theorem dX2_isWord_6 : decode cX2_isWord 6 = .ok (.if_icmp .ge 32, 3) := by decide +kernel
theorem dX2_isWord_9 : decode cX2_isWord 9 = .ok (.ldc 73, 2) := by decide +kernel
theorem dX2_isWord_11 : decode cX2_isWord 11 = .ok (.iload 4, 2) := by decide +kernel
theorem dX2_isWord_13 : decode cX2_isWord 13 = .ok (.invokevirtual 78, 3) := by decide +kernel
theorem dX2_isWord_16 : decode cX2_isWord 16 = .ok (.aload_n 0, 1) := by decide +kernel
theorem dX2_isWord_17 : decode cX2_isWord 17 = .ok (.getfield 9, 3) := by decide +kernel
theorem dX2_isWord_20 : decode cX2_isWord 20 = .ok (.iload_n 3, 1) := by decide +kernel
theorem dX2_isWord_21 : decode cX2_isWord 21 = .ok (.iload 4, 2) := by decide +kernel
theorem dX2_isWord_23 : decode cX2_isWord 23 = .ok (.iadd, 1) := by decide +kernel
theorem dX2_isWord_24 : decode cX2_isWord 24 = .ok (.iload_n 1, 1) := by decide +kernel
theorem dX2_isWord_25 : decode cX2_isWord 25 = .ok (.isub, 1) := by decide +kernel
theorem dX2_isWord_26 : decode cX2_isWord 26 = .ok (.iaload, 1) := by decide +kernel
theorem dX2_isWord_27 : decode cX2_isWord 27 = .ok (.if_icmp .eq 5, 3) := by decide +kernel
theorem dX2_isWord_30 : decode cX2_isWord 30 = .ok (.iconst 0, 1) := by decide +kernel
theorem dX2_isWord_31 : decode cX2_isWord 31 = .ok (.ireturn, 1) := by decide +kernel
theorem dX2_isWord_32 : decode cX2_isWord 32 = .ok (.iinc 4 1, 3) := by decide +kernel
theorem dX2_isWord_35 : decode cX2_isWord 35 = .ok (.goto (-32), 3) := by decide +kernel
theorem dX2_isWord_38 : decode cX2_isWord 38 = .ok (.iconst 1, 1) := by decide +kernel
theorem dX2_isWord_39 : decode cX2_isWord 39 = .ok (.ireturn, 1) := by decide +kernel
theorem dX2_sign_0 : decode cX2_sign 0 = .ok (.aload_n 0, 1) := by decide +kernel
theorem dX2_sign_1 : decode cX2_sign 1 = .ok (.getfield 31, 3) := by decide +kernel
theorem dX2_sign_4 : decode cX2_sign 4 = .ok (.aload_n 0, 1) := by decide +kernel
theorem dX2_sign_5 : decode cX2_sign 5 = .ok (.getfield 28, 3) := by decide +kernel
theorem dX2_sign_8 : decode cX2_sign 8 = .ok (.if_icmp .ge 15, 3) := by decide +kernel
theorem dX2_sign_11 : decode cX2_sign 11 = .ok (.aload_n 0, 1) := by decide +kernel
theorem dX2_sign_12 : decode cX2_sign 12 = .ok (.getfield 15, 3) := by decide +kernel
theorem dX2_sign_15 : decode cX2_sign 15 = .ok (.aload_n 0, 1) := by decide +kernel
theorem dX2_sign_16 : decode cX2_sign 16 = .ok (.getfield 31, 3) := by decide +kernel
theorem dX2_sign_19 : decode cX2_sign 19 = .ok (.iaload, 1) := by decide +kernel
theorem dX2_sign_20 : decode cX2_sign 20 = .ok (.goto 4, 3) := by decide +kernel
theorem dX2_sign_23 : decode cX2_sign 23 = .ok (.iconst 0, 1) := by decide +kernel
theorem dX2_sign_24 : decode cX2_sign 24 = .ok (.ireturn, 1) := by decide +kernel
theorem dX2_number_0 : decode cX2_number 0 = .ok (.aload_n 0, 1) := by decide +kernel
theorem dX2_number_1 : decode cX2_number 1 = .ok (.getfield 31, 3) := by decide +kernel
theorem dX2_number_4 : decode cX2_number 4 = .ok (.aload_n 0, 1) := by decide +kernel
theorem dX2_number_5 : decode cX2_number 5 = .ok (.getfield 28, 3) := by decide +kernel
theorem dX2_number_8 : decode cX2_number 8 = .ok (.if_icmp .ge 15, 3) := by decide +kernel
theorem dX2_number_11 : decode cX2_number 11 = .ok (.aload_n 0, 1) := by decide +kernel
theorem dX2_number_12 : decode cX2_number 12 = .ok (.getfield 21, 3) := by decide +kernel
theorem dX2_number_15 : decode cX2_number 15 = .ok (.aload_n 0, 1) := by decide +kernel
theorem dX2_number_16 : decode cX2_number 16 = .ok (.getfield 31, 3) := by decide +kernel
theorem dX2_number_19 : decode cX2_number 19 = .ok (.iaload, 1) := by decide +kernel
theorem dX2_number_20 : decode cX2_number 20 = .ok (.goto 4, 3) := by decide +kernel
theorem dX2_number_23 : decode cX2_number 23 = .ok (.iconst 0, 1) := by decide +kernel
theorem dX2_number_24 : decode cX2_number 24 = .ok (.ireturn, 1) := by decide +kernel
theorem dX2_step_0 : decode cX2_step 0 = .ok (.aload_n 0, 1) := by decide +kernel
theorem dX2_step_1 : decode cX2_step 1 = .ok (.getfield 31, 3) := by decide +kernel
theorem dX2_step_4 : decode cX2_step 4 = .ok (.aload_n 0, 1) := by decide +kernel
theorem dX2_step_5 : decode cX2_step 5 = .ok (.getfield 28, 3) := by decide +kernel
theorem dX2_step_8 : decode cX2_step 8 = .ok (.iconst 1, 1) := by decide +kernel
theorem dX2_step_9 : decode cX2_step 9 = .ok (.isub, 1) := by decide +kernel
theorem dX2_step_10 : decode cX2_step 10 = .ok (.if_icmp .ge 13, 3) := by decide +kernel
theorem dX2_step_13 : decode cX2_step 13 = .ok (.aload_n 0, 1) := by decide +kernel
theorem dX2_step_14 : decode cX2_step 14 = .ok (.dup, 1) := by decide +kernel
theorem dX2_step_15 : decode cX2_step 15 = .ok (.getfield 31, 3) := by decide +kernel
theorem dX2_step_18 : decode cX2_step 18 = .ok (.iconst 1, 1) := by decide +kernel
theorem dX2_step_19 : decode cX2_step 19 = .ok (.iadd, 1) := by decide +kernel
theorem dX2_step_20 : decode cX2_step 20 = .ok (.putfield 31, 3) := by decide +kernel
theorem dX2_step_23 : decode cX2_step 23 = .ok (.return_, 1) := by decide +kernel
theorem dX2_take_0 : decode cX2_take 0 = .ok (.aload_n 0, 1) := by decide +kernel
theorem dX2_take_1 : decode cX2_take 1 = .ok (.invokevirtual 86, 3) := by decide +kernel
theorem dX2_take_4 : decode cX2_take 4 = .ok (.iload_n 1, 1) := by decide +kernel
theorem dX2_take_5 : decode cX2_take 5 = .ok (.if_icmp .eq 5, 3) := by decide +kernel
theorem dX2_take_8 : decode cX2_take 8 = .ok (.iconst 0, 1) := by decide +kernel
theorem dX2_take_9 : decode cX2_take 9 = .ok (.ireturn, 1) := by decide +kernel
theorem dX2_take_10 : decode cX2_take 10 = .ok (.aload_n 0, 1) := by decide +kernel
theorem dX2_take_11 : decode cX2_take 11 = .ok (.invokevirtual 89, 3) := by decide +kernel
theorem dX2_take_14 : decode cX2_take 14 = .ok (.iconst 1, 1) := by decide +kernel
