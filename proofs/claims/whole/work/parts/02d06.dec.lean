theorem dX11_give_69 : decode cX11_give 69 = .ok (.iaload, 1) := by decide +kernel
theorem dX11_give_70 : decode cX11_give 70 = .ok (.iload_n 3, 1) := by decide +kernel
theorem dX11_give_71 : decode cX11_give 71 = .ok (.iadd, 1) := by decide +kernel
theorem dX11_give_72 : decode cX11_give 72 = .ok (.sipush 999, 3) := by decide +kernel
theorem dX11_give_75 : decode cX11_give 75 = .ok (.invokestatic 349, 3) := by decide +kernel
theorem dX11_give_78 : decode cX11_give 78 = .ok (.iastore, 1) := by decide +kernel
theorem dX11_give_79 : decode cX11_give 79 = .ok (.aload_n 0, 1) := by decide +kernel
theorem dX11_give_80 : decode cX11_give 80 = .ok (.getfield 13, 3) := by decide +kernel
theorem dX11_give_83 : decode cX11_give 83 = .ok (.iload_n 1, 1) := by decide +kernel
theorem dX11_give_84 : decode cX11_give 84 = .ok (.iaload, 1) := by decide +kernel
theorem dX11_give_85 : decode cX11_give 85 = .ok (.ireturn, 1) := by decide +kernel
theorem dX11_fight_0 : decode cX11_fight 0 = .ok (.aload_n 0, 1) := by decide +kernel
theorem dX11_fight_1 : decode cX11_fight 1 = .ok (.iload_n 1, 1) := by decide +kernel
theorem dX11_fight_2 : decode cX11_fight 2 = .ok (.invokevirtual 340, 3) := by decide +kernel
theorem dX11_fight_5 : decode cX11_fight 5 = .ok (.ifCond .eq 34, 3) := by decide +kernel
theorem dX11_fight_8 : decode cX11_fight 8 = .ok (.aload_n 0, 1) := by decide +kernel
theorem dX11_fight_9 : decode cX11_fight 9 = .ok (.iload_n 2, 1) := by decide +kernel
theorem dX11_fight_10 : decode cX11_fight 10 = .ok (.invokevirtual 340, 3) := by decide +kernel
theorem dX11_fight_13 : decode cX11_fight 13 = .ok (.ifCond .eq 26, 3) := by decide +kernel
theorem dX11_fight_16 : decode cX11_fight 16 = .ok (.iload_n 1, 1) := by decide +kernel
theorem dX11_fight_17 : decode cX11_fight 17 = .ok (.iload_n 2, 1) := by decide +kernel
theorem dX11_fight_18 : decode cX11_fight 18 = .ok (.if_icmp .eq 21, 3) := by decide +kernel
theorem dX11_fight_21 : decode cX11_fight 21 = .ok (.aload_n 0, 1) := by decide +kernel
theorem dX11_fight_22 : decode cX11_fight 22 = .ok (.getfield 13, 3) := by decide +kernel
theorem dX11_fight_25 : decode cX11_fight 25 = .ok (.iload_n 1, 1) := by decide +kernel
theorem dX11_fight_26 : decode cX11_fight 26 = .ok (.iaload, 1) := by decide +kernel
theorem dX11_fight_27 : decode cX11_fight 27 = .ok (.ifCond .eq 12, 3) := by decide +kernel
theorem dX11_fight_30 : decode cX11_fight 30 = .ok (.aload_n 0, 1) := by decide +kernel
theorem dX11_fight_31 : decode cX11_fight 31 = .ok (.getfield 13, 3) := by decide +kernel
theorem dX11_fight_34 : decode cX11_fight 34 = .ok (.iload_n 2, 1) := by decide +kernel
theorem dX11_fight_35 : decode cX11_fight 35 = .ok (.iaload, 1) := by decide +kernel
theorem dX11_fight_36 : decode cX11_fight 36 = .ok (.ifCond .ne 5, 3) := by decide +kernel
theorem dX11_fight_39 : decode cX11_fight 39 = .ok (.iconst (-1), 1) := by decide +kernel
theorem dX11_fight_40 : decode cX11_fight 40 = .ok (.ireturn, 1) := by decide +kernel
theorem dX11_fight_41 : decode cX11_fight 41 = .ok (.aload_n 0, 1) := by decide +kernel
theorem dX11_fight_42 : decode cX11_fight 42 = .ok (.invokevirtual 408, 3) := by decide +kernel
theorem dX11_fight_45 : decode cX11_fight 45 = .ok (.aload_n 0, 1) := by decide +kernel
theorem dX11_fight_46 : decode cX11_fight 46 = .ok (.getfield 13, 3) := by decide +kernel
theorem dX11_fight_49 : decode cX11_fight 49 = .ok (.iload_n 1, 1) := by decide +kernel
theorem dX11_fight_50 : decode cX11_fight 50 = .ok (.iaload, 1) := by decide +kernel
theorem dX11_fight_51 : decode cX11_fight 51 = .ok (.aload_n 0, 1) := by decide +kernel
theorem dX11_fight_52 : decode cX11_fight 52 = .ok (.getfield 13, 3) := by decide +kernel
theorem dX11_fight_55 : decode cX11_fight 55 = .ok (.iload_n 2, 1) := by decide +kernel
theorem dX11_fight_56 : decode cX11_fight 56 = .ok (.iaload, 1) := by decide +kernel
theorem dX11_fight_57 : decode cX11_fight 57 = .ok (.if_icmp .ge 12, 3) := by decide +kernel
theorem dX11_fight_60 : decode cX11_fight 60 = .ok (.aload_n 0, 1) := by decide +kernel
theorem dX11_fight_61 : decode cX11_fight 61 = .ok (.getfield 13, 3) := by decide +kernel
theorem dX11_fight_64 : decode cX11_fight 64 = .ok (.iload_n 1, 1) := by decide +kernel
theorem dX11_fight_65 : decode cX11_fight 65 = .ok (.iaload, 1) := by decide +kernel
theorem dX11_fight_66 : decode cX11_fight 66 = .ok (.goto 9, 3) := by decide +kernel
theorem dX11_fight_69 : decode cX11_fight 69 = .ok (.aload_n 0, 1) := by decide +kernel
theorem dX11_fight_70 : decode cX11_fight 70 = .ok (.getfield 13, 3) := by decide +kernel
theorem dX11_fight_73 : decode cX11_fight 73 = .ok (.iload_n 2, 1) := by decide +kernel
theorem dX11_fight_74 : decode cX11_fight 74 = .ok (.iaload, 1) := by decide +kernel
theorem dX11_fight_75 : decode cX11_fight 75 = .ok (.iconst 1, 1) := by decide +kernel
theorem dX11_fight_76 : decode cX11_fight 76 = .ok (.iadd, 1) := by decide +kernel
theorem dX11_fight_77 : decode cX11_fight 77 = .ok (.iconst 2, 1) := by decide +kernel
theorem dX11_fight_78 : decode cX11_fight 78 = .ok (.idiv, 1) := by decide +kernel
theorem dX11_fight_79 : decode cX11_fight 79 = .ok (.istore_n 3, 1) := by decide +kernel
theorem dX11_fight_80 : decode cX11_fight 80 = .ok (.aload_n 0, 1) := by decide +kernel
theorem dX11_fight_81 : decode cX11_fight 81 = .ok (.getfield 13, 3) := by decide +kernel
theorem dX11_fight_84 : decode cX11_fight 84 = .ok (.iload_n 1, 1) := by decide +kernel
theorem dX11_fight_85 : decode cX11_fight 85 = .ok (.dup2, 1) := by decide +kernel
theorem dX11_fight_86 : decode cX11_fight 86 = .ok (.iaload, 1) := by decide +kernel
theorem dX11_fight_87 : decode cX11_fight 87 = .ok (.iload_n 3, 1) := by decide +kernel
theorem dX11_fight_88 : decode cX11_fight 88 = .ok (.isub, 1) := by decide +kernel
theorem dX11_fight_89 : decode cX11_fight 89 = .ok (.iastore, 1) := by decide +kernel
theorem dX11_fight_90 : decode cX11_fight 90 = .ok (.aload_n 0, 1) := by decide +kernel
theorem dX11_fight_91 : decode cX11_fight 91 = .ok (.getfield 13, 3) := by decide +kernel
theorem dX11_fight_94 : decode cX11_fight 94 = .ok (.iload_n 2, 1) := by decide +kernel
theorem dX11_fight_95 : decode cX11_fight 95 = .ok (.dup2, 1) := by decide +kernel
theorem dX11_fight_96 : decode cX11_fight 96 = .ok (.iaload, 1) := by decide +kernel
theorem dX11_fight_97 : decode cX11_fight 97 = .ok (.iload_n 3, 1) := by decide +kernel
theorem dX11_fight_98 : decode cX11_fight 98 = .ok (.isub, 1) := by decide +kernel
theorem dX11_fight_99 : decode cX11_fight 99 = .ok (.iastore, 1) := by decide +kernel
theorem dX11_fight_100 : decode cX11_fight 100 = .ok (.iload_n 3, 1) := by decide +kernel
theorem dX11_fight_101 : decode cX11_fight 101 = .ok (.ireturn, 1) := by decide +kernel
theorem dX11_set_0 : decode cX11_set 0 = .ok (.aload_n 0, 1) := by decide +kernel
theorem dX11_set_1 : decode cX11_set 1 = .ok (.invokevirtual 405, 3) := by decide +kernel
theorem dX11_set_4 : decode cX11_set 4 = .ok (.ifCond .eq 25, 3) := by decide +kernel
theorem dX11_set_7 : decode cX11_set 7 = .ok (.iload_n 1, 1) := by decide +kernel
theorem dX11_set_8 : decode cX11_set 8 = .ok (.i2l, 1) := by decide +kernel
theorem dX11_set_9 : decode cX11_set 9 = .ok (.lconst 1, 1) := by decide +kernel
theorem dX11_set_10 : decode cX11_set 10 = .ok (.ldc2_w 413, 3) := by decide +kernel
theorem dX11_set_13 : decode cX11_set 13 = .ok (.invokestatic 134, 3) := by decide +kernel
theorem dX11_set_16 : decode cX11_set 16 = .ok (.ifCond .eq 13, 3) := by decide +kernel
theorem dX11_set_19 : decode cX11_set 19 = .ok (.aload_n 0, 1) := by decide +kernel
theorem dX11_set_20 : decode cX11_set 20 = .ok (.getfield 9, 3) := by decide +kernel
theorem dX11_set_23 : decode cX11_set 23 = .ok (.iconst 3, 1) := by decide +kernel
theorem dX11_set_24 : decode cX11_set 24 = .ok (.iaload, 1) := by decide +kernel
theorem dX11_set_25 : decode cX11_set 25 = .ok (.iload_n 1, 1) := by decide +kernel
theorem dX11_set_26 : decode cX11_set 26 = .ok (.if_icmp .ne 5, 3) := by decide +kernel
theorem dX11_set_29 : decode cX11_set 29 = .ok (.iconst (-1), 1) := by decide +kernel
theorem dX11_set_30 : decode cX11_set 30 = .ok (.ireturn, 1) := by decide +kernel
theorem dX11_set_31 : decode cX11_set 31 = .ok (.aload_n 0, 1) := by decide +kernel
theorem dX11_set_32 : decode cX11_set 32 = .ok (.invokevirtual 408, 3) := by decide +kernel
theorem dX11_set_35 : decode cX11_set 35 = .ok (.aload_n 0, 1) := by decide +kernel
theorem dX11_set_36 : decode cX11_set 36 = .ok (.getfield 9, 3) := by decide +kernel
theorem dX11_set_39 : decode cX11_set 39 = .ok (.iconst 3, 1) := by decide +kernel
theorem dX11_set_40 : decode cX11_set 40 = .ok (.iaload, 1) := by decide +kernel
theorem dX11_set_41 : decode cX11_set 41 = .ok (.istore_n 2, 1) := by decide +kernel
theorem dX11_set_42 : decode cX11_set 42 = .ok (.aload_n 0, 1) := by decide +kernel
theorem dX11_set_43 : decode cX11_set 43 = .ok (.getfield 9, 3) := by decide +kernel
theorem dX11_set_46 : decode cX11_set 46 = .ok (.iconst 3, 1) := by decide +kernel
theorem dX11_set_47 : decode cX11_set 47 = .ok (.iload_n 1, 1) := by decide +kernel
theorem dX11_set_48 : decode cX11_set 48 = .ok (.iastore, 1) := by decide +kernel
theorem dX11_set_49 : decode cX11_set 49 = .ok (.iload_n 2, 1) := by decide +kernel
theorem dX11_set_50 : decode cX11_set 50 = .ok (.ireturn, 1) := by decide +kernel
theorem dX11_keepsAll_0 : decode cX11_keepsAll 0 = .ok (.aload_n 0, 1) := by decide +kernel
theorem dX11_keepsAll_1 : decode cX11_keepsAll 1 = .ok (.iconst 4, 1) := by decide +kernel
theorem dX11_keepsAll_2 : decode cX11_keepsAll 2 = .ok (.iconst 0, 1) := by decide +kernel
theorem dX11_keepsAll_3 : decode cX11_keepsAll 3 = .ok (.invokevirtual 415, 3) := by decide +kernel
theorem dX11_keepsAll_6 : decode cX11_keepsAll 6 = .ok (.return_, 1) := by decide +kernel
theorem dX11_laysBack_0 : decode cX11_laysBack 0 = .ok (.aload_n 0, 1) := by decide +kernel
theorem dX11_laysBack_1 : decode cX11_laysBack 1 = .ok (.iconst 4, 1) := by decide +kernel
theorem dX11_laysBack_2 : decode cX11_laysBack 2 = .ok (.iconst 1, 1) := by decide +kernel
theorem dX11_laysBack_3 : decode cX11_laysBack 3 = .ok (.invokevirtual 415, 3) := by decide +kernel
theorem dX11_laysBack_6 : decode cX11_laysBack 6 = .ok (.return_, 1) := by decide +kernel
theorem dX11_allOf_0 : decode cX11_allOf 0 = .ok (.iconst 0, 1) := by decide +kernel
theorem dX11_allOf_1 : decode cX11_allOf 1 = .ok (.istore_n 2, 1) := by decide +kernel
theorem dX11_allOf_2 : decode cX11_allOf 2 = .ok (.iconst 0, 1) := by decide +kernel
theorem dX11_allOf_3 : decode cX11_allOf 3 = .ok (.istore_n 3, 1) := by decide +kernel
theorem dX11_allOf_4 : decode cX11_allOf 4 = .ok (.iload_n 3, 1) := by decide +kernel
theorem dX11_allOf_5 : decode cX11_allOf 5 = .ok (.aload_n 0, 1) := by decide +kernel
theorem dX11_allOf_6 : decode cX11_allOf 6 = .ok (.getfield 9, 3) := by decide +kernel
theorem dX11_allOf_9 : decode cX11_allOf 9 = .ok (.iconst 2, 1) := by decide +kernel
theorem dX11_allOf_10 : decode cX11_allOf 10 = .ok (.iaload, 1) := by decide +kernel
theorem dX11_allOf_11 : decode cX11_allOf 11 = .ok (.if_icmp .ge 15, 3) := by decide +kernel
theorem dX11_allOf_14 : decode cX11_allOf 14 = .ok (.iload_n 2, 1) := by decide +kernel
theorem dX11_allOf_15 : decode cX11_allOf 15 = .ok (.aload_n 1, 1) := by decide +kernel
theorem dX11_allOf_16 : decode cX11_allOf 16 = .ok (.iload_n 3, 1) := by decide +kernel
theorem dX11_allOf_17 : decode cX11_allOf 17 = .ok (.iaload, 1) := by decide +kernel
theorem dX11_allOf_18 : decode cX11_allOf 18 = .ok (.iadd, 1) := by decide +kernel
theorem dX11_allOf_19 : decode cX11_allOf 19 = .ok (.istore_n 2, 1) := by decide +kernel
theorem dX11_allOf_20 : decode cX11_allOf 20 = .ok (.iinc 3 1, 3) := by decide +kernel
theorem dX11_allOf_23 : decode cX11_allOf 23 = .ok (.goto (-19), 3) := by decide +kernel
theorem dX11_allOf_26 : decode cX11_allOf 26 = .ok (.iload_n 2, 1) := by decide +kernel
theorem dX11_allOf_27 : decode cX11_allOf 27 = .ok (.ireturn, 1) := by decide +kernel
theorem dX11_barnsIn_0 : decode cX11_barnsIn 0 = .ok (.aload_n 0, 1) := by decide +kernel
theorem dX11_barnsIn_1 : decode cX11_barnsIn 1 = .ok (.iload_n 1, 1) := by decide +kernel
theorem dX11_barnsIn_2 : decode cX11_barnsIn 2 = .ok (.invokevirtual 418, 3) := by decide +kernel
theorem dX11_barnsIn_5 : decode cX11_barnsIn 5 = .ok (.aload_n 0, 1) := by decide +kernel
theorem dX11_barnsIn_6 : decode cX11_barnsIn 6 = .ok (.aload_n 0, 1) := by decide +kernel
theorem dX11_barnsIn_7 : decode cX11_barnsIn 7 = .ok (.getfield 22, 3) := by decide +kernel
theorem dX11_barnsIn_10 : decode cX11_barnsIn 10 = .ok (.invokevirtual 421, 3) := by decide +kernel
theorem dX11_barnsIn_13 : decode cX11_barnsIn 13 = .ok (.istore_n 2, 1) := by decide +kernel
theorem dX11_barnsIn_14 : decode cX11_barnsIn 14 = .ok (.aload_n 0, 1) := by decide +kernel
theorem dX11_barnsIn_15 : decode cX11_barnsIn 15 = .ok (.invokevirtual 425, 3) := by decide +kernel
theorem dX11_barnsIn_18 : decode cX11_barnsIn 18 = .ok (.iload_n 2, 1) := by decide +kernel
theorem dX11_barnsIn_19 : decode cX11_barnsIn 19 = .ok (.ireturn, 1) := by decide +kernel
theorem dX11_barnOfIn_0 : decode cX11_barnOfIn 0 = .ok (.aload_n 0, 1) := by decide +kernel
theorem dX11_barnOfIn_1 : decode cX11_barnOfIn 1 = .ok (.iload_n 2, 1) := by decide +kernel
theorem dX11_barnOfIn_2 : decode cX11_barnOfIn 2 = .ok (.invokevirtual 418, 3) := by decide +kernel
theorem dX11_barnOfIn_5 : decode cX11_barnOfIn 5 = .ok (.aload_n 0, 1) := by decide +kernel
theorem dX11_barnOfIn_6 : decode cX11_barnOfIn 6 = .ok (.getfield 22, 3) := by decide +kernel
theorem dX11_barnOfIn_9 : decode cX11_barnOfIn 9 = .ok (.iload_n 1, 1) := by decide +kernel
theorem dX11_barnOfIn_10 : decode cX11_barnOfIn 10 = .ok (.iaload, 1) := by decide +kernel
theorem dX11_barnOfIn_11 : decode cX11_barnOfIn 11 = .ok (.istore_n 3, 1) := by decide +kernel
theorem dX11_barnOfIn_12 : decode cX11_barnOfIn 12 = .ok (.aload_n 0, 1) := by decide +kernel
theorem dX11_barnOfIn_13 : decode cX11_barnOfIn 13 = .ok (.invokevirtual 425, 3) := by decide +kernel
theorem dX11_barnOfIn_16 : decode cX11_barnOfIn 16 = .ok (.iload_n 3, 1) := by decide +kernel
theorem dX11_barnOfIn_17 : decode cX11_barnOfIn 17 = .ok (.ireturn, 1) := by decide +kernel
theorem dX11_ahead_0 : decode cX11_ahead 0 = .ok (.aload_n 0, 1) := by decide +kernel
theorem dX11_ahead_1 : decode cX11_ahead 1 = .ok (.iload_n 1, 1) := by decide +kernel
theorem dX11_ahead_2 : decode cX11_ahead 2 = .ok (.invokevirtual 340, 3) := by decide +kernel
theorem dX11_ahead_5 : decode cX11_ahead 5 = .ok (.ifCond .eq 27, 3) := by decide +kernel
theorem dX11_ahead_8 : decode cX11_ahead 8 = .ok (.iload_n 2, 1) := by decide +kernel
theorem dX11_ahead_9 : decode cX11_ahead 9 = .ok (.i2l, 1) := by decide +kernel
theorem dX11_ahead_10 : decode cX11_ahead 10 = .ok (.lconst 0, 1) := by decide +kernel
theorem dX11_ahead_11 : decode cX11_ahead 11 = .ok (.ldc2_w 428, 3) := by decide +kernel
theorem dX11_ahead_14 : decode cX11_ahead 14 = .ok (.invokestatic 134, 3) := by decide +kernel
theorem dX11_ahead_17 : decode cX11_ahead 17 = .ok (.ifCond .eq 15, 3) := by decide +kernel
theorem dX11_ahead_20 : decode cX11_ahead 20 = .ok (.iload_n 3, 1) := by decide +kernel
theorem dX11_ahead_21 : decode cX11_ahead 21 = .ok (.i2l, 1) := by decide +kernel
theorem dX11_ahead_22 : decode cX11_ahead 22 = .ok (.lconst 0, 1) := by decide +kernel
theorem dX11_ahead_23 : decode cX11_ahead 23 = .ok (.ldc2_w 430, 3) := by decide +kernel
theorem dX11_ahead_26 : decode cX11_ahead 26 = .ok (.invokestatic 134, 3) := by decide +kernel
theorem dX11_ahead_29 : decode cX11_ahead 29 = .ok (.ifCond .ne 5, 3) := by decide +kernel
theorem dX11_ahead_32 : decode cX11_ahead 32 = .ok (.iconst (-1), 1) := by decide +kernel
theorem dX11_ahead_33 : decode cX11_ahead 33 = .ok (.ireturn, 1) := by decide +kernel
theorem dX11_ahead_34 : decode cX11_ahead 34 = .ok (.aload_n 0, 1) := by decide +kernel
theorem dX11_ahead_35 : decode cX11_ahead 35 = .ok (.invokevirtual 432, 3) := by decide +kernel
theorem dX11_ahead_38 : decode cX11_ahead 38 = .ok (.aload_n 0, 1) := by decide +kernel
theorem dX11_ahead_39 : decode cX11_ahead 39 = .ok (.iload_n 2, 1) := by decide +kernel
theorem dX11_ahead_40 : decode cX11_ahead 40 = .ok (.invokevirtual 418, 3) := by decide +kernel
theorem dX11_ahead_43 : decode cX11_ahead 43 = .ok (.iload_n 3, 1) := by decide +kernel
theorem dX11_ahead_44 : decode cX11_ahead 44 = .ok (.ifCond .ne 12, 3) := by decide +kernel
theorem dX11_ahead_47 : decode cX11_ahead 47 = .ok (.aload_n 0, 1) := by decide +kernel
theorem dX11_ahead_48 : decode cX11_ahead 48 = .ok (.getfield 13, 3) := by decide +kernel
theorem dX11_ahead_51 : decode cX11_ahead 51 = .ok (.iload_n 1, 1) := by decide +kernel
theorem dX11_ahead_52 : decode cX11_ahead 52 = .ok (.iaload, 1) := by decide +kernel
theorem dX11_ahead_53 : decode cX11_ahead 53 = .ok (.goto 37, 3) := by decide +kernel
theorem dX11_ahead_56 : decode cX11_ahead 56 = .ok (.iload_n 3, 1) := by decide +kernel
theorem dX11_ahead_57 : decode cX11_ahead 57 = .ok (.iconst 1, 1) := by decide +kernel
theorem dX11_ahead_58 : decode cX11_ahead 58 = .ok (.if_icmp .ne 12, 3) := by decide +kernel
theorem dX11_ahead_61 : decode cX11_ahead 61 = .ok (.aload_n 0, 1) := by decide +kernel
theorem dX11_ahead_62 : decode cX11_ahead 62 = .ok (.getfield 16, 3) := by decide +kernel
theorem dX11_ahead_65 : decode cX11_ahead 65 = .ok (.iload_n 1, 1) := by decide +kernel
theorem dX11_ahead_66 : decode cX11_ahead 66 = .ok (.iaload, 1) := by decide +kernel
theorem dX11_ahead_67 : decode cX11_ahead 67 = .ok (.goto 23, 3) := by decide +kernel
theorem dX11_ahead_70 : decode cX11_ahead 70 = .ok (.iload_n 3, 1) := by decide +kernel
theorem dX11_ahead_71 : decode cX11_ahead 71 = .ok (.iconst 2, 1) := by decide +kernel
theorem dX11_ahead_72 : decode cX11_ahead 72 = .ok (.if_icmp .ne 12, 3) := by decide +kernel
theorem dX11_ahead_75 : decode cX11_ahead 75 = .ok (.aload_n 0, 1) := by decide +kernel
theorem dX11_ahead_76 : decode cX11_ahead 76 = .ok (.getfield 19, 3) := by decide +kernel
theorem dX11_ahead_79 : decode cX11_ahead 79 = .ok (.iload_n 1, 1) := by decide +kernel
theorem dX11_ahead_80 : decode cX11_ahead 80 = .ok (.iaload, 1) := by decide +kernel
theorem dX11_ahead_81 : decode cX11_ahead 81 = .ok (.goto 9, 3) := by decide +kernel
theorem dX11_ahead_84 : decode cX11_ahead 84 = .ok (.aload_n 0, 1) := by decide +kernel
theorem dX11_ahead_85 : decode cX11_ahead 85 = .ok (.getfield 22, 3) := by decide +kernel
theorem dX11_ahead_88 : decode cX11_ahead 88 = .ok (.iload_n 1, 1) := by decide +kernel
theorem dX11_ahead_89 : decode cX11_ahead 89 = .ok (.iaload, 1) := by decide +kernel
theorem dX11_ahead_90 : decode cX11_ahead 90 = .ok (.istore 4, 2) := by decide +kernel
theorem dX11_ahead_92 : decode cX11_ahead 92 = .ok (.aload_n 0, 1) := by decide +kernel
theorem dX11_ahead_93 : decode cX11_ahead 93 = .ok (.invokevirtual 425, 3) := by decide +kernel
theorem dX11_ahead_96 : decode cX11_ahead 96 = .ok (.iload 4, 2) := by decide +kernel
theorem dX11_ahead_98 : decode cX11_ahead 98 = .ok (.ireturn, 1) := by decide +kernel
theorem dX11_bare_0 : decode cX11_bare 0 = .ok (.aload_n 0, 1) := by decide +kernel
theorem dX11_bare_1 : decode cX11_bare 1 = .ok (.iload_n 1, 1) := by decide +kernel
theorem dX11_bare_2 : decode cX11_bare 2 = .ok (.invokevirtual 340, 3) := by decide +kernel
theorem dX11_bare_5 : decode cX11_bare 5 = .ok (.ifCond .ne 5, 3) := by decide +kernel
theorem dX11_bare_8 : decode cX11_bare 8 = .ok (.iconst (-1), 1) := by decide +kernel
theorem dX11_bare_9 : decode cX11_bare 9 = .ok (.ireturn, 1) := by decide +kernel
theorem dX11_bare_10 : decode cX11_bare 10 = .ok (.aload_n 0, 1) := by decide +kernel
theorem dX11_bare_11 : decode cX11_bare 11 = .ok (.invokevirtual 432, 3) := by decide +kernel
theorem dX11_bare_14 : decode cX11_bare 14 = .ok (.bipush (-2), 2) := by decide +kernel
theorem dX11_bare_16 : decode cX11_bare 16 = .ok (.istore_n 2, 1) := by decide +kernel
theorem dX11_bare_17 : decode cX11_bare 17 = .ok (.iconst 0, 1) := by decide +kernel
theorem dX11_bare_18 : decode cX11_bare 18 = .ok (.istore_n 3, 1) := by decide +kernel
theorem dX11_bare_19 : decode cX11_bare 19 = .ok (.iload_n 3, 1) := by decide +kernel
theorem dX11_bare_20 : decode cX11_bare 20 = .ok (.bipush 100, 2) := by decide +kernel
theorem dX11_bare_22 : decode cX11_bare 22 = .ok (.if_icmp .ge 41, 3) := by decide +kernel
theorem dX11_bare_25 : decode cX11_bare 25 = .ok (.iload_n 2, 1) := by decide +kernel
theorem dX11_bare_26 : decode cX11_bare 26 = .ok (.bipush (-2), 2) := by decide +kernel
theorem dX11_bare_28 : decode cX11_bare 28 = .ok (.if_icmp .ne 35, 3) := by decide +kernel
theorem dX11_bare_31 : decode cX11_bare 31 = .ok (.aload_n 0, 1) := by decide +kernel
theorem dX11_bare_32 : decode cX11_bare 32 = .ok (.getfield 19, 3) := by decide +kernel
theorem dX11_bare_35 : decode cX11_bare 35 = .ok (.iload_n 1, 1) := by decide +kernel
theorem dX11_bare_36 : decode cX11_bare 36 = .ok (.iaload, 1) := by decide +kernel
theorem dX11_bare_37 : decode cX11_bare 37 = .ok (.ifCond .ne 12, 3) := by decide +kernel
theorem dX11_bare_40 : decode cX11_bare 40 = .ok (.aload_n 0, 1) := by decide +kernel
theorem dX11_bare_41 : decode cX11_bare 41 = .ok (.getfield 9, 3) := by decide +kernel
theorem dX11_bare_44 : decode cX11_bare 44 = .ok (.iconst 4, 1) := by decide +kernel
theorem dX11_bare_45 : decode cX11_bare 45 = .ok (.iaload, 1) := by decide +kernel
theorem dX11_bare_46 : decode cX11_bare 46 = .ok (.goto 5, 3) := by decide +kernel
theorem dX11_bare_49 : decode cX11_bare 49 = .ok (.bipush (-2), 2) := by decide +kernel
theorem dX11_bare_51 : decode cX11_bare 51 = .ok (.istore_n 2, 1) := by decide +kernel
theorem dX11_bare_52 : decode cX11_bare 52 = .ok (.aload_n 0, 1) := by decide +kernel
theorem dX11_bare_53 : decode cX11_bare 53 = .ok (.invokevirtual 385, 3) := by decide +kernel
theorem dX11_bare_56 : decode cX11_bare 56 = .ok (.pop, 1) := by decide +kernel
theorem dX11_bare_57 : decode cX11_bare 57 = .ok (.iinc 3 1, 3) := by decide +kernel
theorem dX11_bare_60 : decode cX11_bare 60 = .ok (.goto (-41), 3) := by decide +kernel
theorem dX11_bare_63 : decode cX11_bare 63 = .ok (.aload_n 0, 1) := by decide +kernel
theorem dX11_bare_64 : decode cX11_bare 64 = .ok (.invokevirtual 425, 3) := by decide +kernel
theorem dX11_bare_67 : decode cX11_bare 67 = .ok (.iload_n 2, 1) := by decide +kernel
theorem dX11_bare_68 : decode cX11_bare 68 = .ok (.ireturn, 1) := by decide +kernel
theorem dX11_barnByRow_0 : decode cX11_barnByRow 0 = .ok (.iload 4, 2) := by decide +kernel
theorem dX11_barnByRow_2 : decode cX11_barnByRow 2 = .ok (.istore 5, 2) := by decide +kernel
theorem dX11_barnByRow_4 : decode cX11_barnByRow 4 = .ok (.aload_n 0, 1) := by decide +kernel
theorem dX11_barnByRow_5 : decode cX11_barnByRow 5 = .ok (.iload_n 1, 1) := by decide +kernel
theorem dX11_barnByRow_6 : decode cX11_barnByRow 6 = .ok (.putfield 100, 3) := by decide +kernel
theorem dX11_barnByRow_9 : decode cX11_barnByRow 9 = .ok (.aload_n 0, 1) := by decide +kernel
theorem dX11_barnByRow_10 : decode cX11_barnByRow 10 = .ok (.iconst 1, 1) := by decide +kernel
theorem dX11_barnByRow_11 : decode cX11_barnByRow 11 = .ok (.putfield 366, 3) := by decide +kernel
theorem dX11_barnByRow_14 : decode cX11_barnByRow 14 = .ok (.iconst 0, 1) := by decide +kernel
theorem dX11_barnByRow_15 : decode cX11_barnByRow 15 = .ok (.istore 6, 2) := by decide +kernel
theorem dX11_barnByRow_17 : decode cX11_barnByRow 17 = .ok (.iload 6, 2) := by decide +kernel
theorem dX11_barnByRow_19 : decode cX11_barnByRow 19 = .ok (.iload_n 2, 1) := by decide +kernel
theorem dX11_barnByRow_20 : decode cX11_barnByRow 20 = .ok (.if_icmp .ge 57, 3) := by decide +kernel
theorem dX11_barnByRow_23 : decode cX11_barnByRow 23 = .ok (.iload 5, 2) := by decide +kernel
theorem dX11_barnByRow_25 : decode cX11_barnByRow 25 = .ok (.aload_n 0, 1) := by decide +kernel
theorem dX11_barnByRow_26 : decode cX11_barnByRow 26 = .ok (.getfield 9, 3) := by decide +kernel
theorem dX11_barnByRow_29 : decode cX11_barnByRow 29 = .ok (.iconst 2, 1) := by decide +kernel
theorem dX11_barnByRow_30 : decode cX11_barnByRow 30 = .ok (.iaload, 1) := by decide +kernel
theorem dX11_barnByRow_31 : decode cX11_barnByRow 31 = .ok (.iconst 1, 1) := by decide +kernel
theorem dX11_barnByRow_32 : decode cX11_barnByRow 32 = .ok (.iadd, 1) := by decide +kernel
theorem dX11_barnByRow_33 : decode cX11_barnByRow 33 = .ok (.idiv, 1) := by decide +kernel
theorem dX11_barnByRow_34 : decode cX11_barnByRow 34 = .ok (.istore 5, 2) := by decide +kernel
theorem dX11_barnByRow_36 : decode cX11_barnByRow 36 = .ok (.aload_n 0, 1) := by decide +kernel
theorem dX11_barnByRow_37 : decode cX11_barnByRow 37 = .ok (.iload_n 3, 1) := by decide +kernel
theorem dX11_barnByRow_38 : decode cX11_barnByRow 38 = .ok (.iload 5, 2) := by decide +kernel
theorem dX11_barnByRow_40 : decode cX11_barnByRow 40 = .ok (.idiv, 1) := by decide +kernel
theorem dX11_barnByRow_41 : decode cX11_barnByRow 41 = .ok (.aload_n 0, 1) := by decide +kernel
theorem dX11_barnByRow_42 : decode cX11_barnByRow 42 = .ok (.getfield 9, 3) := by decide +kernel
theorem dX11_barnByRow_45 : decode cX11_barnByRow 45 = .ok (.iconst 2, 1) := by decide +kernel
theorem dX11_barnByRow_46 : decode cX11_barnByRow 46 = .ok (.iaload, 1) := by decide +kernel
theorem dX11_barnByRow_47 : decode cX11_barnByRow 47 = .ok (.iconst 1, 1) := by decide +kernel
theorem dX11_barnByRow_48 : decode cX11_barnByRow 48 = .ok (.iadd, 1) := by decide +kernel
theorem dX11_barnByRow_49 : decode cX11_barnByRow 49 = .ok (.irem, 1) := by decide +kernel
theorem dX11_barnByRow_50 : decode cX11_barnByRow 50 = .ok (.iconst 1, 1) := by decide +kernel
theorem dX11_barnByRow_51 : decode cX11_barnByRow 51 = .ok (.isub, 1) := by decide +kernel
theorem dX11_barnByRow_52 : decode cX11_barnByRow 52 = .ok (.putfield 370, 3) := by decide +kernel
theorem dX11_barnByRow_55 : decode cX11_barnByRow 55 = .ok (.aload_n 0, 1) := by decide +kernel
theorem dX11_barnByRow_56 : decode cX11_barnByRow 56 = .ok (.getfield 109, 3) := by decide +kernel
theorem dX11_barnByRow_59 : decode cX11_barnByRow 59 = .ok (.iload 6, 2) := by decide +kernel
theorem dX11_barnByRow_61 : decode cX11_barnByRow 61 = .ok (.aload_n 0, 1) := by decide +kernel
theorem dX11_barnByRow_62 : decode cX11_barnByRow 62 = .ok (.getfield 370, 3) := by decide +kernel
theorem dX11_barnByRow_65 : decode cX11_barnByRow 65 = .ok (.iastore, 1) := by decide +kernel
theorem dX11_barnByRow_66 : decode cX11_barnByRow 66 = .ok (.aload_n 0, 1) := by decide +kernel
theorem dX11_barnByRow_67 : decode cX11_barnByRow 67 = .ok (.invokevirtual 385, 3) := by decide +kernel
theorem dX11_barnByRow_70 : decode cX11_barnByRow 70 = .ok (.pop, 1) := by decide +kernel
theorem dX11_barnByRow_71 : decode cX11_barnByRow 71 = .ok (.iinc 6 1, 3) := by decide +kernel
theorem dX11_barnByRow_74 : decode cX11_barnByRow 74 = .ok (.goto (-57), 3) := by decide +kernel
theorem dX11_barnByRow_77 : decode cX11_barnByRow 77 = .ok (.aload_n 0, 1) := by decide +kernel
theorem dX11_barnByRow_78 : decode cX11_barnByRow 78 = .ok (.iconst (-1), 1) := by decide +kernel
theorem dX11_barnByRow_79 : decode cX11_barnByRow 79 = .ok (.putfield 100, 3) := by decide +kernel
theorem dX11_barnByRow_82 : decode cX11_barnByRow 82 = .ok (.aload_n 0, 1) := by decide +kernel
theorem dX11_barnByRow_83 : decode cX11_barnByRow 83 = .ok (.getfield 366, 3) := by decide +kernel
theorem dX11_barnByRow_86 : decode cX11_barnByRow 86 = .ok (.ifCond .eq 12, 3) := by decide +kernel
theorem dX11_barnByRow_89 : decode cX11_barnByRow 89 = .ok (.aload_n 0, 1) := by decide +kernel
theorem dX11_barnByRow_90 : decode cX11_barnByRow 90 = .ok (.getfield 22, 3) := by decide +kernel
theorem dX11_barnByRow_93 : decode cX11_barnByRow 93 = .ok (.iload_n 1, 1) := by decide +kernel
theorem dX11_barnByRow_94 : decode cX11_barnByRow 94 = .ok (.iaload, 1) := by decide +kernel
theorem dX11_barnByRow_95 : decode cX11_barnByRow 95 = .ok (.goto 4, 3) := by decide +kernel
theorem dX11_barnByRow_98 : decode cX11_barnByRow 98 = .ok (.iconst (-1), 1) := by decide +kernel
theorem dX11_barnByRow_99 : decode cX11_barnByRow 99 = .ok (.istore 6, 2) := by decide +kernel
theorem dX11_barnByRow_101 : decode cX11_barnByRow 101 = .ok (.aload_n 0, 1) := by decide +kernel
theorem dX11_barnByRow_102 : decode cX11_barnByRow 102 = .ok (.invokevirtual 425, 3) := by decide +kernel
theorem dX11_barnByRow_105 : decode cX11_barnByRow 105 = .ok (.iload 6, 2) := by decide +kernel
theorem dX11_barnByRow_107 : decode cX11_barnByRow 107 = .ok (.ireturn, 1) := by decide +kernel
theorem dX11_row_0 : decode cX11_row 0 = .ok (.aload_n 0, 1) := by decide +kernel
theorem dX11_row_1 : decode cX11_row 1 = .ok (.iload_n 1, 1) := by decide +kernel
theorem dX11_row_2 : decode cX11_row 2 = .ok (.invokevirtual 340, 3) := by decide +kernel
theorem dX11_row_5 : decode cX11_row 5 = .ok (.ifCond .eq 27, 3) := by decide +kernel
theorem dX11_row_8 : decode cX11_row 8 = .ok (.iload_n 2, 1) := by decide +kernel
theorem dX11_row_9 : decode cX11_row 9 = .ok (.i2l, 1) := by decide +kernel
theorem dX11_row_10 : decode cX11_row 10 = .ok (.lconst 1, 1) := by decide +kernel
theorem dX11_row_11 : decode cX11_row 11 = .ok (.ldc2_w 435, 3) := by decide +kernel
theorem dX11_row_14 : decode cX11_row 14 = .ok (.invokestatic 134, 3) := by decide +kernel
theorem dX11_row_17 : decode cX11_row 17 = .ok (.ifCond .eq 15, 3) := by decide +kernel
theorem dX11_row_20 : decode cX11_row 20 = .ok (.iload_n 3, 1) := by decide +kernel
theorem dX11_row_21 : decode cX11_row 21 = .ok (.i2l, 1) := by decide +kernel
theorem dX11_row_22 : decode cX11_row 22 = .ok (.lconst 0, 1) := by decide +kernel
theorem dX11_row_23 : decode cX11_row 23 = .ok (.ldc2_w 435, 3) := by decide +kernel
theorem dX11_row_26 : decode cX11_row 26 = .ok (.invokestatic 134, 3) := by decide +kernel
theorem dX11_row_29 : decode cX11_row 29 = .ok (.ifCond .ne 6, 3) := by decide +kernel
theorem dX11_row_32 : decode cX11_row 32 = .ok (.bipush (-3), 2) := by decide +kernel
theorem dX11_row_34 : decode cX11_row 34 = .ok (.ireturn, 1) := by decide +kernel
theorem dX11_row_35 : decode cX11_row 35 = .ok (.iconst 1, 1) := by decide +kernel
theorem dX11_row_36 : decode cX11_row 36 = .ok (.istore 4, 2) := by decide +kernel
theorem dX11_row_38 : decode cX11_row 38 = .ok (.iconst 0, 1) := by decide +kernel
theorem dX11_row_39 : decode cX11_row 39 = .ok (.istore 5, 2) := by decide +kernel
theorem dX11_row_41 : decode cX11_row 41 = .ok (.iload 5, 2) := by decide +kernel
theorem dX11_row_43 : decode cX11_row 43 = .ok (.iload_n 2, 1) := by decide +kernel
theorem dX11_row_44 : decode cX11_row 44 = .ok (.if_icmp .ge 22, 3) := by decide +kernel
theorem dX11_row_47 : decode cX11_row 47 = .ok (.iload 4, 2) := by decide +kernel
theorem dX11_row_49 : decode cX11_row 49 = .ok (.aload_n 0, 1) := by decide +kernel
theorem dX11_row_50 : decode cX11_row 50 = .ok (.getfield 9, 3) := by decide +kernel
theorem dX11_row_53 : decode cX11_row 53 = .ok (.iconst 2, 1) := by decide +kernel
theorem dX11_row_54 : decode cX11_row 54 = .ok (.iaload, 1) := by decide +kernel
theorem dX11_row_55 : decode cX11_row 55 = .ok (.iconst 1, 1) := by decide +kernel
theorem dX11_row_56 : decode cX11_row 56 = .ok (.iadd, 1) := by decide +kernel
theorem dX11_row_57 : decode cX11_row 57 = .ok (.imul, 1) := by decide +kernel
theorem dX11_row_58 : decode cX11_row 58 = .ok (.istore 4, 2) := by decide +kernel
theorem dX11_row_60 : decode cX11_row 60 = .ok (.iinc 5 1, 3) := by decide +kernel
theorem dX11_row_63 : decode cX11_row 63 = .ok (.goto (-22), 3) := by decide +kernel
theorem dX11_row_66 : decode cX11_row 66 = .ok (.iconst (-1), 1) := by decide +kernel
theorem dX11_row_67 : decode cX11_row 67 = .ok (.istore 5, 2) := by decide +kernel
theorem dX11_row_69 : decode cX11_row 69 = .ok (.aload_n 0, 1) := by decide +kernel
theorem dX11_row_70 : decode cX11_row 70 = .ok (.invokevirtual 432, 3) := by decide +kernel
theorem dX11_row_73 : decode cX11_row 73 = .ok (.iconst 0, 1) := by decide +kernel
theorem dX11_row_74 : decode cX11_row 74 = .ok (.istore 6, 2) := by decide +kernel
theorem dX11_row_76 : decode cX11_row 76 = .ok (.iload 6, 2) := by decide +kernel
theorem dX11_row_78 : decode cX11_row 78 = .ok (.iload 4, 2) := by decide +kernel
theorem dX11_row_80 : decode cX11_row 80 = .ok (.if_icmp .ge 43, 3) := by decide +kernel
theorem dX11_row_83 : decode cX11_row 83 = .ok (.aload_n 0, 1) := by decide +kernel
theorem dX11_row_84 : decode cX11_row 84 = .ok (.iload_n 1, 1) := by decide +kernel
theorem dX11_row_85 : decode cX11_row 85 = .ok (.iload_n 2, 1) := by decide +kernel
theorem dX11_row_86 : decode cX11_row 86 = .ok (.iload 6, 2) := by decide +kernel
theorem dX11_row_88 : decode cX11_row 88 = .ok (.iload 4, 2) := by decide +kernel
theorem dX11_row_90 : decode cX11_row 90 = .ok (.invokevirtual 437, 3) := by decide +kernel
theorem dX11_row_93 : decode cX11_row 93 = .ok (.istore 7, 2) := by decide +kernel
theorem dX11_row_95 : decode cX11_row 95 = .ok (.iload 7, 2) := by decide +kernel
theorem dX11_row_97 : decode cX11_row 97 = .ok (.iload 5, 2) := by decide +kernel
theorem dX11_row_99 : decode cX11_row 99 = .ok (.if_icmp .le 18, 3) := by decide +kernel
theorem dX11_row_102 : decode cX11_row 102 = .ok (.iload 7, 2) := by decide +kernel
theorem dX11_row_104 : decode cX11_row 104 = .ok (.istore 5, 2) := by decide +kernel
theorem dX11_row_106 : decode cX11_row 106 = .ok (.aload_n 0, 1) := by decide +kernel
theorem dX11_row_107 : decode cX11_row 107 = .ok (.getfield 109, 3) := by decide +kernel
theorem dX11_row_110 : decode cX11_row 110 = .ok (.aload_n 0, 1) := by decide +kernel
theorem dX11_row_111 : decode cX11_row 111 = .ok (.getfield 112, 3) := by decide +kernel
theorem dX11_row_114 : decode cX11_row 114 = .ok (.invokestatic 288, 3) := by decide +kernel
theorem dX11_row_117 : decode cX11_row 117 = .ok (.iinc 6 1, 3) := by decide +kernel
theorem dX11_row_120 : decode cX11_row 120 = .ok (.goto (-44), 3) := by decide +kernel
theorem dX11_row_123 : decode cX11_row 123 = .ok (.iload_n 3, 1) := by decide +kernel
theorem dX11_row_124 : decode cX11_row 124 = .ok (.ifCond .ne 8, 3) := by decide +kernel
theorem dX11_row_127 : decode cX11_row 127 = .ok (.iload 5, 2) := by decide +kernel
theorem dX11_row_129 : decode cX11_row 129 = .ok (.goto 21, 3) := by decide +kernel
theorem dX11_row_132 : decode cX11_row 132 = .ok (.iload_n 3, 1) := by decide +kernel
theorem dX11_row_133 : decode cX11_row 133 = .ok (.iload_n 2, 1) := by decide +kernel
theorem dX11_row_134 : decode cX11_row 134 = .ok (.if_icmp .gt 14, 3) := by decide +kernel
theorem dX11_row_137 : decode cX11_row 137 = .ok (.aload_n 0, 1) := by decide +kernel
theorem dX11_row_138 : decode cX11_row 138 = .ok (.getfield 112, 3) := by decide +kernel
theorem dX11_row_141 : decode cX11_row 141 = .ok (.iload_n 3, 1) := by decide +kernel
theorem dX11_row_142 : decode cX11_row 142 = .ok (.iconst 1, 1) := by decide +kernel
theorem dX11_row_143 : decode cX11_row 143 = .ok (.isub, 1) := by decide +kernel
theorem dX11_row_144 : decode cX11_row 144 = .ok (.iaload, 1) := by decide +kernel
theorem dX11_row_145 : decode cX11_row 145 = .ok (.goto 5, 3) := by decide +kernel
theorem dX11_row_148 : decode cX11_row 148 = .ok (.bipush (-2), 2) := by decide +kernel
theorem dX11_row_150 : decode cX11_row 150 = .ok (.ireturn, 1) := by decide +kernel
theorem dX11_best_0 : decode cX11_best 0 = .ok (.aload_n 0, 1) := by decide +kernel
theorem dX11_best_1 : decode cX11_best 1 = .ok (.invokevirtual 405, 3) := by decide +kernel
theorem dX11_best_4 : decode cX11_best 4 = .ok (.ifCond .eq 25, 3) := by decide +kernel
theorem dX11_best_7 : decode cX11_best 7 = .ok (.iload_n 1, 1) := by decide +kernel
theorem dX11_best_8 : decode cX11_best 8 = .ok (.i2l, 1) := by decide +kernel
theorem dX11_best_9 : decode cX11_best 9 = .ok (.lconst 1, 1) := by decide +kernel
theorem dX11_best_10 : decode cX11_best 10 = .ok (.ldc2_w 347, 3) := by decide +kernel
theorem dX11_best_13 : decode cX11_best 13 = .ok (.invokestatic 134, 3) := by decide +kernel
theorem dX11_best_16 : decode cX11_best 16 = .ok (.ifCond .eq 13, 3) := by decide +kernel
theorem dX11_best_19 : decode cX11_best 19 = .ok (.iload_n 2, 1) := by decide +kernel
theorem dX11_best_20 : decode cX11_best 20 = .ok (.i2l, 1) := by decide +kernel
theorem dX11_best_21 : decode cX11_best 21 = .ok (.lconst 0, 1) := by decide +kernel
theorem dX11_best_22 : decode cX11_best 22 = .ok (.lconst 1, 1) := by decide +kernel
theorem dX11_best_23 : decode cX11_best 23 = .ok (.invokestatic 134, 3) := by decide +kernel
theorem dX11_best_26 : decode cX11_best 26 = .ok (.ifCond .ne 5, 3) := by decide +kernel
theorem dX11_best_29 : decode cX11_best 29 = .ok (.iconst (-1), 1) := by decide +kernel
theorem dX11_best_30 : decode cX11_best 30 = .ok (.ireturn, 1) := by decide +kernel
theorem dX11_best_31 : decode cX11_best 31 = .ok (.iconst (-1), 1) := by decide +kernel
theorem dX11_best_32 : decode cX11_best 32 = .ok (.istore_n 3, 1) := by decide +kernel
theorem dX11_best_33 : decode cX11_best 33 = .ok (.iconst (-1), 1) := by decide +kernel
theorem dX11_best_34 : decode cX11_best 34 = .ok (.istore 4, 2) := by decide +kernel
theorem dX11_best_36 : decode cX11_best 36 = .ok (.aload_n 0, 1) := by decide +kernel
theorem dX11_best_37 : decode cX11_best 37 = .ok (.invokevirtual 432, 3) := by decide +kernel
theorem dX11_best_40 : decode cX11_best 40 = .ok (.iconst 1, 1) := by decide +kernel
theorem dX11_best_41 : decode cX11_best 41 = .ok (.istore 5, 2) := by decide +kernel
theorem dX11_best_43 : decode cX11_best 43 = .ok (.iload 5, 2) := by decide +kernel
theorem dX11_best_45 : decode cX11_best 45 = .ok (.bipush 9, 2) := by decide +kernel
theorem dX11_best_47 : decode cX11_best 47 = .ok (.if_icmp .gt 38, 3) := by decide +kernel
theorem dX11_best_50 : decode cX11_best 50 = .ok (.aload_n 0, 1) := by decide +kernel
theorem dX11_best_51 : decode cX11_best 51 = .ok (.getfield 9, 3) := by decide +kernel
theorem dX11_best_54 : decode cX11_best 54 = .ok (.iconst 3, 1) := by decide +kernel
theorem dX11_best_55 : decode cX11_best 55 = .ok (.iload 5, 2) := by decide +kernel
theorem dX11_best_57 : decode cX11_best 57 = .ok (.iastore, 1) := by decide +kernel
theorem dX11_best_58 : decode cX11_best 58 = .ok (.aload_n 0, 1) := by decide +kernel
theorem dX11_best_59 : decode cX11_best 59 = .ok (.iload_n 1, 1) := by decide +kernel
theorem dX11_best_60 : decode cX11_best 60 = .ok (.invokevirtual 441, 3) := by decide +kernel
theorem dX11_best_63 : decode cX11_best 63 = .ok (.istore 6, 2) := by decide +kernel
theorem dX11_best_65 : decode cX11_best 65 = .ok (.iload 6, 2) := by decide +kernel
theorem dX11_best_67 : decode cX11_best 67 = .ok (.iload 4, 2) := by decide +kernel
theorem dX11_best_69 : decode cX11_best 69 = .ok (.if_icmp .le 10, 3) := by decide +kernel
theorem dX11_best_72 : decode cX11_best 72 = .ok (.iload 5, 2) := by decide +kernel
theorem dX11_best_74 : decode cX11_best 74 = .ok (.istore_n 3, 1) := by decide +kernel
theorem dX11_best_75 : decode cX11_best 75 = .ok (.iload 6, 2) := by decide +kernel
theorem dX11_best_77 : decode cX11_best 77 = .ok (.istore 4, 2) := by decide +kernel
theorem dX11_best_79 : decode cX11_best 79 = .ok (.iinc 5 1, 3) := by decide +kernel
theorem dX11_best_82 : decode cX11_best 82 = .ok (.goto (-39), 3) := by decide +kernel
theorem dX11_best_85 : decode cX11_best 85 = .ok (.iload_n 2, 1) := by decide +kernel
theorem dX11_best_86 : decode cX11_best 86 = .ok (.ifCond .ne 7, 3) := by decide +kernel
theorem dX11_best_89 : decode cX11_best 89 = .ok (.iload_n 3, 1) := by decide +kernel
theorem dX11_best_90 : decode cX11_best 90 = .ok (.goto 5, 3) := by decide +kernel
theorem dX11_best_93 : decode cX11_best 93 = .ok (.iload 4, 2) := by decide +kernel
theorem dX11_best_95 : decode cX11_best 95 = .ok (.ireturn, 1) := by decide +kernel
theorem dX11_quiet_0 : decode cX11_quiet 0 = .ok (.aload_n 0, 1) := by decide +kernel
theorem dX11_quiet_1 : decode cX11_quiet 1 = .ok (.invokevirtual 405, 3) := by decide +kernel
theorem dX11_quiet_4 : decode cX11_quiet 4 = .ok (.ifCond .ne 5, 3) := by decide +kernel
theorem dX11_quiet_7 : decode cX11_quiet 7 = .ok (.iconst (-1), 1) := by decide +kernel
theorem dX11_quiet_8 : decode cX11_quiet 8 = .ok (.ireturn, 1) := by decide +kernel
theorem dX11_quiet_9 : decode cX11_quiet 9 = .ok (.aload_n 0, 1) := by decide +kernel
theorem dX11_quiet_10 : decode cX11_quiet 10 = .ok (.getfield 9, 3) := by decide +kernel
theorem dX11_quiet_13 : decode cX11_quiet 13 = .ok (.iconst 4, 1) := by decide +kernel
theorem dX11_quiet_14 : decode cX11_quiet 14 = .ok (.iaload, 1) := by decide +kernel
theorem dX11_quiet_15 : decode cX11_quiet 15 = .ok (.istore_n 1, 1) := by decide +kernel
theorem dX11_quiet_16 : decode cX11_quiet 16 = .ok (.iconst 0, 1) := by decide +kernel
theorem dX11_quiet_17 : decode cX11_quiet 17 = .ok (.istore_n 2, 1) := by decide +kernel
theorem dX11_quiet_18 : decode cX11_quiet 18 = .ok (.bipush (-2), 2) := by decide +kernel
theorem dX11_quiet_20 : decode cX11_quiet 20 = .ok (.istore_n 3, 1) := by decide +kernel
theorem dX11_quiet_21 : decode cX11_quiet 21 = .ok (.aload_n 0, 1) := by decide +kernel
theorem dX11_quiet_22 : decode cX11_quiet 22 = .ok (.invokevirtual 432, 3) := by decide +kernel
theorem dX11_quiet_25 : decode cX11_quiet 25 = .ok (.iconst 0, 1) := by decide +kernel
theorem dX11_quiet_26 : decode cX11_quiet 26 = .ok (.istore 4, 2) := by decide +kernel
theorem dX11_quiet_28 : decode cX11_quiet 28 = .ok (.iload 4, 2) := by decide +kernel
theorem dX11_quiet_30 : decode cX11_quiet 30 = .ok (.bipush 64, 2) := by decide +kernel
theorem dX11_quiet_32 : decode cX11_quiet 32 = .ok (.if_icmp .ge 47, 3) := by decide +kernel
theorem dX11_quiet_35 : decode cX11_quiet 35 = .ok (.iload_n 3, 1) := by decide +kernel
theorem dX11_quiet_36 : decode cX11_quiet 36 = .ok (.bipush (-2), 2) := by decide +kernel
theorem dX11_quiet_38 : decode cX11_quiet 38 = .ok (.if_icmp .ne 41, 3) := by decide +kernel
theorem dX11_quiet_41 : decode cX11_quiet 41 = .ok (.aload_n 0, 1) := by decide +kernel
theorem dX11_quiet_42 : decode cX11_quiet 42 = .ok (.invokevirtual 385, 3) := by decide +kernel
theorem dX11_quiet_45 : decode cX11_quiet 45 = .ok (.ifCond .ne 9, 3) := by decide +kernel
theorem dX11_quiet_48 : decode cX11_quiet 48 = .ok (.iload_n 2, 1) := by decide +kernel
theorem dX11_quiet_49 : decode cX11_quiet 49 = .ok (.iconst 1, 1) := by decide +kernel
theorem dX11_quiet_50 : decode cX11_quiet 50 = .ok (.iadd, 1) := by decide +kernel
theorem dX11_quiet_51 : decode cX11_quiet 51 = .ok (.goto 4, 3) := by decide +kernel
theorem dX11_quiet_54 : decode cX11_quiet 54 = .ok (.iconst 0, 1) := by decide +kernel
theorem dX11_quiet_55 : decode cX11_quiet 55 = .ok (.istore_n 2, 1) := by decide +kernel
theorem dX11_quiet_56 : decode cX11_quiet 56 = .ok (.iload_n 2, 1) := by decide +kernel
theorem dX11_quiet_57 : decode cX11_quiet 57 = .ok (.iconst 5, 1) := by decide +kernel
theorem dX11_quiet_58 : decode cX11_quiet 58 = .ok (.if_icmp .ne 12, 3) := by decide +kernel
theorem dX11_quiet_61 : decode cX11_quiet 61 = .ok (.iload_n 1, 1) := by decide +kernel
theorem dX11_quiet_62 : decode cX11_quiet 62 = .ok (.iload 4, 2) := by decide +kernel
theorem dX11_quiet_64 : decode cX11_quiet 64 = .ok (.iadd, 1) := by decide +kernel
theorem dX11_quiet_65 : decode cX11_quiet 65 = .ok (.iconst 4, 1) := by decide +kernel
theorem dX11_quiet_66 : decode cX11_quiet 66 = .ok (.isub, 1) := by decide +kernel
theorem dX11_quiet_67 : decode cX11_quiet 67 = .ok (.goto 5, 3) := by decide +kernel
theorem dX11_quiet_70 : decode cX11_quiet 70 = .ok (.bipush (-2), 2) := by decide +kernel
theorem dX11_quiet_72 : decode cX11_quiet 72 = .ok (.istore_n 3, 1) := by decide +kernel
theorem dX11_quiet_73 : decode cX11_quiet 73 = .ok (.iinc 4 1, 3) := by decide +kernel
theorem dX11_quiet_76 : decode cX11_quiet 76 = .ok (.goto (-48), 3) := by decide +kernel
theorem dX11_quiet_79 : decode cX11_quiet 79 = .ok (.aload_n 0, 1) := by decide +kernel
theorem dX11_quiet_80 : decode cX11_quiet 80 = .ok (.invokevirtual 425, 3) := by decide +kernel
theorem dX11_quiet_83 : decode cX11_quiet 83 = .ok (.iload_n 3, 1) := by decide +kernel
theorem dX11_quiet_84 : decode cX11_quiet 84 = .ok (.ireturn, 1) := by decide +kernel
theorem dX11_worth_0 : decode cX11_worth 0 = .ok (.aload_n 0, 1) := by decide +kernel
theorem dX11_worth_1 : decode cX11_worth 1 = .ok (.iload_n 1, 1) := by decide +kernel
theorem dX11_worth_2 : decode cX11_worth 2 = .ok (.invokevirtual 340, 3) := by decide +kernel
theorem dX11_worth_5 : decode cX11_worth 5 = .ok (.ifCond .eq 27, 3) := by decide +kernel
theorem dX11_worth_8 : decode cX11_worth 8 = .ok (.iload_n 2, 1) := by decide +kernel
theorem dX11_worth_9 : decode cX11_worth 9 = .ok (.i2l, 1) := by decide +kernel
theorem dX11_worth_10 : decode cX11_worth 10 = .ok (.lconst 1, 1) := by decide +kernel
theorem dX11_worth_11 : decode cX11_worth 11 = .ok (.ldc2_w 411, 3) := by decide +kernel
theorem dX11_worth_14 : decode cX11_worth 14 = .ok (.invokestatic 134, 3) := by decide +kernel
theorem dX11_worth_17 : decode cX11_worth 17 = .ok (.ifCond .eq 15, 3) := by decide +kernel
theorem dX11_worth_20 : decode cX11_worth 20 = .ok (.iload_n 3, 1) := by decide +kernel
theorem dX11_worth_21 : decode cX11_worth 21 = .ok (.i2l, 1) := by decide +kernel
theorem dX11_worth_22 : decode cX11_worth 22 = .ok (.lconst 1, 1) := by decide +kernel
theorem dX11_worth_23 : decode cX11_worth 23 = .ok (.ldc2_w 347, 3) := by decide +kernel
theorem dX11_worth_26 : decode cX11_worth 26 = .ok (.invokestatic 134, 3) := by decide +kernel
theorem dX11_worth_29 : decode cX11_worth 29 = .ok (.ifCond .ne 7, 3) := by decide +kernel
theorem dX11_worth_32 : decode cX11_worth 32 = .ok (.ldc_w 444, 3) := by decide +kernel
theorem dX11_worth_35 : decode cX11_worth 35 = .ok (.ireturn, 1) := by decide +kernel
theorem dX11_worth_36 : decode cX11_worth 36 = .ok (.aload_n 0, 1) := by decide +kernel
theorem dX11_worth_37 : decode cX11_worth 37 = .ok (.invokevirtual 432, 3) := by decide +kernel
theorem dX11_worth_40 : decode cX11_worth 40 = .ok (.aload_n 0, 1) := by decide +kernel
theorem dX11_worth_41 : decode cX11_worth 41 = .ok (.iload_n 1, 1) := by decide +kernel
theorem dX11_worth_42 : decode cX11_worth 42 = .ok (.iload_n 3, 1) := by decide +kernel
theorem dX11_worth_43 : decode cX11_worth 43 = .ok (.invokevirtual 445, 3) := by decide +kernel
theorem dX11_worth_46 : decode cX11_worth 46 = .ok (.istore 4, 2) := by decide +kernel
theorem dX11_worth_48 : decode cX11_worth 48 = .ok (.aload_n 0, 1) := by decide +kernel
theorem dX11_worth_49 : decode cX11_worth 49 = .ok (.getfield 13, 3) := by decide +kernel
theorem dX11_worth_52 : decode cX11_worth 52 = .ok (.iload_n 1, 1) := by decide +kernel
theorem dX11_worth_53 : decode cX11_worth 53 = .ok (.aload_n 0, 1) := by decide +kernel
theorem dX11_worth_54 : decode cX11_worth 54 = .ok (.getfield 13, 3) := by decide +kernel
theorem dX11_worth_57 : decode cX11_worth 57 = .ok (.iload_n 1, 1) := by decide +kernel
theorem dX11_worth_58 : decode cX11_worth 58 = .ok (.iaload, 1) := by decide +kernel
theorem dX11_worth_59 : decode cX11_worth 59 = .ok (.iload_n 2, 1) := by decide +kernel
theorem dX11_worth_60 : decode cX11_worth 60 = .ok (.iadd, 1) := by decide +kernel
theorem dX11_worth_61 : decode cX11_worth 61 = .ok (.sipush 999, 3) := by decide +kernel
theorem dX11_worth_64 : decode cX11_worth 64 = .ok (.invokestatic 349, 3) := by decide +kernel
theorem dX11_worth_67 : decode cX11_worth 67 = .ok (.iastore, 1) := by decide +kernel
theorem dX11_worth_68 : decode cX11_worth 68 = .ok (.aload_n 0, 1) := by decide +kernel
theorem dX11_worth_69 : decode cX11_worth 69 = .ok (.iload_n 1, 1) := by decide +kernel
theorem dX11_worth_70 : decode cX11_worth 70 = .ok (.iload_n 3, 1) := by decide +kernel
theorem dX11_worth_71 : decode cX11_worth 71 = .ok (.invokevirtual 445, 3) := by decide +kernel
theorem dX11_worth_74 : decode cX11_worth 74 = .ok (.iload 4, 2) := by decide +kernel
theorem dX11_worth_76 : decode cX11_worth 76 = .ok (.isub, 1) := by decide +kernel
theorem dX11_worth_77 : decode cX11_worth 77 = .ok (.ireturn, 1) := by decide +kernel
theorem dX11_need_0 : decode cX11_need 0 = .ok (.aload_n 0, 1) := by decide +kernel
theorem dX11_need_1 : decode cX11_need 1 = .ok (.iload_n 1, 1) := by decide +kernel
theorem dX11_need_2 : decode cX11_need 2 = .ok (.invokevirtual 340, 3) := by decide +kernel
theorem dX11_need_5 : decode cX11_need 5 = .ok (.ifCond .eq 27, 3) := by decide +kernel
theorem dX11_need_8 : decode cX11_need 8 = .ok (.iload_n 2, 1) := by decide +kernel
theorem dX11_need_9 : decode cX11_need 9 = .ok (.i2l, 1) := by decide +kernel
theorem dX11_need_10 : decode cX11_need 10 = .ok (.lconst 1, 1) := by decide +kernel
theorem dX11_need_11 : decode cX11_need 11 = .ok (.ldc2_w 448, 3) := by decide +kernel
theorem dX11_need_14 : decode cX11_need 14 = .ok (.invokestatic 134, 3) := by decide +kernel
theorem dX11_need_17 : decode cX11_need 17 = .ok (.ifCond .eq 15, 3) := by decide +kernel
theorem dX11_need_20 : decode cX11_need 20 = .ok (.iload_n 3, 1) := by decide +kernel
theorem dX11_need_21 : decode cX11_need 21 = .ok (.i2l, 1) := by decide +kernel
theorem dX11_need_22 : decode cX11_need 22 = .ok (.lconst 1, 1) := by decide +kernel
theorem dX11_need_23 : decode cX11_need 23 = .ok (.ldc2_w 347, 3) := by decide +kernel
theorem dX11_need_26 : decode cX11_need 26 = .ok (.invokestatic 134, 3) := by decide +kernel
theorem dX11_need_29 : decode cX11_need 29 = .ok (.ifCond .ne 5, 3) := by decide +kernel
theorem dX11_need_32 : decode cX11_need 32 = .ok (.iconst (-1), 1) := by decide +kernel
theorem dX11_need_33 : decode cX11_need 33 = .ok (.ireturn, 1) := by decide +kernel
theorem dX11_need_34 : decode cX11_need 34 = .ok (.bipush (-2), 2) := by decide +kernel
theorem dX11_need_36 : decode cX11_need 36 = .ok (.istore 4, 2) := by decide +kernel
theorem dX11_need_38 : decode cX11_need 38 = .ok (.aload_n 0, 1) := by decide +kernel
theorem dX11_need_39 : decode cX11_need 39 = .ok (.invokevirtual 432, 3) := by decide +kernel
theorem dX11_need_42 : decode cX11_need 42 = .ok (.iconst 0, 1) := by decide +kernel
theorem dX11_need_43 : decode cX11_need 43 = .ok (.istore 5, 2) := by decide +kernel
theorem dX11_need_45 : decode cX11_need 45 = .ok (.iload 5, 2) := by decide +kernel
theorem dX11_need_47 : decode cX11_need 47 = .ok (.bipush 20, 2) := by decide +kernel
theorem dX11_need_49 : decode cX11_need 49 = .ok (.if_icmp .gt 55, 3) := by decide +kernel
theorem dX11_need_52 : decode cX11_need 52 = .ok (.iload 4, 2) := by decide +kernel
theorem dX11_need_54 : decode cX11_need 54 = .ok (.bipush (-2), 2) := by decide +kernel
theorem dX11_need_56 : decode cX11_need 56 = .ok (.if_icmp .ne 48, 3) := by decide +kernel
theorem dX11_need_59 : decode cX11_need 59 = .ok (.aload_n 0, 1) := by decide +kernel
theorem dX11_need_60 : decode cX11_need 60 = .ok (.getfield 16, 3) := by decide +kernel
theorem dX11_need_63 : decode cX11_need 63 = .ok (.iload_n 1, 1) := by decide +kernel
theorem dX11_need_64 : decode cX11_need 64 = .ok (.aload_n 0, 1) := by decide +kernel
theorem dX11_need_65 : decode cX11_need 65 = .ok (.getfield 16, 3) := by decide +kernel
theorem dX11_need_68 : decode cX11_need 68 = .ok (.iload_n 1, 1) := by decide +kernel
theorem dX11_need_69 : decode cX11_need 69 = .ok (.iaload, 1) := by decide +kernel
theorem dX11_need_70 : decode cX11_need 70 = .ok (.iload 5, 2) := by decide +kernel
theorem dX11_need_72 : decode cX11_need 72 = .ok (.iadd, 1) := by decide +kernel
theorem dX11_need_73 : decode cX11_need 73 = .ok (.bipush 99, 2) := by decide +kernel
theorem dX11_need_75 : decode cX11_need 75 = .ok (.invokestatic 349, 3) := by decide +kernel
theorem dX11_need_78 : decode cX11_need 78 = .ok (.iastore, 1) := by decide +kernel
theorem dX11_need_79 : decode cX11_need 79 = .ok (.aload_n 0, 1) := by decide +kernel
theorem dX11_need_80 : decode cX11_need 80 = .ok (.iload_n 1, 1) := by decide +kernel
theorem dX11_need_81 : decode cX11_need 81 = .ok (.iload_n 3, 1) := by decide +kernel
theorem dX11_need_82 : decode cX11_need 82 = .ok (.invokevirtual 445, 3) := by decide +kernel
theorem dX11_need_85 : decode cX11_need 85 = .ok (.iload_n 2, 1) := by decide +kernel
theorem dX11_need_86 : decode cX11_need 86 = .ok (.if_icmp .lt 8, 3) := by decide +kernel
theorem dX11_need_89 : decode cX11_need 89 = .ok (.iload 5, 2) := by decide +kernel
theorem dX11_need_91 : decode cX11_need 91 = .ok (.goto 5, 3) := by decide +kernel
theorem dX11_need_94 : decode cX11_need 94 = .ok (.bipush (-2), 2) := by decide +kernel
theorem dX11_need_96 : decode cX11_need 96 = .ok (.istore 4, 2) := by decide +kernel
theorem dX11_need_98 : decode cX11_need 98 = .ok (.iinc 5 1, 3) := by decide +kernel
theorem dX11_need_101 : decode cX11_need 101 = .ok (.goto (-56), 3) := by decide +kernel
theorem dX11_need_104 : decode cX11_need 104 = .ok (.iload 4, 2) := by decide +kernel
theorem dX11_need_106 : decode cX11_need 106 = .ok (.ireturn, 1) := by decide +kernel
theorem dX11_playOf_0 : decode cX11_playOf 0 = .ok (.iconst 1, 1) := by decide +kernel
theorem dX11_playOf_1 : decode cX11_playOf 1 = .ok (.istore 5, 2) := by decide +kernel
theorem dX11_playOf_3 : decode cX11_playOf 3 = .ok (.aload_n 0, 1) := by decide +kernel
theorem dX11_playOf_4 : decode cX11_playOf 4 = .ok (.iconst 1, 1) := by decide +kernel
theorem dX11_playOf_5 : decode cX11_playOf 5 = .ok (.iload_n 1, 1) := by decide +kernel
theorem dX11_playOf_6 : decode cX11_playOf 6 = .ok (.ishl, 1) := by decide +kernel
theorem dX11_playOf_7 : decode cX11_playOf 7 = .ok (.iconst 1, 1) := by decide +kernel
theorem dX11_playOf_8 : decode cX11_playOf 8 = .ok (.iload_n 2, 1) := by decide +kernel
theorem dX11_playOf_9 : decode cX11_playOf 9 = .ok (.ishl, 1) := by decide +kernel
theorem dX11_playOf_10 : decode cX11_playOf 10 = .ok (.ior, 1) := by decide +kernel
theorem dX11_playOf_11 : decode cX11_playOf 11 = .ok (.putfield 363, 3) := by decide +kernel
theorem dX11_playOf_14 : decode cX11_playOf 14 = .ok (.iconst 0, 1) := by decide +kernel
theorem dX11_playOf_15 : decode cX11_playOf 15 = .ok (.istore 6, 2) := by decide +kernel
theorem dX11_playOf_17 : decode cX11_playOf 17 = .ok (.iload 6, 2) := by decide +kernel
theorem dX11_playOf_19 : decode cX11_playOf 19 = .ok (.iload_n 3, 1) := by decide +kernel
theorem dX11_playOf_20 : decode cX11_playOf 20 = .ok (.if_icmp .ge 84, 3) := by decide +kernel
theorem dX11_playOf_23 : decode cX11_playOf 23 = .ok (.iload 5, 2) := by decide +kernel
theorem dX11_playOf_25 : decode cX11_playOf 25 = .ok (.ifCond .eq 79, 3) := by decide +kernel
theorem dX11_playOf_28 : decode cX11_playOf 28 = .ok (.iload 6, 2) := by decide +kernel
theorem dX11_playOf_30 : decode cX11_playOf 30 = .ok (.iconst 2, 1) := by decide +kernel
theorem dX11_playOf_31 : decode cX11_playOf 31 = .ok (.irem, 1) := by decide +kernel
theorem dX11_playOf_32 : decode cX11_playOf 32 = .ok (.ifCond .ne 7, 3) := by decide +kernel
theorem dX11_playOf_35 : decode cX11_playOf 35 = .ok (.iload_n 1, 1) := by decide +kernel
theorem dX11_playOf_36 : decode cX11_playOf 36 = .ok (.goto 4, 3) := by decide +kernel
theorem dX11_playOf_39 : decode cX11_playOf 39 = .ok (.iload_n 2, 1) := by decide +kernel
theorem dX11_playOf_40 : decode cX11_playOf 40 = .ok (.istore 7, 2) := by decide +kernel
theorem dX11_playOf_42 : decode cX11_playOf 42 = .ok (.iload 6, 2) := by decide +kernel
theorem dX11_playOf_44 : decode cX11_playOf 44 = .ok (.iconst 2, 1) := by decide +kernel
theorem dX11_playOf_45 : decode cX11_playOf 45 = .ok (.irem, 1) := by decide +kernel
theorem dX11_playOf_46 : decode cX11_playOf 46 = .ok (.ifCond .ne 7, 3) := by decide +kernel
theorem dX11_playOf_49 : decode cX11_playOf 49 = .ok (.iload_n 2, 1) := by decide +kernel
theorem dX11_playOf_50 : decode cX11_playOf 50 = .ok (.goto 4, 3) := by decide +kernel
theorem dX11_playOf_53 : decode cX11_playOf 53 = .ok (.iload_n 1, 1) := by decide +kernel
theorem dX11_playOf_54 : decode cX11_playOf 54 = .ok (.istore 8, 2) := by decide +kernel
theorem dX11_playOf_56 : decode cX11_playOf 56 = .ok (.iload 4, 2) := by decide +kernel
theorem dX11_playOf_58 : decode cX11_playOf 58 = .ok (.iload_n 3, 1) := by decide +kernel
theorem dX11_playOf_59 : decode cX11_playOf 59 = .ok (.iconst 1, 1) := by decide +kernel
theorem dX11_playOf_60 : decode cX11_playOf 60 = .ok (.isub, 1) := by decide +kernel
theorem dX11_playOf_61 : decode cX11_playOf 61 = .ok (.iload 6, 2) := by decide +kernel
theorem dX11_playOf_63 : decode cX11_playOf 63 = .ok (.isub, 1) := by decide +kernel
theorem dX11_playOf_64 : decode cX11_playOf 64 = .ok (.invokestatic 334, 3) := by decide +kernel
theorem dX11_playOf_67 : decode cX11_playOf 67 = .ok (.ifCond .eq 26, 3) := by decide +kernel
theorem dX11_playOf_70 : decode cX11_playOf 70 = .ok (.aload_n 0, 1) := by decide +kernel
theorem dX11_playOf_71 : decode cX11_playOf 71 = .ok (.iload 7, 2) := by decide +kernel
theorem dX11_playOf_73 : decode cX11_playOf 73 = .ok (.iload 8, 2) := by decide +kernel
theorem dX11_playOf_75 : decode cX11_playOf 75 = .ok (.invokevirtual 337, 3) := by decide +kernel
theorem dX11_playOf_78 : decode cX11_playOf 78 = .ok (.istore 5, 2) := by decide +kernel
theorem dX11_playOf_80 : decode cX11_playOf 80 = .ok (.iload 5, 2) := by decide +kernel
theorem dX11_playOf_82 : decode cX11_playOf 82 = .ok (.ifCond .eq 11, 3) := by decide +kernel
theorem dX11_playOf_85 : decode cX11_playOf 85 = .ok (.aload_n 0, 1) := by decide +kernel
theorem dX11_playOf_86 : decode cX11_playOf 86 = .ok (.iload 7, 2) := by decide +kernel
theorem dX11_playOf_88 : decode cX11_playOf 88 = .ok (.iload 8, 2) := by decide +kernel
theorem dX11_playOf_90 : decode cX11_playOf 90 = .ok (.invokevirtual 379, 3) := by decide +kernel
theorem dX11_playOf_93 : decode cX11_playOf 93 = .ok (.aload_n 0, 1) := by decide +kernel
theorem dX11_playOf_94 : decode cX11_playOf 94 = .ok (.invokevirtual 385, 3) := by decide +kernel
theorem dX11_playOf_97 : decode cX11_playOf 97 = .ok (.pop, 1) := by decide +kernel
theorem dX11_playOf_98 : decode cX11_playOf 98 = .ok (.iinc 6 1, 3) := by decide +kernel
theorem dX11_playOf_101 : decode cX11_playOf 101 = .ok (.goto (-84), 3) := by decide +kernel
theorem dX11_playOf_104 : decode cX11_playOf 104 = .ok (.aload_n 0, 1) := by decide +kernel
theorem dX11_playOf_105 : decode cX11_playOf 105 = .ok (.iconst 0, 1) := by decide +kernel
theorem dX11_playOf_106 : decode cX11_playOf 106 = .ok (.putfield 363, 3) := by decide +kernel
theorem dX11_playOf_109 : decode cX11_playOf 109 = .ok (.iload 5, 2) := by decide +kernel
theorem dX11_playOf_111 : decode cX11_playOf 111 = .ok (.ifCond .eq 19, 3) := by decide +kernel
theorem dX11_playOf_114 : decode cX11_playOf 114 = .ok (.aload_n 0, 1) := by decide +kernel
theorem dX11_playOf_115 : decode cX11_playOf 115 = .ok (.getfield 22, 3) := by decide +kernel
theorem dX11_playOf_118 : decode cX11_playOf 118 = .ok (.iload_n 1, 1) := by decide +kernel
theorem dX11_playOf_119 : decode cX11_playOf 119 = .ok (.iaload, 1) := by decide +kernel
theorem dX11_playOf_120 : decode cX11_playOf 120 = .ok (.aload_n 0, 1) := by decide +kernel
theorem dX11_playOf_121 : decode cX11_playOf 121 = .ok (.getfield 22, 3) := by decide +kernel
theorem dX11_playOf_124 : decode cX11_playOf 124 = .ok (.iload_n 2, 1) := by decide +kernel
theorem dX11_playOf_125 : decode cX11_playOf 125 = .ok (.iaload, 1) := by decide +kernel
theorem dX11_playOf_126 : decode cX11_playOf 126 = .ok (.isub, 1) := by decide +kernel
theorem dX11_playOf_127 : decode cX11_playOf 127 = .ok (.goto 6, 3) := by decide +kernel
theorem dX11_playOf_130 : decode cX11_playOf 130 = .ok (.ldc_w 444, 3) := by decide +kernel
theorem dX11_playOf_133 : decode cX11_playOf 133 = .ok (.istore 6, 2) := by decide +kernel
theorem dX11_playOf_135 : decode cX11_playOf 135 = .ok (.aload_n 0, 1) := by decide +kernel
theorem dX11_playOf_136 : decode cX11_playOf 136 = .ok (.invokevirtual 425, 3) := by decide +kernel
theorem dX11_playOf_139 : decode cX11_playOf 139 = .ok (.iload 6, 2) := by decide +kernel
theorem dX11_playOf_141 : decode cX11_playOf 141 = .ok (.ireturn, 1) := by decide +kernel
theorem dX11_better_0 : decode cX11_better 0 = .ok (.iload_n 1, 1) := by decide +kernel
theorem dX11_better_1 : decode cX11_better 1 = .ok (.ldc_w 444, 3) := by decide +kernel
theorem dX11_better_4 : decode cX11_better 4 = .ok (.if_icmp .ne 5, 3) := by decide +kernel
theorem dX11_better_7 : decode cX11_better 7 = .ok (.iload_n 0, 1) := by decide +kernel
theorem dX11_better_8 : decode cX11_better 8 = .ok (.ireturn, 1) := by decide +kernel
theorem dX11_better_9 : decode cX11_better 9 = .ok (.iload_n 2, 1) := by decide +kernel
theorem dX11_better_10 : decode cX11_better 10 = .ok (.iload_n 1, 1) := by decide +kernel
theorem dX11_better_11 : decode cX11_better 11 = .ok (.iload_n 0, 1) := by decide +kernel
theorem dX11_better_12 : decode cX11_better 12 = .ok (.if_icmp .le 7, 3) := by decide +kernel
theorem dX11_better_15 : decode cX11_better 15 = .ok (.iconst 1, 1) := by decide +kernel
theorem dX11_better_16 : decode cX11_better 16 = .ok (.goto 4, 3) := by decide +kernel
theorem dX11_better_19 : decode cX11_better 19 = .ok (.iconst 0, 1) := by decide +kernel
theorem dX11_better_20 : decode cX11_better 20 = .ok (.if_icmp .ne 7, 3) := by decide +kernel
theorem dX11_better_23 : decode cX11_better 23 = .ok (.iload_n 1, 1) := by decide +kernel
theorem dX11_better_24 : decode cX11_better 24 = .ok (.goto 4, 3) := by decide +kernel
theorem dX11_better_27 : decode cX11_better 27 = .ok (.iload_n 0, 1) := by decide +kernel
theorem dX11_better_28 : decode cX11_better 28 = .ok (.ireturn, 1) := by decide +kernel
theorem dX11_game_0 : decode cX11_game 0 = .ok (.aload_n 0, 1) := by decide +kernel
theorem dX11_game_1 : decode cX11_game 1 = .ok (.iload_n 1, 1) := by decide +kernel
theorem dX11_game_2 : decode cX11_game 2 = .ok (.invokevirtual 340, 3) := by decide +kernel
theorem dX11_game_5 : decode cX11_game 5 = .ok (.ifCond .eq 39, 3) := by decide +kernel
theorem dX11_game_8 : decode cX11_game 8 = .ok (.aload_n 0, 1) := by decide +kernel
theorem dX11_game_9 : decode cX11_game 9 = .ok (.iload_n 2, 1) := by decide +kernel
theorem dX11_game_10 : decode cX11_game 10 = .ok (.invokevirtual 340, 3) := by decide +kernel
theorem dX11_game_13 : decode cX11_game 13 = .ok (.ifCond .eq 31, 3) := by decide +kernel
theorem dX11_game_16 : decode cX11_game 16 = .ok (.iload_n 1, 1) := by decide +kernel
theorem dX11_game_17 : decode cX11_game 17 = .ok (.iload_n 2, 1) := by decide +kernel
theorem dX11_game_18 : decode cX11_game 18 = .ok (.if_icmp .eq 26, 3) := by decide +kernel
theorem dX11_game_21 : decode cX11_game 21 = .ok (.iload_n 3, 1) := by decide +kernel
theorem dX11_game_22 : decode cX11_game 22 = .ok (.i2l, 1) := by decide +kernel
theorem dX11_game_23 : decode cX11_game 23 = .ok (.lconst 1, 1) := by decide +kernel
theorem dX11_game_24 : decode cX11_game 24 = .ok (.ldc2_w 435, 3) := by decide +kernel
theorem dX11_game_27 : decode cX11_game 27 = .ok (.invokestatic 134, 3) := by decide +kernel
theorem dX11_game_30 : decode cX11_game 30 = .ok (.ifCond .eq 14, 3) := by decide +kernel
theorem dX11_game_33 : decode cX11_game 33 = .ok (.iload 4, 2) := by decide +kernel
theorem dX11_game_35 : decode cX11_game 35 = .ok (.i2l, 1) := by decide +kernel
theorem dX11_game_36 : decode cX11_game 36 = .ok (.lconst 0, 1) := by decide +kernel
theorem dX11_game_37 : decode cX11_game 37 = .ok (.lconst 1, 1) := by decide +kernel
theorem dX11_game_38 : decode cX11_game 38 = .ok (.invokestatic 134, 3) := by decide +kernel
theorem dX11_game_41 : decode cX11_game 41 = .ok (.ifCond .ne 7, 3) := by decide +kernel
theorem dX11_game_44 : decode cX11_game 44 = .ok (.ldc_w 444, 3) := by decide +kernel
theorem dX11_game_47 : decode cX11_game 47 = .ok (.ireturn, 1) := by decide +kernel
theorem dX11_game_48 : decode cX11_game 48 = .ok (.aload_n 0, 1) := by decide +kernel
theorem dX11_game_49 : decode cX11_game 49 = .ok (.invokevirtual 432, 3) := by decide +kernel
theorem dX11_game_52 : decode cX11_game 52 = .ok (.iconst 0, 1) := by decide +kernel
theorem dX11_game_53 : decode cX11_game 53 = .ok (.istore 5, 2) := by decide +kernel
theorem dX11_game_55 : decode cX11_game 55 = .ok (.iload 5, 2) := by decide +kernel
theorem dX11_game_57 : decode cX11_game 57 = .ok (.iconst 1, 1) := by decide +kernel
theorem dX11_game_58 : decode cX11_game 58 = .ok (.iload_n 3, 1) := by decide +kernel
theorem dX11_game_59 : decode cX11_game 59 = .ok (.ishl, 1) := by decide +kernel
theorem dX11_game_60 : decode cX11_game 60 = .ok (.if_icmp .ge 25, 3) := by decide +kernel
theorem dX11_game_63 : decode cX11_game 63 = .ok (.aload_n 0, 1) := by decide +kernel
theorem dX11_game_64 : decode cX11_game 64 = .ok (.getfield 115, 3) := by decide +kernel
theorem dX11_game_67 : decode cX11_game 67 = .ok (.iload 5, 2) := by decide +kernel
theorem dX11_game_69 : decode cX11_game 69 = .ok (.aload_n 0, 1) := by decide +kernel
theorem dX11_game_70 : decode cX11_game 70 = .ok (.iload_n 1, 1) := by decide +kernel
theorem dX11_game_71 : decode cX11_game 71 = .ok (.iload_n 2, 1) := by decide +kernel
theorem dX11_game_72 : decode cX11_game 72 = .ok (.iload_n 3, 1) := by decide +kernel
theorem dX11_game_73 : decode cX11_game 73 = .ok (.iload 5, 2) := by decide +kernel
theorem dX11_game_75 : decode cX11_game 75 = .ok (.invokevirtual 450, 3) := by decide +kernel
theorem dX11_game_78 : decode cX11_game 78 = .ok (.iastore, 1) := by decide +kernel
theorem dX11_game_79 : decode cX11_game 79 = .ok (.iinc 5 1, 3) := by decide +kernel
theorem dX11_game_82 : decode cX11_game 82 = .ok (.goto (-27), 3) := by decide +kernel
theorem dX11_game_85 : decode cX11_game 85 = .ok (.iload_n 3, 1) := by decide +kernel
theorem dX11_game_86 : decode cX11_game 86 = .ok (.iconst 1, 1) := by decide +kernel
theorem dX11_game_87 : decode cX11_game 87 = .ok (.isub, 1) := by decide +kernel
theorem dX11_game_88 : decode cX11_game 88 = .ok (.istore 5, 2) := by decide +kernel
theorem dX11_game_90 : decode cX11_game 90 = .ok (.iload 5, 2) := by decide +kernel
theorem dX11_game_92 : decode cX11_game 92 = .ok (.ifCond .le 69, 3) := by decide +kernel
theorem dX11_game_95 : decode cX11_game 95 = .ok (.iconst 0, 1) := by decide +kernel
theorem dX11_game_96 : decode cX11_game 96 = .ok (.istore 6, 2) := by decide +kernel
theorem dX11_game_98 : decode cX11_game 98 = .ok (.iload 6, 2) := by decide +kernel
theorem dX11_game_100 : decode cX11_game 100 = .ok (.iconst 1, 1) := by decide +kernel
theorem dX11_game_101 : decode cX11_game 101 = .ok (.iload 5, 2) := by decide +kernel
theorem dX11_game_103 : decode cX11_game 103 = .ok (.ishl, 1) := by decide +kernel
theorem dX11_game_104 : decode cX11_game 104 = .ok (.if_icmp .ge 51, 3) := by decide +kernel
theorem dX11_game_107 : decode cX11_game 107 = .ok (.aload_n 0, 1) := by decide +kernel
theorem dX11_game_108 : decode cX11_game 108 = .ok (.getfield 115, 3) := by decide +kernel
theorem dX11_game_111 : decode cX11_game 111 = .ok (.iload 6, 2) := by decide +kernel
theorem dX11_game_113 : decode cX11_game 113 = .ok (.aload_n 0, 1) := by decide +kernel
theorem dX11_game_114 : decode cX11_game 114 = .ok (.getfield 115, 3) := by decide +kernel
theorem dX11_game_117 : decode cX11_game 117 = .ok (.iconst 2, 1) := by decide +kernel
theorem dX11_game_118 : decode cX11_game 118 = .ok (.iload 6, 2) := by decide +kernel
theorem dX11_game_120 : decode cX11_game 120 = .ok (.imul, 1) := by decide +kernel
theorem dX11_game_121 : decode cX11_game 121 = .ok (.iaload, 1) := by decide +kernel
theorem dX11_game_122 : decode cX11_game 122 = .ok (.aload_n 0, 1) := by decide +kernel
theorem dX11_game_123 : decode cX11_game 123 = .ok (.getfield 115, 3) := by decide +kernel
theorem dX11_game_126 : decode cX11_game 126 = .ok (.iconst 2, 1) := by decide +kernel
theorem dX11_game_127 : decode cX11_game 127 = .ok (.iload 6, 2) := by decide +kernel
theorem dX11_game_129 : decode cX11_game 129 = .ok (.imul, 1) := by decide +kernel
theorem dX11_game_130 : decode cX11_game 130 = .ok (.iconst 1, 1) := by decide +kernel
theorem dX11_game_131 : decode cX11_game 131 = .ok (.iadd, 1) := by decide +kernel
theorem dX11_game_132 : decode cX11_game 132 = .ok (.iaload, 1) := by decide +kernel
theorem dX11_game_133 : decode cX11_game 133 = .ok (.iload 5, 2) := by decide +kernel
theorem dX11_game_135 : decode cX11_game 135 = .ok (.iconst 2, 1) := by decide +kernel
theorem dX11_game_136 : decode cX11_game 136 = .ok (.irem, 1) := by decide +kernel
theorem dX11_game_137 : decode cX11_game 137 = .ok (.ifCond .ne 7, 3) := by decide +kernel
theorem dX11_game_140 : decode cX11_game 140 = .ok (.iconst 1, 1) := by decide +kernel
theorem dX11_game_141 : decode cX11_game 141 = .ok (.goto 4, 3) := by decide +kernel
theorem dX11_game_144 : decode cX11_game 144 = .ok (.iconst 0, 1) := by decide +kernel
theorem dX11_game_145 : decode cX11_game 145 = .ok (.invokestatic 453, 3) := by decide +kernel
theorem dX11_game_148 : decode cX11_game 148 = .ok (.iastore, 1) := by decide +kernel
theorem dX11_game_149 : decode cX11_game 149 = .ok (.iinc 6 1, 3) := by decide +kernel
theorem dX11_game_152 : decode cX11_game 152 = .ok (.goto (-54), 3) := by decide +kernel
theorem dX11_game_155 : decode cX11_game 155 = .ok (.iinc 5 (-1), 3) := by decide +kernel
theorem dX11_game_158 : decode cX11_game 158 = .ok (.goto (-68), 3) := by decide +kernel
theorem dX11_game_161 : decode cX11_game 161 = .ok (.aload_n 0, 1) := by decide +kernel
theorem dX11_game_162 : decode cX11_game 162 = .ok (.getfield 115, 3) := by decide +kernel
theorem dX11_game_165 : decode cX11_game 165 = .ok (.iconst 1, 1) := by decide +kernel
theorem dX11_game_166 : decode cX11_game 166 = .ok (.iaload, 1) := by decide +kernel
theorem dX11_game_167 : decode cX11_game 167 = .ok (.ldc_w 444, 3) := by decide +kernel
theorem dX11_game_170 : decode cX11_game 170 = .ok (.if_icmp .eq 22, 3) := by decide +kernel
theorem dX11_game_173 : decode cX11_game 173 = .ok (.aload_n 0, 1) := by decide +kernel
theorem dX11_game_174 : decode cX11_game 174 = .ok (.getfield 115, 3) := by decide +kernel
theorem dX11_game_177 : decode cX11_game 177 = .ok (.iconst 1, 1) := by decide +kernel
theorem dX11_game_178 : decode cX11_game 178 = .ok (.iaload, 1) := by decide +kernel
theorem dX11_game_179 : decode cX11_game 179 = .ok (.aload_n 0, 1) := by decide +kernel
theorem dX11_game_180 : decode cX11_game 180 = .ok (.getfield 115, 3) := by decide +kernel
theorem dX11_game_183 : decode cX11_game 183 = .ok (.iconst 0, 1) := by decide +kernel
theorem dX11_game_184 : decode cX11_game 184 = .ok (.iaload, 1) := by decide +kernel
theorem dX11_game_185 : decode cX11_game 185 = .ok (.if_icmp .le 7, 3) := by decide +kernel
theorem dX11_game_188 : decode cX11_game 188 = .ok (.iconst 1, 1) := by decide +kernel
theorem dX11_game_189 : decode cX11_game 189 = .ok (.goto 4, 3) := by decide +kernel
theorem dX11_game_192 : decode cX11_game 192 = .ok (.iconst 0, 1) := by decide +kernel
theorem dX11_game_193 : decode cX11_game 193 = .ok (.istore 5, 2) := by decide +kernel
theorem dX11_game_195 : decode cX11_game 195 = .ok (.iload 4, 2) := by decide +kernel
theorem dX11_game_197 : decode cX11_game 197 = .ok (.ifCond .ne 26, 3) := by decide +kernel
theorem dX11_game_200 : decode cX11_game 200 = .ok (.iload 5, 2) := by decide +kernel
theorem dX11_game_202 : decode cX11_game 202 = .ok (.ifCond .eq 12, 3) := by decide +kernel
theorem dX11_game_205 : decode cX11_game 205 = .ok (.aload_n 0, 1) := by decide +kernel
theorem dX11_game_206 : decode cX11_game 206 = .ok (.getfield 115, 3) := by decide +kernel
theorem dX11_game_209 : decode cX11_game 209 = .ok (.iconst 1, 1) := by decide +kernel
theorem dX11_game_210 : decode cX11_game 210 = .ok (.iaload, 1) := by decide +kernel
theorem dX11_game_211 : decode cX11_game 211 = .ok (.goto 22, 3) := by decide +kernel
theorem dX11_game_214 : decode cX11_game 214 = .ok (.aload_n 0, 1) := by decide +kernel
theorem dX11_game_215 : decode cX11_game 215 = .ok (.getfield 115, 3) := by decide +kernel
theorem dX11_game_218 : decode cX11_game 218 = .ok (.iconst 0, 1) := by decide +kernel
theorem dX11_game_219 : decode cX11_game 219 = .ok (.iaload, 1) := by decide +kernel
theorem dX11_game_220 : decode cX11_game 220 = .ok (.goto 13, 3) := by decide +kernel
theorem dX11_game_223 : decode cX11_game 223 = .ok (.iload 5, 2) := by decide +kernel
theorem dX11_game_225 : decode cX11_game 225 = .ok (.ifCond .eq 7, 3) := by decide +kernel
theorem dX11_game_228 : decode cX11_game 228 = .ok (.iconst 1, 1) := by decide +kernel
theorem dX11_game_229 : decode cX11_game 229 = .ok (.goto 4, 3) := by decide +kernel
theorem dX11_game_232 : decode cX11_game 232 = .ok (.iconst 0, 1) := by decide +kernel
theorem dX11_game_233 : decode cX11_game 233 = .ok (.ireturn, 1) := by decide +kernel
theorem dX11_shun_0 : decode cX11_shun 0 = .ok (.aload_n 0, 1) := by decide +kernel
theorem dX11_shun_1 : decode cX11_shun 1 = .ok (.invokevirtual 405, 3) := by decide +kernel
theorem dX11_shun_4 : decode cX11_shun 4 = .ok (.ifCond .eq 27, 3) := by decide +kernel
theorem dX11_shun_7 : decode cX11_shun 7 = .ok (.iload_n 1, 1) := by decide +kernel
theorem dX11_shun_8 : decode cX11_shun 8 = .ok (.i2l, 1) := by decide +kernel
theorem dX11_shun_9 : decode cX11_shun 9 = .ok (.lconst 1, 1) := by decide +kernel
theorem dX11_shun_10 : decode cX11_shun 10 = .ok (.ldc2_w 347, 3) := by decide +kernel
theorem dX11_shun_13 : decode cX11_shun 13 = .ok (.invokestatic 134, 3) := by decide +kernel
theorem dX11_shun_16 : decode cX11_shun 16 = .ok (.ifCond .eq 15, 3) := by decide +kernel
theorem dX11_shun_19 : decode cX11_shun 19 = .ok (.iload_n 2, 1) := by decide +kernel
theorem dX11_shun_20 : decode cX11_shun 20 = .ok (.i2l, 1) := by decide +kernel
theorem dX11_shun_21 : decode cX11_shun 21 = .ok (.lconst 0, 1) := by decide +kernel
theorem dX11_shun_22 : decode cX11_shun 22 = .ok (.ldc2_w 457, 3) := by decide +kernel
theorem dX11_shun_25 : decode cX11_shun 25 = .ok (.invokestatic 134, 3) := by decide +kernel
theorem dX11_shun_28 : decode cX11_shun 28 = .ok (.ifCond .ne 5, 3) := by decide +kernel
theorem dX11_shun_31 : decode cX11_shun 31 = .ok (.iconst (-1), 1) := by decide +kernel
theorem dX11_shun_32 : decode cX11_shun 32 = .ok (.ireturn, 1) := by decide +kernel
theorem dX11_shun_33 : decode cX11_shun 33 = .ok (.iconst 0, 1) := by decide +kernel
theorem dX11_shun_34 : decode cX11_shun 34 = .ok (.istore_n 3, 1) := by decide +kernel
theorem dX11_shun_35 : decode cX11_shun 35 = .ok (.iconst (-1), 1) := by decide +kernel
theorem dX11_shun_36 : decode cX11_shun 36 = .ok (.istore 4, 2) := by decide +kernel
theorem dX11_shun_38 : decode cX11_shun 38 = .ok (.aload_n 0, 1) := by decide +kernel
theorem dX11_shun_39 : decode cX11_shun 39 = .ok (.invokevirtual 432, 3) := by decide +kernel
theorem dX11_shun_42 : decode cX11_shun 42 = .ok (.iconst 0, 1) := by decide +kernel
theorem dX11_shun_43 : decode cX11_shun 43 = .ok (.istore 5, 2) := by decide +kernel
theorem dX11_shun_45 : decode cX11_shun 45 = .ok (.iload 5, 2) := by decide +kernel
theorem dX11_shun_47 : decode cX11_shun 47 = .ok (.iconst 1, 1) := by decide +kernel
theorem dX11_shun_48 : decode cX11_shun 48 = .ok (.aload_n 0, 1) := by decide +kernel
theorem dX11_shun_49 : decode cX11_shun 49 = .ok (.getfield 9, 3) := by decide +kernel
theorem dX11_shun_52 : decode cX11_shun 52 = .ok (.iconst 2, 1) := by decide +kernel
theorem dX11_shun_53 : decode cX11_shun 53 = .ok (.iaload, 1) := by decide +kernel
theorem dX11_shun_54 : decode cX11_shun 54 = .ok (.ishl, 1) := by decide +kernel
theorem dX11_shun_55 : decode cX11_shun 55 = .ok (.if_icmp .ge 55, 3) := by decide +kernel
theorem dX11_shun_58 : decode cX11_shun 58 = .ok (.aload_n 0, 1) := by decide +kernel
theorem dX11_shun_59 : decode cX11_shun 59 = .ok (.iload 5, 2) := by decide +kernel
theorem dX11_shun_61 : decode cX11_shun 61 = .ok (.putfield 331, 3) := by decide +kernel
theorem dX11_shun_64 : decode cX11_shun 64 = .ok (.aload_n 0, 1) := by decide +kernel
theorem dX11_shun_65 : decode cX11_shun 65 = .ok (.iload_n 1, 1) := by decide +kernel
theorem dX11_shun_66 : decode cX11_shun 66 = .ok (.invokevirtual 441, 3) := by decide +kernel
theorem dX11_shun_69 : decode cX11_shun 69 = .ok (.istore 6, 2) := by decide +kernel
theorem dX11_shun_71 : decode cX11_shun 71 = .ok (.iload 6, 2) := by decide +kernel
theorem dX11_shun_73 : decode cX11_shun 73 = .ok (.iload 4, 2) := by decide +kernel
theorem dX11_shun_75 : decode cX11_shun 75 = .ok (.if_icmp .gt 22, 3) := by decide +kernel
theorem dX11_shun_78 : decode cX11_shun 78 = .ok (.iload 6, 2) := by decide +kernel
theorem dX11_shun_80 : decode cX11_shun 80 = .ok (.iload 4, 2) := by decide +kernel
theorem dX11_shun_82 : decode cX11_shun 82 = .ok (.if_icmp .ne 22, 3) := by decide +kernel
theorem dX11_shun_85 : decode cX11_shun 85 = .ok (.iload 5, 2) := by decide +kernel
theorem dX11_shun_87 : decode cX11_shun 87 = .ok (.invokestatic 459, 3) := by decide +kernel
theorem dX11_shun_90 : decode cX11_shun 90 = .ok (.iload_n 3, 1) := by decide +kernel
theorem dX11_shun_91 : decode cX11_shun 91 = .ok (.invokestatic 459, 3) := by decide +kernel
theorem dX11_shun_94 : decode cX11_shun 94 = .ok (.if_icmp .ge 10, 3) := by decide +kernel
theorem dX11_shun_97 : decode cX11_shun 97 = .ok (.iload 5, 2) := by decide +kernel
theorem dX11_shun_99 : decode cX11_shun 99 = .ok (.istore_n 3, 1) := by decide +kernel
theorem dX11_shun_100 : decode cX11_shun 100 = .ok (.iload 6, 2) := by decide +kernel
theorem dX11_shun_102 : decode cX11_shun 102 = .ok (.istore 4, 2) := by decide +kernel
theorem dX11_shun_104 : decode cX11_shun 104 = .ok (.iinc 5 1, 3) := by decide +kernel
theorem dX11_shun_107 : decode cX11_shun 107 = .ok (.goto (-62), 3) := by decide +kernel
theorem dX11_shun_110 : decode cX11_shun 110 = .ok (.aload_n 0, 1) := by decide +kernel
theorem dX11_shun_111 : decode cX11_shun 111 = .ok (.iconst 0, 1) := by decide +kernel
theorem dX11_shun_112 : decode cX11_shun 112 = .ok (.putfield 331, 3) := by decide +kernel
theorem dX11_shun_115 : decode cX11_shun 115 = .ok (.iload_n 2, 1) := by decide +kernel
theorem dX11_shun_116 : decode cX11_shun 116 = .ok (.ifCond .ne 10, 3) := by decide +kernel
theorem dX11_shun_119 : decode cX11_shun 119 = .ok (.iload_n 3, 1) := by decide +kernel
theorem dX11_shun_120 : decode cX11_shun 120 = .ok (.invokestatic 459, 3) := by decide +kernel
theorem dX11_shun_123 : decode cX11_shun 123 = .ok (.goto 14, 3) := by decide +kernel
theorem dX11_shun_126 : decode cX11_shun 126 = .ok (.iload_n 2, 1) := by decide +kernel
theorem dX11_shun_127 : decode cX11_shun 127 = .ok (.iconst 1, 1) := by decide +kernel
theorem dX11_shun_128 : decode cX11_shun 128 = .ok (.if_icmp .ne 7, 3) := by decide +kernel
theorem dX11_shun_131 : decode cX11_shun 131 = .ok (.iload_n 3, 1) := by decide +kernel
theorem dX11_shun_132 : decode cX11_shun 132 = .ok (.goto 5, 3) := by decide +kernel
theorem dX11_shun_135 : decode cX11_shun 135 = .ok (.iload 4, 2) := by decide +kernel
theorem dX11_shun_137 : decode cX11_shun 137 = .ok (.ireturn, 1) := by decide +kernel
theorem dX11_mother_0 : decode cX11_mother 0 = .ok (.aload_n 0, 1) := by decide +kernel
theorem dX11_mother_1 : decode cX11_mother 1 = .ok (.invokevirtual 405, 3) := by decide +kernel
theorem dX11_mother_4 : decode cX11_mother 4 = .ok (.ifCond .eq 25, 3) := by decide +kernel
theorem dX11_mother_7 : decode cX11_mother 7 = .ok (.iload_n 1, 1) := by decide +kernel
theorem dX11_mother_8 : decode cX11_mother 8 = .ok (.i2l, 1) := by decide +kernel
theorem dX11_mother_9 : decode cX11_mother 9 = .ok (.lconst 1, 1) := by decide +kernel
theorem dX11_mother_10 : decode cX11_mother 10 = .ok (.ldc2_w 347, 3) := by decide +kernel
theorem dX11_mother_13 : decode cX11_mother 13 = .ok (.invokestatic 134, 3) := by decide +kernel
theorem dX11_mother_16 : decode cX11_mother 16 = .ok (.ifCond .eq 13, 3) := by decide +kernel
theorem dX11_mother_19 : decode cX11_mother 19 = .ok (.iload_n 2, 1) := by decide +kernel
theorem dX11_mother_20 : decode cX11_mother 20 = .ok (.i2l, 1) := by decide +kernel
theorem dX11_mother_21 : decode cX11_mother 21 = .ok (.lconst 0, 1) := by decide +kernel
theorem dX11_mother_22 : decode cX11_mother 22 = .ok (.lconst 1, 1) := by decide +kernel
theorem dX11_mother_23 : decode cX11_mother 23 = .ok (.invokestatic 134, 3) := by decide +kernel
theorem dX11_mother_26 : decode cX11_mother 26 = .ok (.ifCond .ne 6, 3) := by decide +kernel
theorem dX11_mother_29 : decode cX11_mother 29 = .ok (.bipush (-2), 2) := by decide +kernel
theorem dX11_mother_31 : decode cX11_mother 31 = .ok (.ireturn, 1) := by decide +kernel
theorem dX11_mother_32 : decode cX11_mother 32 = .ok (.aload_n 0, 1) := by decide +kernel
theorem dX11_mother_33 : decode cX11_mother 33 = .ok (.invokevirtual 432, 3) := by decide +kernel
theorem dX11_mother_36 : decode cX11_mother 36 = .ok (.iconst (-1), 1) := by decide +kernel
theorem dX11_mother_37 : decode cX11_mother 37 = .ok (.istore_n 3, 1) := by decide +kernel
theorem dX11_mother_38 : decode cX11_mother 38 = .ok (.aload_n 0, 1) := by decide +kernel
theorem dX11_mother_39 : decode cX11_mother 39 = .ok (.iload_n 1, 1) := by decide +kernel
theorem dX11_mother_40 : decode cX11_mother 40 = .ok (.invokevirtual 441, 3) := by decide +kernel
theorem dX11_mother_43 : decode cX11_mother 43 = .ok (.istore 4, 2) := by decide +kernel
theorem dX11_mother_45 : decode cX11_mother 45 = .ok (.iconst 0, 1) := by decide +kernel
theorem dX11_mother_46 : decode cX11_mother 46 = .ok (.istore 5, 2) := by decide +kernel
theorem dX11_mother_48 : decode cX11_mother 48 = .ok (.iload 5, 2) := by decide +kernel
theorem dX11_mother_50 : decode cX11_mother 50 = .ok (.aload_n 0, 1) := by decide +kernel
theorem dX11_mother_51 : decode cX11_mother 51 = .ok (.getfield 9, 3) := by decide +kernel
theorem dX11_mother_54 : decode cX11_mother 54 = .ok (.iconst 2, 1) := by decide +kernel
theorem dX11_mother_55 : decode cX11_mother 55 = .ok (.iaload, 1) := by decide +kernel
theorem dX11_mother_56 : decode cX11_mother 56 = .ok (.if_icmp .ge 51, 3) := by decide +kernel
theorem dX11_mother_59 : decode cX11_mother 59 = .ok (.aload_n 0, 1) := by decide +kernel
theorem dX11_mother_60 : decode cX11_mother 60 = .ok (.getfield 16, 3) := by decide +kernel
theorem dX11_mother_63 : decode cX11_mother 63 = .ok (.iload 5, 2) := by decide +kernel
theorem dX11_mother_65 : decode cX11_mother 65 = .ok (.aload_n 0, 1) := by decide +kernel
theorem dX11_mother_66 : decode cX11_mother 66 = .ok (.getfield 16, 3) := by decide +kernel
theorem dX11_mother_69 : decode cX11_mother 69 = .ok (.iload 5, 2) := by decide +kernel
theorem dX11_mother_71 : decode cX11_mother 71 = .ok (.iaload, 1) := by decide +kernel
theorem dX11_mother_72 : decode cX11_mother 72 = .ok (.iconst 1, 1) := by decide +kernel
theorem dX11_mother_73 : decode cX11_mother 73 = .ok (.iadd, 1) := by decide +kernel
theorem dX11_mother_74 : decode cX11_mother 74 = .ok (.bipush 99, 2) := by decide +kernel
theorem dX11_mother_76 : decode cX11_mother 76 = .ok (.invokestatic 349, 3) := by decide +kernel
theorem dX11_mother_79 : decode cX11_mother 79 = .ok (.iastore, 1) := by decide +kernel
theorem dX11_mother_80 : decode cX11_mother 80 = .ok (.aload_n 0, 1) := by decide +kernel
theorem dX11_mother_81 : decode cX11_mother 81 = .ok (.iload_n 1, 1) := by decide +kernel
theorem dX11_mother_82 : decode cX11_mother 82 = .ok (.invokevirtual 441, 3) := by decide +kernel
theorem dX11_mother_85 : decode cX11_mother 85 = .ok (.istore 6, 2) := by decide +kernel
theorem dX11_mother_87 : decode cX11_mother 87 = .ok (.iload 6, 2) := by decide +kernel
theorem dX11_mother_89 : decode cX11_mother 89 = .ok (.iload 4, 2) := by decide +kernel
theorem dX11_mother_91 : decode cX11_mother 91 = .ok (.if_icmp .le 10, 3) := by decide +kernel
theorem dX11_mother_94 : decode cX11_mother 94 = .ok (.iload 5, 2) := by decide +kernel
theorem dX11_mother_96 : decode cX11_mother 96 = .ok (.istore_n 3, 1) := by decide +kernel
theorem dX11_mother_97 : decode cX11_mother 97 = .ok (.iload 6, 2) := by decide +kernel
theorem dX11_mother_99 : decode cX11_mother 99 = .ok (.istore 4, 2) := by decide +kernel
theorem dX11_mother_101 : decode cX11_mother 101 = .ok (.iinc 5 1, 3) := by decide +kernel
theorem dX11_mother_104 : decode cX11_mother 104 = .ok (.goto (-56), 3) := by decide +kernel
theorem dX11_mother_107 : decode cX11_mother 107 = .ok (.iload_n 2, 1) := by decide +kernel
theorem dX11_mother_108 : decode cX11_mother 108 = .ok (.ifCond .ne 7, 3) := by decide +kernel
theorem dX11_mother_111 : decode cX11_mother 111 = .ok (.iload_n 3, 1) := by decide +kernel
theorem dX11_mother_112 : decode cX11_mother 112 = .ok (.goto 5, 3) := by decide +kernel
theorem dX11_mother_115 : decode cX11_mother 115 = .ok (.iload 4, 2) := by decide +kernel
theorem dX11_mother_117 : decode cX11_mother 117 = .ok (.ireturn, 1) := by decide +kernel
theorem dX11_parts_0 : decode cX11_parts 0 = .ok (.aload_n 0, 1) := by decide +kernel
theorem dX11_parts_1 : decode cX11_parts 1 = .ok (.iload_n 2, 1) := by decide +kernel
theorem dX11_parts_2 : decode cX11_parts 2 = .ok (.invokevirtual 340, 3) := by decide +kernel
theorem dX11_parts_5 : decode cX11_parts 5 = .ok (.ifCond .eq 15, 3) := by decide +kernel
theorem dX11_parts_8 : decode cX11_parts 8 = .ok (.iload_n 1, 1) := by decide +kernel
theorem dX11_parts_9 : decode cX11_parts 9 = .ok (.i2l, 1) := by decide +kernel
theorem dX11_parts_10 : decode cX11_parts 10 = .ok (.lconst 0, 1) := by decide +kernel
theorem dX11_parts_11 : decode cX11_parts 11 = .ok (.ldc2_w 448, 3) := by decide +kernel
theorem dX11_parts_14 : decode cX11_parts 14 = .ok (.invokestatic 134, 3) := by decide +kernel
theorem dX11_parts_17 : decode cX11_parts 17 = .ok (.ifCond .ne 5, 3) := by decide +kernel
theorem dX11_parts_20 : decode cX11_parts 20 = .ok (.iconst (-1), 1) := by decide +kernel
theorem dX11_parts_21 : decode cX11_parts 21 = .ok (.ireturn, 1) := by decide +kernel
theorem dX11_parts_22 : decode cX11_parts 22 = .ok (.aload_n 0, 1) := by decide +kernel
theorem dX11_parts_23 : decode cX11_parts 23 = .ok (.aload_n 0, 1) := by decide +kernel
theorem dX11_parts_24 : decode cX11_parts 24 = .ok (.getfield 22, 3) := by decide +kernel
theorem dX11_parts_27 : decode cX11_parts 27 = .ok (.invokevirtual 421, 3) := by decide +kernel
theorem dX11_parts_30 : decode cX11_parts 30 = .ok (.istore_n 3, 1) := by decide +kernel
theorem dX11_parts_31 : decode cX11_parts 31 = .ok (.iload_n 3, 1) := by decide +kernel
theorem dX11_parts_32 : decode cX11_parts 32 = .ok (.ifCond .ne 5, 3) := by decide +kernel
theorem dX11_parts_35 : decode cX11_parts 35 = .ok (.iconst 0, 1) := by decide +kernel
theorem dX11_parts_36 : decode cX11_parts 36 = .ok (.ireturn, 1) := by decide +kernel
theorem dX11_parts_37 : decode cX11_parts 37 = .ok (.iload_n 1, 1) := by decide +kernel
theorem dX11_parts_38 : decode cX11_parts 38 = .ok (.istore 4, 2) := by decide +kernel
theorem dX11_parts_40 : decode cX11_parts 40 = .ok (.iconst 0, 1) := by decide +kernel
theorem dX11_parts_41 : decode cX11_parts 41 = .ok (.istore 5, 2) := by decide +kernel
theorem dX11_parts_43 : decode cX11_parts 43 = .ok (.iconst 0, 1) := by decide +kernel
theorem dX11_parts_44 : decode cX11_parts 44 = .ok (.istore 6, 2) := by decide +kernel
theorem dX11_parts_46 : decode cX11_parts 46 = .ok (.iload 6, 2) := by decide +kernel
theorem dX11_parts_48 : decode cX11_parts 48 = .ok (.aload_n 0, 1) := by decide +kernel
theorem dX11_parts_49 : decode cX11_parts 49 = .ok (.getfield 9, 3) := by decide +kernel
theorem dX11_parts_52 : decode cX11_parts 52 = .ok (.iconst 2, 1) := by decide +kernel
theorem dX11_parts_53 : decode cX11_parts 53 = .ok (.iaload, 1) := by decide +kernel
theorem dX11_parts_54 : decode cX11_parts 54 = .ok (.if_icmp .ge 75, 3) := by decide +kernel
theorem dX11_parts_57 : decode cX11_parts 57 = .ok (.iload 4, 2) := by decide +kernel
theorem dX11_parts_59 : decode cX11_parts 59 = .ok (.iload_n 1, 1) := by decide +kernel
theorem dX11_parts_60 : decode cX11_parts 60 = .ok (.aload_n 0, 1) := by decide +kernel
theorem dX11_parts_61 : decode cX11_parts 61 = .ok (.getfield 22, 3) := by decide +kernel
theorem dX11_parts_64 : decode cX11_parts 64 = .ok (.iload 6, 2) := by decide +kernel
theorem dX11_parts_66 : decode cX11_parts 66 = .ok (.iaload, 1) := by decide +kernel
theorem dX11_parts_67 : decode cX11_parts 67 = .ok (.imul, 1) := by decide +kernel
theorem dX11_parts_68 : decode cX11_parts 68 = .ok (.iload_n 3, 1) := by decide +kernel
theorem dX11_parts_69 : decode cX11_parts 69 = .ok (.idiv, 1) := by decide +kernel
theorem dX11_parts_70 : decode cX11_parts 70 = .ok (.isub, 1) := by decide +kernel
theorem dX11_parts_71 : decode cX11_parts 71 = .ok (.istore 4, 2) := by decide +kernel
theorem dX11_parts_73 : decode cX11_parts 73 = .ok (.iload_n 1, 1) := by decide +kernel
theorem dX11_parts_74 : decode cX11_parts 74 = .ok (.aload_n 0, 1) := by decide +kernel
theorem dX11_parts_75 : decode cX11_parts 75 = .ok (.getfield 22, 3) := by decide +kernel
theorem dX11_parts_78 : decode cX11_parts 78 = .ok (.iload 6, 2) := by decide +kernel
theorem dX11_parts_80 : decode cX11_parts 80 = .ok (.iaload, 1) := by decide +kernel
theorem dX11_parts_81 : decode cX11_parts 81 = .ok (.imul, 1) := by decide +kernel
theorem dX11_parts_82 : decode cX11_parts 82 = .ok (.iload_n 3, 1) := by decide +kernel
theorem dX11_parts_83 : decode cX11_parts 83 = .ok (.irem, 1) := by decide +kernel
theorem dX11_parts_84 : decode cX11_parts 84 = .ok (.iload_n 1, 1) := by decide +kernel
theorem dX11_parts_85 : decode cX11_parts 85 = .ok (.aload_n 0, 1) := by decide +kernel
theorem dX11_parts_86 : decode cX11_parts 86 = .ok (.getfield 22, 3) := by decide +kernel
theorem dX11_parts_89 : decode cX11_parts 89 = .ok (.iload_n 2, 1) := by decide +kernel
theorem dX11_parts_90 : decode cX11_parts 90 = .ok (.iaload, 1) := by decide +kernel
theorem dX11_parts_91 : decode cX11_parts 91 = .ok (.imul, 1) := by decide +kernel
theorem dX11_parts_92 : decode cX11_parts 92 = .ok (.iload_n 3, 1) := by decide +kernel
theorem dX11_parts_93 : decode cX11_parts 93 = .ok (.irem, 1) := by decide +kernel
theorem dX11_parts_94 : decode cX11_parts 94 = .ok (.isub, 1) := by decide +kernel
theorem dX11_parts_95 : decode cX11_parts 95 = .ok (.istore 7, 2) := by decide +kernel
theorem dX11_parts_97 : decode cX11_parts 97 = .ok (.iload 5, 2) := by decide +kernel
theorem dX11_parts_99 : decode cX11_parts 99 = .ok (.iload 7, 2) := by decide +kernel
theorem dX11_parts_101 : decode cX11_parts 101 = .ok (.ifCond .gt 14, 3) := by decide +kernel
theorem dX11_parts_104 : decode cX11_parts 104 = .ok (.iload 7, 2) := by decide +kernel
theorem dX11_parts_106 : decode cX11_parts 106 = .ok (.ifCond .ne 13, 3) := by decide +kernel
theorem dX11_parts_109 : decode cX11_parts 109 = .ok (.iload 6, 2) := by decide +kernel
theorem dX11_parts_111 : decode cX11_parts 111 = .ok (.iload_n 2, 1) := by decide +kernel
theorem dX11_parts_112 : decode cX11_parts 112 = .ok (.if_icmp .ge 7, 3) := by decide +kernel
theorem dX11_parts_115 : decode cX11_parts 115 = .ok (.iconst 1, 1) := by decide +kernel
theorem dX11_parts_116 : decode cX11_parts 116 = .ok (.goto 4, 3) := by decide +kernel
theorem dX11_parts_119 : decode cX11_parts 119 = .ok (.iconst 0, 1) := by decide +kernel
theorem dX11_parts_120 : decode cX11_parts 120 = .ok (.iadd, 1) := by decide +kernel
theorem dX11_parts_121 : decode cX11_parts 121 = .ok (.istore 5, 2) := by decide +kernel
theorem dX11_parts_123 : decode cX11_parts 123 = .ok (.iinc 6 1, 3) := by decide +kernel
theorem dX11_parts_126 : decode cX11_parts 126 = .ok (.goto (-80), 3) := by decide +kernel
theorem dX11_parts_129 : decode cX11_parts 129 = .ok (.iload_n 1, 1) := by decide +kernel
theorem dX11_parts_130 : decode cX11_parts 130 = .ok (.aload_n 0, 1) := by decide +kernel
theorem dX11_parts_131 : decode cX11_parts 131 = .ok (.getfield 22, 3) := by decide +kernel
theorem dX11_parts_134 : decode cX11_parts 134 = .ok (.iload_n 2, 1) := by decide +kernel
theorem dX11_parts_135 : decode cX11_parts 135 = .ok (.iaload, 1) := by decide +kernel
theorem dX11_parts_136 : decode cX11_parts 136 = .ok (.imul, 1) := by decide +kernel
theorem dX11_parts_137 : decode cX11_parts 137 = .ok (.iload_n 3, 1) := by decide +kernel
theorem dX11_parts_138 : decode cX11_parts 138 = .ok (.idiv, 1) := by decide +kernel
theorem dX11_parts_139 : decode cX11_parts 139 = .ok (.iload 5, 2) := by decide +kernel
theorem dX11_parts_141 : decode cX11_parts 141 = .ok (.iload 4, 2) := by decide +kernel
theorem dX11_parts_143 : decode cX11_parts 143 = .ok (.if_icmp .ge 7, 3) := by decide +kernel
theorem dX11_parts_146 : decode cX11_parts 146 = .ok (.iconst 1, 1) := by decide +kernel
theorem dX11_parts_147 : decode cX11_parts 147 = .ok (.goto 4, 3) := by decide +kernel
theorem dX11_parts_150 : decode cX11_parts 150 = .ok (.iconst 0, 1) := by decide +kernel
theorem dX11_parts_151 : decode cX11_parts 151 = .ok (.iadd, 1) := by decide +kernel
theorem dX11_parts_152 : decode cX11_parts 152 = .ok (.ireturn, 1) := by decide +kernel
theorem dX11_note_0 : decode cX11_note 0 = .ok (.iload_n 1, 1) := by decide +kernel
theorem dX11_note_1 : decode cX11_note 1 = .ok (.iconst (-1), 1) := by decide +kernel
theorem dX11_note_2 : decode cX11_note 2 = .ok (.if_icmp .ne 13, 3) := by decide +kernel
theorem dX11_note_5 : decode cX11_note 5 = .ok (.aload_n 0, 1) := by decide +kernel
theorem dX11_note_6 : decode cX11_note 6 = .ok (.getfield 9, 3) := by decide +kernel
theorem dX11_note_9 : decode cX11_note 9 = .ok (.bipush 6, 2) := by decide +kernel
theorem dX11_note_11 : decode cX11_note 11 = .ok (.iconst 0, 1) := by decide +kernel
theorem dX11_note_12 : decode cX11_note 12 = .ok (.iastore, 1) := by decide +kernel
theorem dX11_note_13 : decode cX11_note 13 = .ok (.iconst 0, 1) := by decide +kernel
theorem dX11_note_14 : decode cX11_note 14 = .ok (.ireturn, 1) := by decide +kernel
theorem dX11_note_15 : decode cX11_note 15 = .ok (.aload_n 0, 1) := by decide +kernel
theorem dX11_note_16 : decode cX11_note 16 = .ok (.getfield 9, 3) := by decide +kernel
theorem dX11_note_19 : decode cX11_note 19 = .ok (.bipush 6, 2) := by decide +kernel
theorem dX11_note_21 : decode cX11_note 21 = .ok (.iaload, 1) := by decide +kernel
theorem dX11_note_22 : decode cX11_note 22 = .ok (.istore 4, 2) := by decide +kernel
theorem dX11_note_24 : decode cX11_note 24 = .ok (.iload_n 1, 1) := by decide +kernel
theorem dX11_note_25 : decode cX11_note 25 = .ok (.i2l, 1) := by decide +kernel
theorem dX11_note_26 : decode cX11_note 26 = .ok (.lconst 0, 1) := by decide +kernel
theorem dX11_note_27 : decode cX11_note 27 = .ok (.ldc2_w 347, 3) := by decide +kernel
theorem dX11_note_30 : decode cX11_note 30 = .ok (.invokestatic 134, 3) := by decide +kernel
theorem dX11_note_33 : decode cX11_note 33 = .ok (.ifCond .eq 36, 3) := by decide +kernel
theorem dX11_note_36 : decode cX11_note 36 = .ok (.aload_n 0, 1) := by decide +kernel
theorem dX11_note_37 : decode cX11_note 37 = .ok (.iload_n 2, 1) := by decide +kernel
theorem dX11_note_38 : decode cX11_note 38 = .ok (.invokevirtual 340, 3) := by decide +kernel
theorem dX11_note_41 : decode cX11_note 41 = .ok (.ifCond .eq 28, 3) := by decide +kernel
theorem dX11_note_44 : decode cX11_note 44 = .ok (.iload_n 3, 1) := by decide +kernel
theorem dX11_note_45 : decode cX11_note 45 = .ok (.iconst (-1), 1) := by decide +kernel
theorem dX11_note_46 : decode cX11_note 46 = .ok (.if_icmp .eq 11, 3) := by decide +kernel
theorem dX11_note_49 : decode cX11_note 49 = .ok (.aload_n 0, 1) := by decide +kernel
theorem dX11_note_50 : decode cX11_note 50 = .ok (.iload_n 3, 1) := by decide +kernel
theorem dX11_note_51 : decode cX11_note 51 = .ok (.invokevirtual 340, 3) := by decide +kernel
theorem dX11_note_54 : decode cX11_note 54 = .ok (.ifCond .eq 15, 3) := by decide +kernel
theorem dX11_note_57 : decode cX11_note 57 = .ok (.iload_n 2, 1) := by decide +kernel
theorem dX11_note_58 : decode cX11_note 58 = .ok (.iload_n 3, 1) := by decide +kernel
theorem dX11_note_59 : decode cX11_note 59 = .ok (.if_icmp .eq 10, 3) := by decide +kernel
theorem dX11_note_62 : decode cX11_note 62 = .ok (.iload 4, 2) := by decide +kernel
theorem dX11_note_64 : decode cX11_note 64 = .ok (.bipush 10, 2) := by decide +kernel
theorem dX11_note_66 : decode cX11_note 66 = .ok (.if_icmp .ne 6, 3) := by decide +kernel
theorem dX11_note_69 : decode cX11_note 69 = .ok (.bipush (-2), 2) := by decide +kernel
theorem dX11_note_71 : decode cX11_note 71 = .ok (.ireturn, 1) := by decide +kernel
theorem dX11_note_72 : decode cX11_note 72 = .ok (.aload_n 0, 1) := by decide +kernel
theorem dX11_note_73 : decode cX11_note 73 = .ok (.getfield 31, 3) := by decide +kernel
theorem dX11_note_76 : decode cX11_note 76 = .ok (.iload 4, 2) := by decide +kernel
theorem dX11_note_78 : decode cX11_note 78 = .ok (.iload_n 1, 1) := by decide +kernel
theorem dX11_note_79 : decode cX11_note 79 = .ok (.iastore, 1) := by decide +kernel
theorem dX11_note_80 : decode cX11_note 80 = .ok (.aload_n 0, 1) := by decide +kernel
theorem dX11_note_81 : decode cX11_note 81 = .ok (.getfield 34, 3) := by decide +kernel
theorem dX11_note_84 : decode cX11_note 84 = .ok (.iload 4, 2) := by decide +kernel
theorem dX11_note_86 : decode cX11_note 86 = .ok (.iload_n 2, 1) := by decide +kernel
theorem dX11_note_87 : decode cX11_note 87 = .ok (.iastore, 1) := by decide +kernel
theorem dX11_note_88 : decode cX11_note 88 = .ok (.aload_n 0, 1) := by decide +kernel
theorem dX11_note_89 : decode cX11_note 89 = .ok (.getfield 37, 3) := by decide +kernel
theorem dX11_note_92 : decode cX11_note 92 = .ok (.iload 4, 2) := by decide +kernel
theorem dX11_note_94 : decode cX11_note 94 = .ok (.iload_n 3, 1) := by decide +kernel
theorem dX11_note_95 : decode cX11_note 95 = .ok (.iastore, 1) := by decide +kernel
theorem dX11_note_96 : decode cX11_note 96 = .ok (.aload_n 0, 1) := by decide +kernel
theorem dX11_note_97 : decode cX11_note 97 = .ok (.getfield 9, 3) := by decide +kernel
theorem dX11_note_100 : decode cX11_note 100 = .ok (.bipush 6, 2) := by decide +kernel
theorem dX11_note_102 : decode cX11_note 102 = .ok (.dup2, 1) := by decide +kernel
theorem dX11_note_103 : decode cX11_note 103 = .ok (.iaload, 1) := by decide +kernel
theorem dX11_note_104 : decode cX11_note 104 = .ok (.iconst 1, 1) := by decide +kernel
theorem dX11_note_105 : decode cX11_note 105 = .ok (.iadd, 1) := by decide +kernel
theorem dX11_note_106 : decode cX11_note 106 = .ok (.iastore, 1) := by decide +kernel
theorem dX11_note_107 : decode cX11_note 107 = .ok (.iload 4, 2) := by decide +kernel
theorem dX11_note_109 : decode cX11_note 109 = .ok (.iconst 1, 1) := by decide +kernel
theorem dX11_note_110 : decode cX11_note 110 = .ok (.iadd, 1) := by decide +kernel
theorem dX11_note_111 : decode cX11_note 111 = .ok (.ireturn, 1) := by decide +kernel
theorem dX11_couldRule_0 : decode cX11_couldRule 0 = .ok (.aload_n 0, 1) := by decide +kernel
theorem dX11_couldRule_1 : decode cX11_couldRule 1 = .ok (.getfield 9, 3) := by decide +kernel
theorem dX11_couldRule_4 : decode cX11_couldRule 4 = .ok (.bipush 8, 2) := by decide +kernel
theorem dX11_couldRule_6 : decode cX11_couldRule 6 = .ok (.iload_n 1, 1) := by decide +kernel
theorem dX11_couldRule_7 : decode cX11_couldRule 7 = .ok (.iastore, 1) := by decide +kernel
theorem dX11_couldRule_8 : decode cX11_couldRule 8 = .ok (.aload_n 0, 1) := by decide +kernel
theorem dX11_couldRule_9 : decode cX11_couldRule 9 = .ok (.invokevirtual 295, 3) := by decide +kernel
theorem dX11_couldRule_12 : decode cX11_couldRule 12 = .ok (.iconst 0, 1) := by decide +kernel
theorem dX11_couldRule_13 : decode cX11_couldRule 13 = .ok (.istore_n 2, 1) := by decide +kernel
theorem dX11_couldRule_14 : decode cX11_couldRule 14 = .ok (.iload_n 2, 1) := by decide +kernel
theorem dX11_couldRule_15 : decode cX11_couldRule 15 = .ok (.bipush 61, 2) := by decide +kernel
theorem dX11_couldRule_17 : decode cX11_couldRule 17 = .ok (.if_icmp .ge 43, 3) := by decide +kernel
theorem dX11_couldRule_20 : decode cX11_couldRule 20 = .ok (.aload_n 0, 1) := by decide +kernel
theorem dX11_couldRule_21 : decode cX11_couldRule 21 = .ok (.invokevirtual 385, 3) := by decide +kernel
theorem dX11_couldRule_24 : decode cX11_couldRule 24 = .ok (.pop, 1) := by decide +kernel
theorem dX11_couldRule_25 : decode cX11_couldRule 25 = .ok (.iconst 0, 1) := by decide +kernel
theorem dX11_couldRule_26 : decode cX11_couldRule 26 = .ok (.istore_n 3, 1) := by decide +kernel
theorem dX11_couldRule_27 : decode cX11_couldRule 27 = .ok (.iload_n 3, 1) := by decide +kernel
theorem dX11_couldRule_28 : decode cX11_couldRule 28 = .ok (.iconst 5, 1) := by decide +kernel
theorem dX11_couldRule_29 : decode cX11_couldRule 29 = .ok (.if_icmp .ge 25, 3) := by decide +kernel
theorem dX11_couldRule_32 : decode cX11_couldRule 32 = .ok (.aload_n 0, 1) := by decide +kernel
theorem dX11_couldRule_33 : decode cX11_couldRule 33 = .ok (.getfield 118, 3) := by decide +kernel
theorem dX11_couldRule_36 : decode cX11_couldRule 36 = .ok (.iconst 5, 1) := by decide +kernel
theorem dX11_couldRule_37 : decode cX11_couldRule 37 = .ok (.iload_n 2, 1) := by decide +kernel
theorem dX11_couldRule_38 : decode cX11_couldRule 38 = .ok (.imul, 1) := by decide +kernel
theorem dX11_couldRule_39 : decode cX11_couldRule 39 = .ok (.iload_n 3, 1) := by decide +kernel
theorem dX11_couldRule_40 : decode cX11_couldRule 40 = .ok (.iadd, 1) := by decide +kernel
theorem dX11_couldRule_41 : decode cX11_couldRule 41 = .ok (.aload_n 0, 1) := by decide +kernel
theorem dX11_couldRule_42 : decode cX11_couldRule 42 = .ok (.getfield 25, 3) := by decide +kernel
theorem dX11_couldRule_45 : decode cX11_couldRule 45 = .ok (.iload_n 3, 1) := by decide +kernel
theorem dX11_couldRule_46 : decode cX11_couldRule 46 = .ok (.iaload, 1) := by decide +kernel
theorem dX11_couldRule_47 : decode cX11_couldRule 47 = .ok (.iastore, 1) := by decide +kernel
theorem dX11_couldRule_48 : decode cX11_couldRule 48 = .ok (.iinc 3 1, 3) := by decide +kernel
theorem dX11_couldRule_51 : decode cX11_couldRule 51 = .ok (.goto (-24), 3) := by decide +kernel
theorem dX11_couldRule_54 : decode cX11_couldRule 54 = .ok (.iinc 2 1, 3) := by decide +kernel
theorem dX11_couldRule_57 : decode cX11_couldRule 57 = .ok (.goto (-43), 3) := by decide +kernel
theorem dX11_couldRule_60 : decode cX11_couldRule 60 = .ok (.aload_n 0, 1) := by decide +kernel
theorem dX11_couldRule_61 : decode cX11_couldRule 61 = .ok (.invokevirtual 425, 3) := by decide +kernel
theorem dX11_couldRule_64 : decode cX11_couldRule 64 = .ok (.iconst 0, 1) := by decide +kernel
theorem dX11_couldRule_65 : decode cX11_couldRule 65 = .ok (.istore_n 2, 1) := by decide +kernel
theorem dX11_couldRule_66 : decode cX11_couldRule 66 = .ok (.iload_n 2, 1) := by decide +kernel
theorem dX11_couldRule_67 : decode cX11_couldRule 67 = .ok (.aload_n 0, 1) := by decide +kernel
theorem dX11_couldRule_68 : decode cX11_couldRule 68 = .ok (.getfield 9, 3) := by decide +kernel
theorem dX11_couldRule_71 : decode cX11_couldRule 71 = .ok (.bipush 6, 2) := by decide +kernel
theorem dX11_couldRule_73 : decode cX11_couldRule 73 = .ok (.iaload, 1) := by decide +kernel
theorem dX11_couldRule_74 : decode cX11_couldRule 74 = .ok (.if_icmp .ge 40, 3) := by decide +kernel
theorem dX11_couldRule_77 : decode cX11_couldRule 77 = .ok (.aload_n 0, 1) := by decide +kernel
theorem dX11_couldRule_78 : decode cX11_couldRule 78 = .ok (.getfield 118, 3) := by decide +kernel
theorem dX11_couldRule_81 : decode cX11_couldRule 81 = .ok (.iconst 5, 1) := by decide +kernel
theorem dX11_couldRule_82 : decode cX11_couldRule 82 = .ok (.aload_n 0, 1) := by decide +kernel
theorem dX11_couldRule_83 : decode cX11_couldRule 83 = .ok (.getfield 31, 3) := by decide +kernel
theorem dX11_couldRule_86 : decode cX11_couldRule 86 = .ok (.iload_n 2, 1) := by decide +kernel
theorem dX11_couldRule_87 : decode cX11_couldRule 87 = .ok (.iaload, 1) := by decide +kernel
theorem dX11_couldRule_88 : decode cX11_couldRule 88 = .ok (.imul, 1) := by decide +kernel
theorem dX11_couldRule_89 : decode cX11_couldRule 89 = .ok (.aload_n 0, 1) := by decide +kernel
theorem dX11_couldRule_90 : decode cX11_couldRule 90 = .ok (.getfield 34, 3) := by decide +kernel
theorem dX11_couldRule_93 : decode cX11_couldRule 93 = .ok (.iload_n 2, 1) := by decide +kernel
theorem dX11_couldRule_94 : decode cX11_couldRule 94 = .ok (.iaload, 1) := by decide +kernel
theorem dX11_couldRule_95 : decode cX11_couldRule 95 = .ok (.iadd, 1) := by decide +kernel
theorem dX11_couldRule_96 : decode cX11_couldRule 96 = .ok (.iaload, 1) := by decide +kernel
theorem dX11_couldRule_97 : decode cX11_couldRule 97 = .ok (.aload_n 0, 1) := by decide +kernel
theorem dX11_couldRule_98 : decode cX11_couldRule 98 = .ok (.getfield 37, 3) := by decide +kernel
theorem dX11_couldRule_101 : decode cX11_couldRule 101 = .ok (.iload_n 2, 1) := by decide +kernel
theorem dX11_couldRule_102 : decode cX11_couldRule 102 = .ok (.iaload, 1) := by decide +kernel
theorem dX11_couldRule_103 : decode cX11_couldRule 103 = .ok (.if_icmp .eq 5, 3) := by decide +kernel
theorem dX11_couldRule_106 : decode cX11_couldRule 106 = .ok (.iconst 0, 1) := by decide +kernel
theorem dX11_couldRule_107 : decode cX11_couldRule 107 = .ok (.ireturn, 1) := by decide +kernel
theorem dX11_couldRule_108 : decode cX11_couldRule 108 = .ok (.iinc 2 1, 3) := by decide +kernel
theorem dX11_couldRule_111 : decode cX11_couldRule 111 = .ok (.goto (-45), 3) := by decide +kernel
theorem dX11_couldRule_114 : decode cX11_couldRule 114 = .ok (.iconst 1, 1) := by decide +kernel
theorem dX11_couldRule_115 : decode cX11_couldRule 115 = .ok (.ireturn, 1) := by decide +kernel
theorem dX11_ruled_0 : decode cX11_ruled 0 = .ok (.aload_n 0, 1) := by decide +kernel
theorem dX11_ruled_1 : decode cX11_ruled 1 = .ok (.invokevirtual 405, 3) := by decide +kernel
theorem dX11_ruled_4 : decode cX11_ruled 4 = .ok (.ifCond .eq 13, 3) := by decide +kernel
theorem dX11_ruled_7 : decode cX11_ruled 7 = .ok (.iload_n 1, 1) := by decide +kernel
theorem dX11_ruled_8 : decode cX11_ruled 8 = .ok (.i2l, 1) := by decide +kernel
theorem dX11_ruled_9 : decode cX11_ruled 9 = .ok (.lconst 0, 1) := by decide +kernel
theorem dX11_ruled_10 : decode cX11_ruled 10 = .ok (.lconst 1, 1) := by decide +kernel
theorem dX11_ruled_11 : decode cX11_ruled 11 = .ok (.invokestatic 134, 3) := by decide +kernel
theorem dX11_ruled_14 : decode cX11_ruled 14 = .ok (.ifCond .ne 6, 3) := by decide +kernel
theorem dX11_ruled_17 : decode cX11_ruled 17 = .ok (.bipush (-3), 2) := by decide +kernel
theorem dX11_ruled_19 : decode cX11_ruled 19 = .ok (.ireturn, 1) := by decide +kernel
theorem dX11_ruled_20 : decode cX11_ruled 20 = .ok (.aload_n 0, 1) := by decide +kernel
theorem dX11_ruled_21 : decode cX11_ruled 21 = .ok (.invokevirtual 432, 3) := by decide +kernel
theorem dX11_ruled_24 : decode cX11_ruled 24 = .ok (.iconst 0, 1) := by decide +kernel
theorem dX11_ruled_25 : decode cX11_ruled 25 = .ok (.istore_n 2, 1) := by decide +kernel
theorem dX11_ruled_26 : decode cX11_ruled 26 = .ok (.bipush (-2), 2) := by decide +kernel
theorem dX11_ruled_28 : decode cX11_ruled 28 = .ok (.istore_n 3, 1) := by decide +kernel
theorem dX11_ruled_29 : decode cX11_ruled 29 = .ok (.iconst (-1), 1) := by decide +kernel
theorem dX11_ruled_30 : decode cX11_ruled 30 = .ok (.istore 4, 2) := by decide +kernel
theorem dX11_ruled_32 : decode cX11_ruled 32 = .ok (.iload 4, 2) := by decide +kernel
theorem dX11_ruled_34 : decode cX11_ruled 34 = .ok (.aload_n 0, 1) := by decide +kernel
theorem dX11_ruled_35 : decode cX11_ruled 35 = .ok (.getfield 311, 3) := by decide +kernel
theorem dX11_ruled_38 : decode cX11_ruled 38 = .ok (.if_icmp .ge 32, 3) := by decide +kernel
theorem dX11_ruled_41 : decode cX11_ruled 41 = .ok (.aload_n 0, 1) := by decide +kernel
theorem dX11_ruled_42 : decode cX11_ruled 42 = .ok (.iload 4, 2) := by decide +kernel
theorem dX11_ruled_44 : decode cX11_ruled 44 = .ok (.invokevirtual 462, 3) := by decide +kernel
theorem dX11_ruled_47 : decode cX11_ruled 47 = .ok (.ifCond .eq 17, 3) := by decide +kernel
theorem dX11_ruled_50 : decode cX11_ruled 50 = .ok (.iload_n 2, 1) := by decide +kernel
theorem dX11_ruled_51 : decode cX11_ruled 51 = .ok (.ifCond .ne 8, 3) := by decide +kernel
theorem dX11_ruled_54 : decode cX11_ruled 54 = .ok (.iload 4, 2) := by decide +kernel
theorem dX11_ruled_56 : decode cX11_ruled 56 = .ok (.goto 4, 3) := by decide +kernel
theorem dX11_ruled_59 : decode cX11_ruled 59 = .ok (.iload_n 3, 1) := by decide +kernel
theorem dX11_ruled_60 : decode cX11_ruled 60 = .ok (.istore_n 3, 1) := by decide +kernel
theorem dX11_ruled_61 : decode cX11_ruled 61 = .ok (.iinc 2 1, 3) := by decide +kernel
theorem dX11_ruled_64 : decode cX11_ruled 64 = .ok (.iinc 4 1, 3) := by decide +kernel
theorem dX11_ruled_67 : decode cX11_ruled 67 = .ok (.goto (-35), 3) := by decide +kernel
theorem dX11_ruled_70 : decode cX11_ruled 70 = .ok (.iload_n 1, 1) := by decide +kernel
theorem dX11_ruled_71 : decode cX11_ruled 71 = .ok (.ifCond .ne 7, 3) := by decide +kernel
theorem dX11_ruled_74 : decode cX11_ruled 74 = .ok (.iload_n 2, 1) := by decide +kernel
theorem dX11_ruled_75 : decode cX11_ruled 75 = .ok (.goto 4, 3) := by decide +kernel
theorem dX11_ruled_78 : decode cX11_ruled 78 = .ok (.iload_n 3, 1) := by decide +kernel
theorem dX11_ruled_79 : decode cX11_ruled 79 = .ok (.ireturn, 1) := by decide +kernel
theorem dX11_mostAlike_0 : decode cX11_mostAlike 0 = .ok (.iconst 0, 1) := by decide +kernel
theorem dX11_mostAlike_1 : decode cX11_mostAlike 1 = .ok (.istore_n 3, 1) := by decide +kernel
theorem dX11_mostAlike_2 : decode cX11_mostAlike 2 = .ok (.iconst 0, 1) := by decide +kernel
theorem dX11_mostAlike_3 : decode cX11_mostAlike 3 = .ok (.istore 4, 2) := by decide +kernel
theorem dX11_mostAlike_5 : decode cX11_mostAlike 5 = .ok (.iload 4, 2) := by decide +kernel
theorem dX11_mostAlike_7 : decode cX11_mostAlike 7 = .ok (.iload_n 2, 1) := by decide +kernel
theorem dX11_mostAlike_8 : decode cX11_mostAlike 8 = .ok (.if_icmp .ge 75, 3) := by decide +kernel
theorem dX11_mostAlike_11 : decode cX11_mostAlike 11 = .ok (.iconst 0, 1) := by decide +kernel
theorem dX11_mostAlike_12 : decode cX11_mostAlike 12 = .ok (.istore 5, 2) := by decide +kernel
theorem dX11_mostAlike_14 : decode cX11_mostAlike 14 = .ok (.iconst 0, 1) := by decide +kernel
theorem dX11_mostAlike_15 : decode cX11_mostAlike 15 = .ok (.istore 6, 2) := by decide +kernel
theorem dX11_mostAlike_17 : decode cX11_mostAlike 17 = .ok (.iload 6, 2) := by decide +kernel
theorem dX11_mostAlike_19 : decode cX11_mostAlike 19 = .ok (.iload_n 2, 1) := by decide +kernel
theorem dX11_mostAlike_20 : decode cX11_mostAlike 20 = .ok (.if_icmp .ge 44, 3) := by decide +kernel
theorem dX11_mostAlike_23 : decode cX11_mostAlike 23 = .ok (.iload 5, 2) := by decide +kernel
theorem dX11_mostAlike_25 : decode cX11_mostAlike 25 = .ok (.aload_n 0, 1) := by decide +kernel
theorem dX11_mostAlike_26 : decode cX11_mostAlike 26 = .ok (.getfield 121, 3) := by decide +kernel
theorem dX11_mostAlike_29 : decode cX11_mostAlike 29 = .ok (.iconst 5, 1) := by decide +kernel
theorem dX11_mostAlike_30 : decode cX11_mostAlike 30 = .ok (.iload 6, 2) := by decide +kernel
theorem dX11_mostAlike_32 : decode cX11_mostAlike 32 = .ok (.imul, 1) := by decide +kernel
theorem dX11_mostAlike_33 : decode cX11_mostAlike 33 = .ok (.iload_n 1, 1) := by decide +kernel
theorem dX11_mostAlike_34 : decode cX11_mostAlike 34 = .ok (.iadd, 1) := by decide +kernel
theorem dX11_mostAlike_35 : decode cX11_mostAlike 35 = .ok (.iaload, 1) := by decide +kernel
theorem dX11_mostAlike_36 : decode cX11_mostAlike 36 = .ok (.aload_n 0, 1) := by decide +kernel
theorem dX11_mostAlike_37 : decode cX11_mostAlike 37 = .ok (.getfield 121, 3) := by decide +kernel
theorem dX11_mostAlike_40 : decode cX11_mostAlike 40 = .ok (.iconst 5, 1) := by decide +kernel
theorem dX11_mostAlike_41 : decode cX11_mostAlike 41 = .ok (.iload 4, 2) := by decide +kernel
theorem dX11_mostAlike_43 : decode cX11_mostAlike 43 = .ok (.imul, 1) := by decide +kernel
theorem dX11_mostAlike_44 : decode cX11_mostAlike 44 = .ok (.iload_n 1, 1) := by decide +kernel
theorem dX11_mostAlike_45 : decode cX11_mostAlike 45 = .ok (.iadd, 1) := by decide +kernel
theorem dX11_mostAlike_46 : decode cX11_mostAlike 46 = .ok (.iaload, 1) := by decide +kernel
theorem dX11_mostAlike_47 : decode cX11_mostAlike 47 = .ok (.if_icmp .ne 7, 3) := by decide +kernel
theorem dX11_mostAlike_50 : decode cX11_mostAlike 50 = .ok (.iconst 1, 1) := by decide +kernel
theorem dX11_mostAlike_51 : decode cX11_mostAlike 51 = .ok (.goto 4, 3) := by decide +kernel
theorem dX11_mostAlike_54 : decode cX11_mostAlike 54 = .ok (.iconst 0, 1) := by decide +kernel
theorem dX11_mostAlike_55 : decode cX11_mostAlike 55 = .ok (.iadd, 1) := by decide +kernel
theorem dX11_mostAlike_56 : decode cX11_mostAlike 56 = .ok (.istore 5, 2) := by decide +kernel
theorem dX11_mostAlike_58 : decode cX11_mostAlike 58 = .ok (.iinc 6 1, 3) := by decide +kernel
theorem dX11_mostAlike_61 : decode cX11_mostAlike 61 = .ok (.goto (-44), 3) := by decide +kernel
theorem dX11_mostAlike_64 : decode cX11_mostAlike 64 = .ok (.iload 5, 2) := by decide +kernel
theorem dX11_mostAlike_66 : decode cX11_mostAlike 66 = .ok (.iload_n 3, 1) := by decide +kernel
theorem dX11_mostAlike_67 : decode cX11_mostAlike 67 = .ok (.if_icmp .le 8, 3) := by decide +kernel
theorem dX11_mostAlike_70 : decode cX11_mostAlike 70 = .ok (.iload 5, 2) := by decide +kernel
theorem dX11_mostAlike_72 : decode cX11_mostAlike 72 = .ok (.goto 4, 3) := by decide +kernel
theorem dX11_mostAlike_75 : decode cX11_mostAlike 75 = .ok (.iload_n 3, 1) := by decide +kernel
theorem dX11_mostAlike_76 : decode cX11_mostAlike 76 = .ok (.istore_n 3, 1) := by decide +kernel
theorem dX11_mostAlike_77 : decode cX11_mostAlike 77 = .ok (.iinc 4 1, 3) := by decide +kernel
theorem dX11_mostAlike_80 : decode cX11_mostAlike 80 = .ok (.goto (-75), 3) := by decide +kernel
theorem dX11_mostAlike_83 : decode cX11_mostAlike 83 = .ok (.iload_n 3, 1) := by decide +kernel
theorem dX11_mostAlike_84 : decode cX11_mostAlike 84 = .ok (.ireturn, 1) := by decide +kernel
theorem dX11_look_0 : decode cX11_look 0 = .ok (.aload_n 0, 1) := by decide +kernel
theorem dX11_look_1 : decode cX11_look 1 = .ok (.invokevirtual 405, 3) := by decide +kernel
theorem dX11_look_4 : decode cX11_look 4 = .ok (.ifCond .eq 25, 3) := by decide +kernel
theorem dX11_look_7 : decode cX11_look 7 = .ok (.iload_n 1, 1) := by decide +kernel
theorem dX11_look_8 : decode cX11_look 8 = .ok (.i2l, 1) := by decide +kernel
theorem dX11_look_9 : decode cX11_look 9 = .ok (.lconst 0, 1) := by decide +kernel
theorem dX11_look_10 : decode cX11_look 10 = .ok (.ldc2_w 347, 3) := by decide +kernel
theorem dX11_look_13 : decode cX11_look 13 = .ok (.invokestatic 134, 3) := by decide +kernel
theorem dX11_look_16 : decode cX11_look 16 = .ok (.ifCond .eq 13, 3) := by decide +kernel
theorem dX11_look_19 : decode cX11_look 19 = .ok (.iload_n 2, 1) := by decide +kernel
theorem dX11_look_20 : decode cX11_look 20 = .ok (.i2l, 1) := by decide +kernel
theorem dX11_look_21 : decode cX11_look 21 = .ok (.lconst 0, 1) := by decide +kernel
theorem dX11_look_22 : decode cX11_look 22 = .ok (.lconst 1, 1) := by decide +kernel
theorem dX11_look_23 : decode cX11_look 23 = .ok (.invokestatic 134, 3) := by decide +kernel
theorem dX11_look_26 : decode cX11_look 26 = .ok (.ifCond .ne 5, 3) := by decide +kernel
theorem dX11_look_29 : decode cX11_look 29 = .ok (.iconst (-1), 1) := by decide +kernel
theorem dX11_look_30 : decode cX11_look 30 = .ok (.ireturn, 1) := by decide +kernel
theorem dX11_look_31 : decode cX11_look 31 = .ok (.aload_n 0, 1) := by decide +kernel
theorem dX11_look_32 : decode cX11_look 32 = .ok (.invokevirtual 432, 3) := by decide +kernel
theorem dX11_look_35 : decode cX11_look 35 = .ok (.iconst 0, 1) := by decide +kernel
theorem dX11_look_36 : decode cX11_look 36 = .ok (.istore_n 3, 1) := by decide +kernel
theorem dX11_look_37 : decode cX11_look 37 = .ok (.iconst (-1), 1) := by decide +kernel
theorem dX11_look_38 : decode cX11_look 38 = .ok (.istore 4, 2) := by decide +kernel
theorem dX11_look_40 : decode cX11_look 40 = .ok (.iload 4, 2) := by decide +kernel
theorem dX11_look_42 : decode cX11_look 42 = .ok (.aload_n 0, 1) := by decide +kernel
theorem dX11_look_43 : decode cX11_look 43 = .ok (.getfield 311, 3) := by decide +kernel
theorem dX11_look_46 : decode cX11_look 46 = .ok (.if_icmp .ge 58, 3) := by decide +kernel
theorem dX11_look_49 : decode cX11_look 49 = .ok (.aload_n 0, 1) := by decide +kernel
theorem dX11_look_50 : decode cX11_look 50 = .ok (.iload 4, 2) := by decide +kernel
theorem dX11_look_52 : decode cX11_look 52 = .ok (.invokevirtual 462, 3) := by decide +kernel
theorem dX11_look_55 : decode cX11_look 55 = .ok (.ifCond .eq 43, 3) := by decide +kernel
theorem dX11_look_58 : decode cX11_look 58 = .ok (.iconst 0, 1) := by decide +kernel
theorem dX11_look_59 : decode cX11_look 59 = .ok (.istore 5, 2) := by decide +kernel
theorem dX11_look_61 : decode cX11_look 61 = .ok (.iload 5, 2) := by decide +kernel
theorem dX11_look_63 : decode cX11_look 63 = .ok (.iconst 5, 1) := by decide +kernel
theorem dX11_look_64 : decode cX11_look 64 = .ok (.if_icmp .ge 31, 3) := by decide +kernel
theorem dX11_look_67 : decode cX11_look 67 = .ok (.aload_n 0, 1) := by decide +kernel
theorem dX11_look_68 : decode cX11_look 68 = .ok (.getfield 121, 3) := by decide +kernel
theorem dX11_look_71 : decode cX11_look 71 = .ok (.iconst 5, 1) := by decide +kernel
theorem dX11_look_72 : decode cX11_look 72 = .ok (.iload_n 3, 1) := by decide +kernel
theorem dX11_look_73 : decode cX11_look 73 = .ok (.imul, 1) := by decide +kernel
theorem dX11_look_74 : decode cX11_look 74 = .ok (.iload 5, 2) := by decide +kernel
theorem dX11_look_76 : decode cX11_look 76 = .ok (.iadd, 1) := by decide +kernel
theorem dX11_look_77 : decode cX11_look 77 = .ok (.aload_n 0, 1) := by decide +kernel
theorem dX11_look_78 : decode cX11_look 78 = .ok (.getfield 118, 3) := by decide +kernel
theorem dX11_look_81 : decode cX11_look 81 = .ok (.iconst 5, 1) := by decide +kernel
theorem dX11_look_82 : decode cX11_look 82 = .ok (.iload_n 1, 1) := by decide +kernel
theorem dX11_look_83 : decode cX11_look 83 = .ok (.imul, 1) := by decide +kernel
theorem dX11_look_84 : decode cX11_look 84 = .ok (.iload 5, 2) := by decide +kernel
theorem dX11_look_86 : decode cX11_look 86 = .ok (.iadd, 1) := by decide +kernel
theorem dX11_look_87 : decode cX11_look 87 = .ok (.iaload, 1) := by decide +kernel
theorem dX11_look_88 : decode cX11_look 88 = .ok (.iastore, 1) := by decide +kernel
theorem dX11_look_89 : decode cX11_look 89 = .ok (.iinc 5 1, 3) := by decide +kernel
theorem dX11_look_92 : decode cX11_look 92 = .ok (.goto (-31), 3) := by decide +kernel
theorem dX11_look_95 : decode cX11_look 95 = .ok (.iinc 3 1, 3) := by decide +kernel
theorem dX11_look_98 : decode cX11_look 98 = .ok (.iinc 4 1, 3) := by decide +kernel
theorem dX11_look_101 : decode cX11_look 101 = .ok (.goto (-61), 3) := by decide +kernel
theorem dX11_look_104 : decode cX11_look 104 = .ok (.iload_n 3, 1) := by decide +kernel
theorem dX11_look_105 : decode cX11_look 105 = .ok (.ifCond .eq 12, 3) := by decide +kernel
theorem dX11_look_108 : decode cX11_look 108 = .ok (.aload_n 0, 1) := by decide +kernel
theorem dX11_look_109 : decode cX11_look 109 = .ok (.getfield 9, 3) := by decide +kernel
theorem dX11_look_112 : decode cX11_look 112 = .ok (.iconst 2, 1) := by decide +kernel
theorem dX11_look_113 : decode cX11_look 113 = .ok (.iaload, 1) := by decide +kernel
theorem dX11_look_114 : decode cX11_look 114 = .ok (.ifCond .ne 6, 3) := by decide +kernel
theorem dX11_look_117 : decode cX11_look 117 = .ok (.bipush (-2), 2) := by decide +kernel
theorem dX11_look_119 : decode cX11_look 119 = .ok (.ireturn, 1) := by decide +kernel
theorem dX11_look_120 : decode cX11_look 120 = .ok (.iconst 0, 1) := by decide +kernel
theorem dX11_look_121 : decode cX11_look 121 = .ok (.istore 4, 2) := by decide +kernel
theorem dX11_look_123 : decode cX11_look 123 = .ok (.iconst 1, 1) := by decide +kernel
theorem dX11_look_124 : decode cX11_look 124 = .ok (.istore 5, 2) := by decide +kernel
theorem dX11_look_126 : decode cX11_look 126 = .ok (.iload 5, 2) := by decide +kernel
theorem dX11_look_128 : decode cX11_look 128 = .ok (.aload_n 0, 1) := by decide +kernel
theorem dX11_look_129 : decode cX11_look 129 = .ok (.getfield 9, 3) := by decide +kernel
theorem dX11_look_132 : decode cX11_look 132 = .ok (.iconst 2, 1) := by decide +kernel
theorem dX11_look_133 : decode cX11_look 133 = .ok (.iaload, 1) := by decide +kernel
theorem dX11_look_134 : decode cX11_look 134 = .ok (.if_icmp .ge 35, 3) := by decide +kernel
theorem dX11_look_137 : decode cX11_look 137 = .ok (.aload_n 0, 1) := by decide +kernel
theorem dX11_look_138 : decode cX11_look 138 = .ok (.iload 5, 2) := by decide +kernel
theorem dX11_look_140 : decode cX11_look 140 = .ok (.iload_n 3, 1) := by decide +kernel
theorem dX11_look_141 : decode cX11_look 141 = .ok (.invokevirtual 465, 3) := by decide +kernel
theorem dX11_look_144 : decode cX11_look 144 = .ok (.aload_n 0, 1) := by decide +kernel
theorem dX11_look_145 : decode cX11_look 145 = .ok (.iload 4, 2) := by decide +kernel
theorem dX11_look_147 : decode cX11_look 147 = .ok (.iload_n 3, 1) := by decide +kernel
theorem dX11_look_148 : decode cX11_look 148 = .ok (.invokevirtual 465, 3) := by decide +kernel
theorem dX11_look_151 : decode cX11_look 151 = .ok (.if_icmp .ge 8, 3) := by decide +kernel
theorem dX11_look_154 : decode cX11_look 154 = .ok (.iload 5, 2) := by decide +kernel
theorem dX11_look_156 : decode cX11_look 156 = .ok (.goto 5, 3) := by decide +kernel
theorem dX11_look_159 : decode cX11_look 159 = .ok (.iload 4, 2) := by decide +kernel
theorem dX11_look_161 : decode cX11_look 161 = .ok (.istore 4, 2) := by decide +kernel
theorem dX11_look_163 : decode cX11_look 163 = .ok (.iinc 5 1, 3) := by decide +kernel
theorem dX11_look_166 : decode cX11_look 166 = .ok (.goto (-40), 3) := by decide +kernel
theorem dX11_look_169 : decode cX11_look 169 = .ok (.iload_n 2, 1) := by decide +kernel
theorem dX11_look_170 : decode cX11_look 170 = .ok (.ifCond .ne 8, 3) := by decide +kernel
theorem dX11_look_173 : decode cX11_look 173 = .ok (.iload 4, 2) := by decide +kernel
theorem dX11_look_175 : decode cX11_look 175 = .ok (.goto 10, 3) := by decide +kernel
theorem dX11_look_178 : decode cX11_look 178 = .ok (.aload_n 0, 1) := by decide +kernel
theorem dX11_look_179 : decode cX11_look 179 = .ok (.iload 4, 2) := by decide +kernel
theorem dX11_look_181 : decode cX11_look 181 = .ok (.iload_n 3, 1) := by decide +kernel
theorem dX11_look_182 : decode cX11_look 182 = .ok (.invokevirtual 465, 3) := by decide +kernel
theorem dX11_look_185 : decode cX11_look 185 = .ok (.ireturn, 1) := by decide +kernel
theorem dX11_seed_0 : decode cX11_seed 0 = .ok (.iload_n 1, 1) := by decide +kernel
theorem dX11_seed_1 : decode cX11_seed 1 = .ok (.ifCond .ge 5, 3) := by decide +kernel
theorem dX11_seed_4 : decode cX11_seed 4 = .ok (.iconst (-1), 1) := by decide +kernel
theorem dX11_seed_5 : decode cX11_seed 5 = .ok (.ireturn, 1) := by decide +kernel
theorem dX11_seed_6 : decode cX11_seed 6 = .ok (.aload_n 0, 1) := by decide +kernel
theorem dX11_seed_7 : decode cX11_seed 7 = .ok (.getfield 9, 3) := by decide +kernel
theorem dX11_seed_10 : decode cX11_seed 10 = .ok (.bipush 7, 2) := by decide +kernel
theorem dX11_seed_12 : decode cX11_seed 12 = .ok (.iaload, 1) := by decide +kernel
theorem dX11_seed_13 : decode cX11_seed 13 = .ok (.istore_n 2, 1) := by decide +kernel
theorem dX11_seed_14 : decode cX11_seed 14 = .ok (.aload_n 0, 1) := by decide +kernel
theorem dX11_seed_15 : decode cX11_seed 15 = .ok (.getfield 9, 3) := by decide +kernel
theorem dX11_seed_18 : decode cX11_seed 18 = .ok (.bipush 7, 2) := by decide +kernel
theorem dX11_seed_20 : decode cX11_seed 20 = .ok (.iload_n 1, 1) := by decide +kernel
theorem dX11_seed_21 : decode cX11_seed 21 = .ok (.iastore, 1) := by decide +kernel
theorem dX11_seed_22 : decode cX11_seed 22 = .ok (.iload_n 2, 1) := by decide +kernel
theorem dX11_seed_23 : decode cX11_seed 23 = .ok (.ireturn, 1) := by decide +kernel
theorem dX11_draws_0 : decode cX11_draws 0 = .ok (.aload_n 0, 1) := by decide +kernel
theorem dX11_draws_1 : decode cX11_draws 1 = .ok (.getfield 9, 3) := by decide +kernel
theorem dX11_draws_4 : decode cX11_draws 4 = .ok (.bipush 7, 2) := by decide +kernel
theorem dX11_draws_6 : decode cX11_draws 6 = .ok (.aload_n 0, 1) := by decide +kernel
theorem dX11_draws_7 : decode cX11_draws 7 = .ok (.getfield 9, 3) := by decide +kernel
theorem dX11_draws_10 : decode cX11_draws 10 = .ok (.bipush 7, 2) := by decide +kernel
theorem dX11_draws_12 : decode cX11_draws 12 = .ok (.iaload, 1) := by decide +kernel
theorem dX11_draws_13 : decode cX11_draws 13 = .ok (.i2l, 1) := by decide +kernel
theorem dX11_draws_14 : decode cX11_draws 14 = .ok (.ldc2_w 468, 3) := by decide +kernel
theorem dX11_draws_17 : decode cX11_draws 17 = .ok (.lmul, 1) := by decide +kernel
theorem dX11_draws_18 : decode cX11_draws 18 = .ok (.ldc2_w 470, 3) := by decide +kernel
theorem dX11_draws_21 : decode cX11_draws 21 = .ok (.ladd, 1) := by decide +kernel
theorem dX11_draws_22 : decode cX11_draws 22 = .ok (.ldc2_w 472, 3) := by decide +kernel
theorem dX11_draws_25 : decode cX11_draws 25 = .ok (.lrem, 1) := by decide +kernel
theorem dX11_draws_26 : decode cX11_draws 26 = .ok (.l2i, 1) := by decide +kernel
theorem dX11_draws_27 : decode cX11_draws 27 = .ok (.iastore, 1) := by decide +kernel
theorem dX11_draws_28 : decode cX11_draws 28 = .ok (.aload_n 0, 1) := by decide +kernel
theorem dX11_draws_29 : decode cX11_draws 29 = .ok (.getfield 9, 3) := by decide +kernel
theorem dX11_draws_32 : decode cX11_draws 32 = .ok (.bipush 7, 2) := by decide +kernel
theorem dX11_draws_34 : decode cX11_draws 34 = .ok (.iaload, 1) := by decide +kernel
theorem dX11_draws_35 : decode cX11_draws 35 = .ok (.ldc_w 474, 3) := by decide +kernel
theorem dX11_draws_38 : decode cX11_draws 38 = .ok (.idiv, 1) := by decide +kernel
theorem dX11_draws_39 : decode cX11_draws 39 = .ok (.iload_n 1, 1) := by decide +kernel
theorem dX11_draws_40 : decode cX11_draws 40 = .ok (.irem, 1) := by decide +kernel
theorem dX11_draws_41 : decode cX11_draws 41 = .ok (.ireturn, 1) := by decide +kernel
theorem dX11_drawsSun_0 : decode cX11_drawsSun 0 = .ok (.aload_n 0, 1) := by decide +kernel
theorem dX11_drawsSun_1 : decode cX11_drawsSun 1 = .ok (.bipush 100, 2) := by decide +kernel
theorem dX11_drawsSun_3 : decode cX11_drawsSun 3 = .ok (.invokevirtual 475, 3) := by decide +kernel
theorem dX11_drawsSun_6 : decode cX11_drawsSun 6 = .ok (.iload_n 1, 1) := by decide +kernel
theorem dX11_drawsSun_7 : decode cX11_drawsSun 7 = .ok (.if_icmp .ge 42, 3) := by decide +kernel
theorem dX11_drawsSun_10 : decode cX11_drawsSun 10 = .ok (.aload_n 0, 1) := by decide +kernel
theorem dX11_drawsSun_11 : decode cX11_drawsSun 11 = .ok (.getfield 9, 3) := by decide +kernel
theorem dX11_drawsSun_14 : decode cX11_drawsSun 14 = .ok (.iconst 2, 1) := by decide +kernel
theorem dX11_drawsSun_15 : decode cX11_drawsSun 15 = .ok (.iaload, 1) := by decide +kernel
theorem dX11_drawsSun_16 : decode cX11_drawsSun 16 = .ok (.ifCond .le 33, 3) := by decide +kernel
theorem dX11_drawsSun_19 : decode cX11_drawsSun 19 = .ok (.aload_n 0, 1) := by decide +kernel
theorem dX11_drawsSun_20 : decode cX11_drawsSun 20 = .ok (.aload_n 0, 1) := by decide +kernel
theorem dX11_drawsSun_21 : decode cX11_drawsSun 21 = .ok (.getfield 9, 3) := by decide +kernel
theorem dX11_drawsSun_24 : decode cX11_drawsSun 24 = .ok (.iconst 2, 1) := by decide +kernel
theorem dX11_drawsSun_25 : decode cX11_drawsSun 25 = .ok (.iaload, 1) := by decide +kernel
theorem dX11_drawsSun_26 : decode cX11_drawsSun 26 = .ok (.invokevirtual 475, 3) := by decide +kernel
theorem dX11_drawsSun_29 : decode cX11_drawsSun 29 = .ok (.istore_n 2, 1) := by decide +kernel
theorem dX11_drawsSun_30 : decode cX11_drawsSun 30 = .ok (.aload_n 0, 1) := by decide +kernel
theorem dX11_drawsSun_31 : decode cX11_drawsSun 31 = .ok (.getfield 16, 3) := by decide +kernel
theorem dX11_drawsSun_34 : decode cX11_drawsSun 34 = .ok (.iload_n 2, 1) := by decide +kernel
theorem dX11_drawsSun_35 : decode cX11_drawsSun 35 = .ok (.aload_n 0, 1) := by decide +kernel
theorem dX11_drawsSun_36 : decode cX11_drawsSun 36 = .ok (.getfield 16, 3) := by decide +kernel
theorem dX11_drawsSun_39 : decode cX11_drawsSun 39 = .ok (.iload_n 2, 1) := by decide +kernel
theorem dX11_drawsSun_40 : decode cX11_drawsSun 40 = .ok (.iaload, 1) := by decide +kernel
theorem dX11_drawsSun_41 : decode cX11_drawsSun 41 = .ok (.iconst 1, 1) := by decide +kernel
theorem dX11_drawsSun_42 : decode cX11_drawsSun 42 = .ok (.iadd, 1) := by decide +kernel
theorem dX11_drawsSun_43 : decode cX11_drawsSun 43 = .ok (.bipush 99, 2) := by decide +kernel
theorem dX11_drawsSun_45 : decode cX11_drawsSun 45 = .ok (.invokestatic 349, 3) := by decide +kernel
theorem dX11_drawsSun_48 : decode cX11_drawsSun 48 = .ok (.iastore, 1) := by decide +kernel
theorem dX11_drawsSun_49 : decode cX11_drawsSun 49 = .ok (.return_, 1) := by decide +kernel
theorem dX11_summers_0 : decode cX11_summers 0 = .ok (.aload_n 0, 1) := by decide +kernel
theorem dX11_summers_1 : decode cX11_summers 1 = .ok (.invokevirtual 405, 3) := by decide +kernel
theorem dX11_summers_4 : decode cX11_summers 4 = .ok (.ifCond .eq 50, 3) := by decide +kernel
theorem dX11_summers_7 : decode cX11_summers 7 = .ok (.iload_n 1, 1) := by decide +kernel
theorem dX11_summers_8 : decode cX11_summers 8 = .ok (.i2l, 1) := by decide +kernel
theorem dX11_summers_9 : decode cX11_summers 9 = .ok (.lconst 1, 1) := by decide +kernel
theorem dX11_summers_10 : decode cX11_summers 10 = .ok (.ldc2_w 478, 3) := by decide +kernel
theorem dX11_summers_13 : decode cX11_summers 13 = .ok (.invokestatic 134, 3) := by decide +kernel
theorem dX11_summers_16 : decode cX11_summers 16 = .ok (.ifCond .eq 38, 3) := by decide +kernel
theorem dX11_summers_19 : decode cX11_summers 19 = .ok (.iload_n 2, 1) := by decide +kernel
theorem dX11_summers_20 : decode cX11_summers 20 = .ok (.i2l, 1) := by decide +kernel
theorem dX11_summers_21 : decode cX11_summers 21 = .ok (.lconst 1, 1) := by decide +kernel
theorem dX11_summers_22 : decode cX11_summers 22 = .ok (.ldc2_w 347, 3) := by decide +kernel
theorem dX11_summers_25 : decode cX11_summers 25 = .ok (.invokestatic 134, 3) := by decide +kernel
theorem dX11_summers_28 : decode cX11_summers 28 = .ok (.ifCond .eq 26, 3) := by decide +kernel
theorem dX11_summers_31 : decode cX11_summers 31 = .ok (.iload_n 3, 1) := by decide +kernel
theorem dX11_summers_32 : decode cX11_summers 32 = .ok (.i2l, 1) := by decide +kernel
theorem dX11_summers_33 : decode cX11_summers 33 = .ok (.lconst 0, 1) := by decide +kernel
theorem dX11_summers_34 : decode cX11_summers 34 = .ok (.ldc2_w 428, 3) := by decide +kernel
theorem dX11_summers_37 : decode cX11_summers 37 = .ok (.invokestatic 134, 3) := by decide +kernel
theorem dX11_summers_40 : decode cX11_summers 40 = .ok (.ifCond .eq 14, 3) := by decide +kernel
theorem dX11_summers_43 : decode cX11_summers 43 = .ok (.iload 4, 2) := by decide +kernel
theorem dX11_summers_45 : decode cX11_summers 45 = .ok (.i2l, 1) := by decide +kernel
theorem dX11_summers_46 : decode cX11_summers 46 = .ok (.lconst 0, 1) := by decide +kernel
theorem dX11_summers_47 : decode cX11_summers 47 = .ok (.lconst 1, 1) := by decide +kernel
theorem dX11_summers_48 : decode cX11_summers 48 = .ok (.invokestatic 134, 3) := by decide +kernel
theorem dX11_summers_51 : decode cX11_summers 51 = .ok (.ifCond .ne 5, 3) := by decide +kernel
theorem dX11_summers_54 : decode cX11_summers 54 = .ok (.iconst (-1), 1) := by decide +kernel
theorem dX11_summers_55 : decode cX11_summers 55 = .ok (.ireturn, 1) := by decide +kernel
theorem dX11_summers_56 : decode cX11_summers 56 = .ok (.aload_n 0, 1) := by decide +kernel
theorem dX11_summers_57 : decode cX11_summers 57 = .ok (.getfield 9, 3) := by decide +kernel
theorem dX11_summers_60 : decode cX11_summers 60 = .ok (.bipush 7, 2) := by decide +kernel
theorem dX11_summers_62 : decode cX11_summers 62 = .ok (.iaload, 1) := by decide +kernel
theorem dX11_summers_63 : decode cX11_summers 63 = .ok (.istore 5, 2) := by decide +kernel
theorem dX11_summers_65 : decode cX11_summers 65 = .ok (.iload 5, 2) := by decide +kernel
theorem dX11_summers_67 : decode cX11_summers 67 = .ok (.istore 6, 2) := by decide +kernel
theorem dX11_summers_69 : decode cX11_summers 69 = .ok (.iconst 0, 1) := by decide +kernel
theorem dX11_summers_70 : decode cX11_summers 70 = .ok (.istore 7, 2) := by decide +kernel
theorem dX11_summers_72 : decode cX11_summers 72 = .ok (.iconst 0, 1) := by decide +kernel
theorem dX11_summers_73 : decode cX11_summers 73 = .ok (.istore 8, 2) := by decide +kernel
theorem dX11_summers_75 : decode cX11_summers 75 = .ok (.aload_n 0, 1) := by decide +kernel
theorem dX11_summers_76 : decode cX11_summers 76 = .ok (.invokevirtual 432, 3) := by decide +kernel
theorem dX11_summers_79 : decode cX11_summers 79 = .ok (.iconst 0, 1) := by decide +kernel
theorem dX11_summers_80 : decode cX11_summers 80 = .ok (.istore 9, 2) := by decide +kernel
