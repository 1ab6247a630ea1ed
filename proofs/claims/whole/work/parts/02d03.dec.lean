theorem dX7_readLand_20 : decode cX7_readLand 20 = .ok (.aload_n 1, 1) := by decide +kernel
theorem dX7_readLand_21 : decode cX7_readLand 21 = .ok (.getfield 74, 3) := by decide +kernel
theorem dX7_readLand_24 : decode cX7_readLand 24 = .ok (.iload_n 2, 1) := by decide +kernel
theorem dX7_readLand_25 : decode cX7_readLand 25 = .ok (.aload_n 0, 1) := by decide +kernel
theorem dX7_readLand_26 : decode cX7_readLand 26 = .ok (.getfield 9, 3) := by decide +kernel
theorem dX7_readLand_29 : decode cX7_readLand 29 = .ok (.getfield 65, 3) := by decide +kernel
theorem dX7_readLand_32 : decode cX7_readLand 32 = .ok (.iastore, 1) := by decide +kernel
theorem dX7_readLand_33 : decode cX7_readLand 33 = .ok (.aload_n 0, 1) := by decide +kernel
theorem dX7_readLand_34 : decode cX7_readLand 34 = .ok (.getfield 9, 3) := by decide +kernel
theorem dX7_readLand_37 : decode cX7_readLand 37 = .ok (.iconst 0, 1) := by decide +kernel
theorem dX7_readLand_38 : decode cX7_readLand 38 = .ok (.bipush 9, 2) := by decide +kernel
theorem dX7_readLand_40 : decode cX7_readLand 40 = .ok (.invokevirtual 61, 3) := by decide +kernel
theorem dX7_readLand_43 : decode cX7_readLand 43 = .ok (.ifCond .ne 5, 3) := by decide +kernel
theorem dX7_readLand_46 : decode cX7_readLand 46 = .ok (.iconst 0, 1) := by decide +kernel
theorem dX7_readLand_47 : decode cX7_readLand 47 = .ok (.ireturn, 1) := by decide +kernel
theorem dX7_readLand_48 : decode cX7_readLand 48 = .ok (.aload_n 1, 1) := by decide +kernel
theorem dX7_readLand_49 : decode cX7_readLand 49 = .ok (.getfield 78, 3) := by decide +kernel
theorem dX7_readLand_52 : decode cX7_readLand 52 = .ok (.iload_n 2, 1) := by decide +kernel
theorem dX7_readLand_53 : decode cX7_readLand 53 = .ok (.aload_n 0, 1) := by decide +kernel
theorem dX7_readLand_54 : decode cX7_readLand 54 = .ok (.getfield 9, 3) := by decide +kernel
theorem dX7_readLand_57 : decode cX7_readLand 57 = .ok (.getfield 65, 3) := by decide +kernel
theorem dX7_readLand_60 : decode cX7_readLand 60 = .ok (.iastore, 1) := by decide +kernel
theorem dX7_readLand_61 : decode cX7_readLand 61 = .ok (.aload_n 0, 1) := by decide +kernel
theorem dX7_readLand_62 : decode cX7_readLand 62 = .ok (.getfield 9, 3) := by decide +kernel
theorem dX7_readLand_65 : decode cX7_readLand 65 = .ok (.iconst 0, 1) := by decide +kernel
theorem dX7_readLand_66 : decode cX7_readLand 66 = .ok (.bipush 99, 2) := by decide +kernel
theorem dX7_readLand_68 : decode cX7_readLand 68 = .ok (.invokevirtual 61, 3) := by decide +kernel
theorem dX7_readLand_71 : decode cX7_readLand 71 = .ok (.ifCond .ne 5, 3) := by decide +kernel
theorem dX7_readLand_74 : decode cX7_readLand 74 = .ok (.iconst 0, 1) := by decide +kernel
theorem dX7_readLand_75 : decode cX7_readLand 75 = .ok (.ireturn, 1) := by decide +kernel
theorem dX7_readLand_76 : decode cX7_readLand 76 = .ok (.aload_n 1, 1) := by decide +kernel
theorem dX7_readLand_77 : decode cX7_readLand 77 = .ok (.getfield 81, 3) := by decide +kernel
theorem dX7_readLand_80 : decode cX7_readLand 80 = .ok (.iload_n 2, 1) := by decide +kernel
theorem dX7_readLand_81 : decode cX7_readLand 81 = .ok (.aload_n 0, 1) := by decide +kernel
theorem dX7_readLand_82 : decode cX7_readLand 82 = .ok (.getfield 9, 3) := by decide +kernel
theorem dX7_readLand_85 : decode cX7_readLand 85 = .ok (.getfield 65, 3) := by decide +kernel
theorem dX7_readLand_88 : decode cX7_readLand 88 = .ok (.iastore, 1) := by decide +kernel
theorem dX7_readLand_89 : decode cX7_readLand 89 = .ok (.aload_n 1, 1) := by decide +kernel
theorem dX7_readLand_90 : decode cX7_readLand 90 = .ok (.iload_n 2, 1) := by decide +kernel
theorem dX7_readLand_91 : decode cX7_readLand 91 = .ok (.iconst 1, 1) := by decide +kernel
theorem dX7_readLand_92 : decode cX7_readLand 92 = .ok (.iadd, 1) := by decide +kernel
theorem dX7_readLand_93 : decode cX7_readLand 93 = .ok (.putfield 45, 3) := by decide +kernel
theorem dX7_readLand_96 : decode cX7_readLand 96 = .ok (.iconst 1, 1) := by decide +kernel
theorem dX7_readLand_97 : decode cX7_readLand 97 = .ok (.ireturn, 1) := by decide +kernel
theorem dX7_readSun_0 : decode cX7_readSun 0 = .ok (.aload_n 0, 1) := by decide +kernel
theorem dX7_readSun_1 : decode cX7_readSun 1 = .ok (.getfield 9, 3) := by decide +kernel
theorem dX7_readSun_4 : decode cX7_readSun 4 = .ok (.iconst 0, 1) := by decide +kernel
theorem dX7_readSun_5 : decode cX7_readSun 5 = .ok (.aload_n 1, 1) := by decide +kernel
theorem dX7_readSun_6 : decode cX7_readSun 6 = .ok (.getfield 45, 3) := by decide +kernel
theorem dX7_readSun_9 : decode cX7_readSun 9 = .ok (.iconst 1, 1) := by decide +kernel
theorem dX7_readSun_10 : decode cX7_readSun 10 = .ok (.isub, 1) := by decide +kernel
theorem dX7_readSun_11 : decode cX7_readSun 11 = .ok (.invokevirtual 61, 3) := by decide +kernel
theorem dX7_readSun_14 : decode cX7_readSun 14 = .ok (.ifCond .ne 5, 3) := by decide +kernel
theorem dX7_readSun_17 : decode cX7_readSun 17 = .ok (.iconst 0, 1) := by decide +kernel
theorem dX7_readSun_18 : decode cX7_readSun 18 = .ok (.ireturn, 1) := by decide +kernel
theorem dX7_readSun_19 : decode cX7_readSun 19 = .ok (.aload_n 0, 1) := by decide +kernel
theorem dX7_readSun_20 : decode cX7_readSun 20 = .ok (.getfield 9, 3) := by decide +kernel
theorem dX7_readSun_23 : decode cX7_readSun 23 = .ok (.getfield 65, 3) := by decide +kernel
theorem dX7_readSun_26 : decode cX7_readSun 26 = .ok (.istore_n 2, 1) := by decide +kernel
theorem dX7_readSun_27 : decode cX7_readSun 27 = .ok (.aload_n 0, 1) := by decide +kernel
theorem dX7_readSun_28 : decode cX7_readSun 28 = .ok (.getfield 9, 3) := by decide +kernel
theorem dX7_readSun_31 : decode cX7_readSun 31 = .ok (.iconst 0, 1) := by decide +kernel
theorem dX7_readSun_32 : decode cX7_readSun 32 = .ok (.bipush 60, 2) := by decide +kernel
theorem dX7_readSun_34 : decode cX7_readSun 34 = .ok (.invokevirtual 61, 3) := by decide +kernel
theorem dX7_readSun_37 : decode cX7_readSun 37 = .ok (.ifCond .ne 5, 3) := by decide +kernel
theorem dX7_readSun_40 : decode cX7_readSun 40 = .ok (.iconst 0, 1) := by decide +kernel
theorem dX7_readSun_41 : decode cX7_readSun 41 = .ok (.ireturn, 1) := by decide +kernel
theorem dX7_readSun_42 : decode cX7_readSun 42 = .ok (.aload_n 1, 1) := by decide +kernel
theorem dX7_readSun_43 : decode cX7_readSun 43 = .ok (.getfield 84, 3) := by decide +kernel
theorem dX7_readSun_46 : decode cX7_readSun 46 = .ok (.iload_n 2, 1) := by decide +kernel
theorem dX7_readSun_47 : decode cX7_readSun 47 = .ok (.aaload, 1) := by decide +kernel
theorem dX7_readSun_48 : decode cX7_readSun 48 = .ok (.aload_n 0, 1) := by decide +kernel
theorem dX7_readSun_49 : decode cX7_readSun 49 = .ok (.getfield 9, 3) := by decide +kernel
theorem dX7_readSun_52 : decode cX7_readSun 52 = .ok (.getfield 65, 3) := by decide +kernel
theorem dX7_readSun_55 : decode cX7_readSun 55 = .ok (.dup2, 1) := by decide +kernel
theorem dX7_readSun_56 : decode cX7_readSun 56 = .ok (.iaload, 1) := by decide +kernel
theorem dX7_readSun_57 : decode cX7_readSun 57 = .ok (.iconst 1, 1) := by decide +kernel
theorem dX7_readSun_58 : decode cX7_readSun 58 = .ok (.iadd, 1) := by decide +kernel
theorem dX7_readSun_59 : decode cX7_readSun 59 = .ok (.iastore, 1) := by decide +kernel
theorem dX7_readSun_60 : decode cX7_readSun 60 = .ok (.iconst 1, 1) := by decide +kernel
theorem dX7_readSun_61 : decode cX7_readSun 61 = .ok (.ireturn, 1) := by decide +kernel
theorem dX8_init_0 : decode cX8_init 0 = .ok (.aload_n 0, 1) := by decide +kernel
theorem dX8_init_1 : decode cX8_init 1 = .ok (.invokespecial 3, 3) := by decide +kernel
theorem dX8_init_4 : decode cX8_init 4 = .ok (.aload_n 0, 1) := by decide +kernel
theorem dX8_init_5 : decode cX8_init 5 = .ok (.bipush 12, 2) := by decide +kernel
theorem dX8_init_7 : decode cX8_init 7 = .ok (.newarray .long, 2) := by decide +kernel
theorem dX8_init_9 : decode cX8_init 9 = .ok (.putfield 9, 3) := by decide +kernel
theorem dX8_init_12 : decode cX8_init 12 = .ok (.return_, 1) := by decide +kernel
theorem dX8_follow_0 : decode cX8_follow 0 = .ok (.aload_n 0, 1) := by decide +kernel
theorem dX8_follow_1 : decode cX8_follow 1 = .ok (.aload_n 1, 1) := by decide +kernel
theorem dX8_follow_2 : decode cX8_follow 2 = .ok (.putfield 15, 3) := by decide +kernel
theorem dX8_follow_5 : decode cX8_follow 5 = .ok (.aload_n 0, 1) := by decide +kernel
theorem dX8_follow_6 : decode cX8_follow 6 = .ok (.aload_n 2, 1) := by decide +kernel
theorem dX8_follow_7 : decode cX8_follow 7 = .ok (.putfield 19, 3) := by decide +kernel
theorem dX8_follow_10 : decode cX8_follow 10 = .ok (.aload_n 0, 1) := by decide +kernel
theorem dX8_follow_11 : decode cX8_follow 11 = .ok (.iconst 0, 1) := by decide +kernel
theorem dX8_follow_12 : decode cX8_follow 12 = .ok (.putfield 23, 3) := by decide +kernel
theorem dX8_follow_15 : decode cX8_follow 15 = .ok (.aload_n 0, 1) := by decide +kernel
theorem dX8_follow_16 : decode cX8_follow 16 = .ok (.iconst 0, 1) := by decide +kernel
theorem dX8_follow_17 : decode cX8_follow 17 = .ok (.putfield 27, 3) := by decide +kernel
theorem dX8_follow_20 : decode cX8_follow 20 = .ok (.aload_n 0, 1) := by decide +kernel
theorem dX8_follow_21 : decode cX8_follow 21 = .ok (.iconst (-1), 1) := by decide +kernel
theorem dX8_follow_22 : decode cX8_follow 22 = .ok (.putfield 30, 3) := by decide +kernel
theorem dX8_follow_25 : decode cX8_follow 25 = .ok (.aload_n 0, 1) := by decide +kernel
theorem dX8_follow_26 : decode cX8_follow 26 = .ok (.iconst (-1), 1) := by decide +kernel
theorem dX8_follow_27 : decode cX8_follow 27 = .ok (.putfield 33, 3) := by decide +kernel
theorem dX8_follow_30 : decode cX8_follow 30 = .ok (.aload_n 0, 1) := by decide +kernel
theorem dX8_follow_31 : decode cX8_follow 31 = .ok (.iconst 0, 1) := by decide +kernel
theorem dX8_follow_32 : decode cX8_follow 32 = .ok (.putfield 36, 3) := by decide +kernel
theorem dX8_follow_35 : decode cX8_follow 35 = .ok (.aload_n 0, 1) := by decide +kernel
theorem dX8_follow_36 : decode cX8_follow 36 = .ok (.iconst 0, 1) := by decide +kernel
theorem dX8_follow_37 : decode cX8_follow 37 = .ok (.putfield 40, 3) := by decide +kernel
theorem dX8_follow_40 : decode cX8_follow 40 = .ok (.return_, 1) := by decide +kernel
theorem dX8_passTillBare_0 : decode cX8_passTillBare 0 = .ok (.iconst 0, 1) := by decide +kernel
theorem dX8_passTillBare_1 : decode cX8_passTillBare 1 = .ok (.istore_n 3, 1) := by decide +kernel
theorem dX8_passTillBare_2 : decode cX8_passTillBare 2 = .ok (.iload_n 3, 1) := by decide +kernel
theorem dX8_passTillBare_3 : decode cX8_passTillBare 3 = .ok (.iload_n 2, 1) := by decide +kernel
theorem dX8_passTillBare_4 : decode cX8_passTillBare 4 = .ok (.if_icmp .ge 25, 3) := by decide +kernel
theorem dX8_passTillBare_7 : decode cX8_passTillBare 7 = .ok (.aload_n 1, 1) := by decide +kernel
theorem dX8_passTillBare_8 : decode cX8_passTillBare 8 = .ok (.getfield 43, 3) := by decide +kernel
theorem dX8_passTillBare_11 : decode cX8_passTillBare 11 = .ok (.invokestatic 49, 3) := by decide +kernel
theorem dX8_passTillBare_14 : decode cX8_passTillBare 14 = .ok (.ifCond .le 15, 3) := by decide +kernel
theorem dX8_passTillBare_17 : decode cX8_passTillBare 17 = .ok (.aload_n 0, 1) := by decide +kernel
theorem dX8_passTillBare_18 : decode cX8_passTillBare 18 = .ok (.aload_n 1, 1) := by decide +kernel
theorem dX8_passTillBare_19 : decode cX8_passTillBare 19 = .ok (.invokevirtual 53, 3) := by decide +kernel
theorem dX8_passTillBare_22 : decode cX8_passTillBare 22 = .ok (.pop, 1) := by decide +kernel
theorem dX8_passTillBare_23 : decode cX8_passTillBare 23 = .ok (.iinc 3 1, 3) := by decide +kernel
theorem dX8_passTillBare_26 : decode cX8_passTillBare 26 = .ok (.goto (-24), 3) := by decide +kernel
theorem dX8_passTillBare_29 : decode cX8_passTillBare 29 = .ok (.return_, 1) := by decide +kernel
theorem dX8_pass_0 : decode cX8_pass 0 = .ok (.aload_n 0, 1) := by decide +kernel
theorem dX8_pass_1 : decode cX8_pass 1 = .ok (.getfield 15, 3) := by decide +kernel
theorem dX8_pass_4 : decode cX8_pass 4 = .ok (.ifnonnull 5, 3) := by decide +kernel
theorem dX8_pass_7 : decode cX8_pass 7 = .ok (.iconst 0, 1) := by decide +kernel
theorem dX8_pass_8 : decode cX8_pass 8 = .ok (.ireturn, 1) := by decide +kernel
theorem dX8_pass_9 : decode cX8_pass 9 = .ok (.aload_n 0, 1) := by decide +kernel
theorem dX8_pass_10 : decode cX8_pass 10 = .ok (.getfield 15, 3) := by decide +kernel
theorem dX8_pass_13 : decode cX8_pass 13 = .ok (.getfield 57, 3) := by decide +kernel
theorem dX8_pass_16 : decode cX8_pass 16 = .ok (.iconst 5, 1) := by decide +kernel
theorem dX8_pass_17 : decode cX8_pass 17 = .ok (.invokestatic 62, 3) := by decide +kernel
theorem dX8_pass_20 : decode cX8_pass 20 = .ok (.istore_n 2, 1) := by decide +kernel
theorem dX8_pass_21 : decode cX8_pass 21 = .ok (.iconst 0, 1) := by decide +kernel
theorem dX8_pass_22 : decode cX8_pass 22 = .ok (.istore_n 3, 1) := by decide +kernel
theorem dX8_pass_23 : decode cX8_pass 23 = .ok (.iload_n 3, 1) := by decide +kernel
theorem dX8_pass_24 : decode cX8_pass 24 = .ok (.iload_n 2, 1) := by decide +kernel
theorem dX8_pass_25 : decode cX8_pass 25 = .ok (.if_icmp .ge 26, 3) := by decide +kernel
theorem dX8_pass_28 : decode cX8_pass 28 = .ok (.aload_n 1, 1) := by decide +kernel
theorem dX8_pass_29 : decode cX8_pass 29 = .ok (.iload_n 3, 1) := by decide +kernel
theorem dX8_pass_30 : decode cX8_pass 30 = .ok (.aload_n 0, 1) := by decide +kernel
theorem dX8_pass_31 : decode cX8_pass 31 = .ok (.getfield 15, 3) := by decide +kernel
theorem dX8_pass_34 : decode cX8_pass 34 = .ok (.iload_n 3, 1) := by decide +kernel
theorem dX8_pass_35 : decode cX8_pass 35 = .ok (.aload_n 1, 1) := by decide +kernel
theorem dX8_pass_36 : decode cX8_pass 36 = .ok (.getfield 68, 3) := by decide +kernel
theorem dX8_pass_39 : decode cX8_pass 39 = .ok (.invokevirtual 71, 3) := by decide +kernel
theorem dX8_pass_42 : decode cX8_pass 42 = .ok (.invokevirtual 74, 3) := by decide +kernel
theorem dX8_pass_45 : decode cX8_pass 45 = .ok (.iinc 3 1, 3) := by decide +kernel
theorem dX8_pass_48 : decode cX8_pass 48 = .ok (.goto (-25), 3) := by decide +kernel
theorem dX8_pass_51 : decode cX8_pass 51 = .ok (.iconst 0, 1) := by decide +kernel
theorem dX8_pass_52 : decode cX8_pass 52 = .ok (.istore_n 3, 1) := by decide +kernel
theorem dX8_pass_53 : decode cX8_pass 53 = .ok (.iconst 0, 1) := by decide +kernel
theorem dX8_pass_54 : decode cX8_pass 54 = .ok (.istore 4, 2) := by decide +kernel
theorem dX8_pass_56 : decode cX8_pass 56 = .ok (.iload 4, 2) := by decide +kernel
theorem dX8_pass_58 : decode cX8_pass 58 = .ok (.iload_n 2, 1) := by decide +kernel
theorem dX8_pass_59 : decode cX8_pass 59 = .ok (.if_icmp .ge 58, 3) := by decide +kernel
theorem dX8_pass_62 : decode cX8_pass 62 = .ok (.aload_n 0, 1) := by decide +kernel
theorem dX8_pass_63 : decode cX8_pass 63 = .ok (.aload_n 1, 1) := by decide +kernel
theorem dX8_pass_64 : decode cX8_pass 64 = .ok (.iload 4, 2) := by decide +kernel
theorem dX8_pass_66 : decode cX8_pass 66 = .ok (.iload_n 2, 1) := by decide +kernel
theorem dX8_pass_67 : decode cX8_pass 67 = .ok (.invokevirtual 78, 3) := by decide +kernel
theorem dX8_pass_70 : decode cX8_pass 70 = .ok (.istore 5, 2) := by decide +kernel
theorem dX8_pass_72 : decode cX8_pass 72 = .ok (.aload_n 1, 1) := by decide +kernel
theorem dX8_pass_73 : decode cX8_pass 73 = .ok (.getfield 82, 3) := by decide +kernel
theorem dX8_pass_76 : decode cX8_pass 76 = .ok (.iload 4, 2) := by decide +kernel
theorem dX8_pass_78 : decode cX8_pass 78 = .ok (.iload 5, 2) := by decide +kernel
theorem dX8_pass_80 : decode cX8_pass 80 = .ok (.iastore, 1) := by decide +kernel
theorem dX8_pass_81 : decode cX8_pass 81 = .ok (.iload 5, 2) := by decide +kernel
theorem dX8_pass_83 : decode cX8_pass 83 = .ok (.iconst (-1), 1) := by decide +kernel
theorem dX8_pass_84 : decode cX8_pass 84 = .ok (.if_icmp .eq 27, 3) := by decide +kernel
theorem dX8_pass_87 : decode cX8_pass 87 = .ok (.aload_n 1, 1) := by decide +kernel
theorem dX8_pass_88 : decode cX8_pass 88 = .ok (.iload 4, 2) := by decide +kernel
theorem dX8_pass_90 : decode cX8_pass 90 = .ok (.iload 5, 2) := by decide +kernel
theorem dX8_pass_92 : decode cX8_pass 92 = .ok (.invokevirtual 85, 3) := by decide +kernel
theorem dX8_pass_95 : decode cX8_pass 95 = .ok (.aload_n 0, 1) := by decide +kernel
theorem dX8_pass_96 : decode cX8_pass 96 = .ok (.dup, 1) := by decide +kernel
theorem dX8_pass_97 : decode cX8_pass 97 = .ok (.getfield 40, 3) := by decide +kernel
theorem dX8_pass_100 : decode cX8_pass 100 = .ok (.iconst 1, 1) := by decide +kernel
theorem dX8_pass_101 : decode cX8_pass 101 = .ok (.iload 5, 2) := by decide +kernel
theorem dX8_pass_103 : decode cX8_pass 103 = .ok (.ishl, 1) := by decide +kernel
theorem dX8_pass_104 : decode cX8_pass 104 = .ok (.ior, 1) := by decide +kernel
theorem dX8_pass_105 : decode cX8_pass 105 = .ok (.putfield 40, 3) := by decide +kernel
theorem dX8_pass_108 : decode cX8_pass 108 = .ok (.iinc 3 1, 3) := by decide +kernel
theorem dX8_pass_111 : decode cX8_pass 111 = .ok (.iinc 4 1, 3) := by decide +kernel
theorem dX8_pass_114 : decode cX8_pass 114 = .ok (.goto (-58), 3) := by decide +kernel
theorem dX8_pass_117 : decode cX8_pass 117 = .ok (.iconst 0, 1) := by decide +kernel
theorem dX8_pass_118 : decode cX8_pass 118 = .ok (.istore 4, 2) := by decide +kernel
theorem dX8_pass_120 : decode cX8_pass 120 = .ok (.iload 4, 2) := by decide +kernel
theorem dX8_pass_122 : decode cX8_pass 122 = .ok (.iload_n 2, 1) := by decide +kernel
theorem dX8_pass_123 : decode cX8_pass 123 = .ok (.if_icmp .ge 39, 3) := by decide +kernel
theorem dX8_pass_126 : decode cX8_pass 126 = .ok (.aload_n 1, 1) := by decide +kernel
theorem dX8_pass_127 : decode cX8_pass 127 = .ok (.iload 4, 2) := by decide +kernel
theorem dX8_pass_129 : decode cX8_pass 129 = .ok (.invokevirtual 88, 3) := by decide +kernel
theorem dX8_pass_132 : decode cX8_pass 132 = .ok (.aload_n 1, 1) := by decide +kernel
theorem dX8_pass_133 : decode cX8_pass 133 = .ok (.getfield 92, 3) := by decide +kernel
theorem dX8_pass_136 : decode cX8_pass 136 = .ok (.iload 4, 2) := by decide +kernel
theorem dX8_pass_138 : decode cX8_pass 138 = .ok (.aload_n 1, 1) := by decide +kernel
theorem dX8_pass_139 : decode cX8_pass 139 = .ok (.getfield 92, 3) := by decide +kernel
theorem dX8_pass_142 : decode cX8_pass 142 = .ok (.iload 4, 2) := by decide +kernel
theorem dX8_pass_144 : decode cX8_pass 144 = .ok (.iaload, 1) := by decide +kernel
theorem dX8_pass_145 : decode cX8_pass 145 = .ok (.aload_n 0, 1) := by decide +kernel
theorem dX8_pass_146 : decode cX8_pass 146 = .ok (.getfield 15, 3) := by decide +kernel
theorem dX8_pass_149 : decode cX8_pass 149 = .ok (.getfield 95, 3) := by decide +kernel
theorem dX8_pass_152 : decode cX8_pass 152 = .ok (.invokestatic 62, 3) := by decide +kernel
theorem dX8_pass_155 : decode cX8_pass 155 = .ok (.iastore, 1) := by decide +kernel
theorem dX8_pass_156 : decode cX8_pass 156 = .ok (.iinc 4 1, 3) := by decide +kernel
theorem dX8_pass_159 : decode cX8_pass 159 = .ok (.goto (-39), 3) := by decide +kernel
theorem dX8_pass_162 : decode cX8_pass 162 = .ok (.aload_n 1, 1) := by decide +kernel
theorem dX8_pass_163 : decode cX8_pass 163 = .ok (.dup, 1) := by decide +kernel
theorem dX8_pass_164 : decode cX8_pass 164 = .ok (.getfield 68, 3) := by decide +kernel
theorem dX8_pass_167 : decode cX8_pass 167 = .ok (.iconst 1, 1) := by decide +kernel
theorem dX8_pass_168 : decode cX8_pass 168 = .ok (.iadd, 1) := by decide +kernel
theorem dX8_pass_169 : decode cX8_pass 169 = .ok (.putfield 68, 3) := by decide +kernel
theorem dX8_pass_172 : decode cX8_pass 172 = .ok (.iload_n 3, 1) := by decide +kernel
theorem dX8_pass_173 : decode cX8_pass 173 = .ok (.ireturn, 1) := by decide +kernel
theorem dX8_pick_0 : decode cX8_pick 0 = .ok (.iload_n 2, 1) := by decide +kernel
theorem dX8_pick_1 : decode cX8_pick 1 = .ok (.aload_n 0, 1) := by decide +kernel
theorem dX8_pick_2 : decode cX8_pick 2 = .ok (.getfield 30, 3) := by decide +kernel
theorem dX8_pick_5 : decode cX8_pick 5 = .ok (.if_icmp .ne 10, 3) := by decide +kernel
theorem dX8_pick_8 : decode cX8_pick 8 = .ok (.aload_n 0, 1) := by decide +kernel
theorem dX8_pick_9 : decode cX8_pick 9 = .ok (.aload_n 1, 1) := by decide +kernel
theorem dX8_pick_10 : decode cX8_pick 10 = .ok (.iload_n 3, 1) := by decide +kernel
theorem dX8_pick_11 : decode cX8_pick 11 = .ok (.invokevirtual 98, 3) := by decide +kernel
theorem dX8_pick_14 : decode cX8_pick 14 = .ok (.ireturn, 1) := by decide +kernel
theorem dX8_pick_15 : decode cX8_pick 15 = .ok (.aload_n 0, 1) := by decide +kernel
theorem dX8_pick_16 : decode cX8_pick 16 = .ok (.getfield 19, 3) := by decide +kernel
theorem dX8_pick_19 : decode cX8_pick 19 = .ok (.ifnonnull 26, 3) := by decide +kernel
theorem dX8_pick_22 : decode cX8_pick 22 = .ok (.aload_n 1, 1) := by decide +kernel
theorem dX8_pick_23 : decode cX8_pick 23 = .ok (.getfield 43, 3) := by decide +kernel
theorem dX8_pick_26 : decode cX8_pick 26 = .ok (.iload_n 2, 1) := by decide +kernel
theorem dX8_pick_27 : decode cX8_pick 27 = .ok (.iaload, 1) := by decide +kernel
theorem dX8_pick_28 : decode cX8_pick 28 = .ok (.iconst 1, 1) := by decide +kernel
theorem dX8_pick_29 : decode cX8_pick 29 = .ok (.if_icmp .lt 12, 3) := by decide +kernel
theorem dX8_pick_32 : decode cX8_pick 32 = .ok (.aload_n 1, 1) := by decide +kernel
theorem dX8_pick_33 : decode cX8_pick 33 = .ok (.getfield 92, 3) := by decide +kernel
theorem dX8_pick_36 : decode cX8_pick 36 = .ok (.iload_n 2, 1) := by decide +kernel
theorem dX8_pick_37 : decode cX8_pick 37 = .ok (.iaload, 1) := by decide +kernel
theorem dX8_pick_38 : decode cX8_pick 38 = .ok (.ifCond .le 7, 3) := by decide +kernel
theorem dX8_pick_41 : decode cX8_pick 41 = .ok (.iconst 1, 1) := by decide +kernel
theorem dX8_pick_42 : decode cX8_pick 42 = .ok (.goto 4, 3) := by decide +kernel
theorem dX8_pick_45 : decode cX8_pick 45 = .ok (.iconst 0, 1) := by decide +kernel
theorem dX8_pick_46 : decode cX8_pick 46 = .ok (.istore 4, 2) := by decide +kernel
theorem dX8_pick_48 : decode cX8_pick 48 = .ok (.aload_n 0, 1) := by decide +kernel
theorem dX8_pick_49 : decode cX8_pick 49 = .ok (.getfield 27, 3) := by decide +kernel
theorem dX8_pick_52 : decode cX8_pick 52 = .ok (.iload_n 2, 1) := by decide +kernel
theorem dX8_pick_53 : decode cX8_pick 53 = .ok (.invokestatic 102, 3) := by decide +kernel
theorem dX8_pick_56 : decode cX8_pick 56 = .ok (.ifCond .ne 21, 3) := by decide +kernel
theorem dX8_pick_59 : decode cX8_pick 59 = .ok (.iload 4, 2) := by decide +kernel
theorem dX8_pick_61 : decode cX8_pick 61 = .ok (.ifCond .ne 16, 3) := by decide +kernel
theorem dX8_pick_64 : decode cX8_pick 64 = .ok (.aload_n 1, 1) := by decide +kernel
theorem dX8_pick_65 : decode cX8_pick 65 = .ok (.getfield 106, 3) := by decide +kernel
theorem dX8_pick_68 : decode cX8_pick 68 = .ok (.iload_n 2, 1) := by decide +kernel
theorem dX8_pick_69 : decode cX8_pick 69 = .ok (.iaload, 1) := by decide +kernel
theorem dX8_pick_70 : decode cX8_pick 70 = .ok (.aload_n 1, 1) := by decide +kernel
theorem dX8_pick_71 : decode cX8_pick 71 = .ok (.getfield 109, 3) := by decide +kernel
theorem dX8_pick_74 : decode cX8_pick 74 = .ok (.if_icmp .ge 5, 3) := by decide +kernel
theorem dX8_pick_77 : decode cX8_pick 77 = .ok (.iconst (-1), 1) := by decide +kernel
theorem dX8_pick_78 : decode cX8_pick 78 = .ok (.ireturn, 1) := by decide +kernel
theorem dX8_pick_79 : decode cX8_pick 79 = .ok (.aload_n 0, 1) := by decide +kernel
theorem dX8_pick_80 : decode cX8_pick 80 = .ok (.aload_n 1, 1) := by decide +kernel
theorem dX8_pick_81 : decode cX8_pick 81 = .ok (.iload_n 2, 1) := by decide +kernel
theorem dX8_pick_82 : decode cX8_pick 82 = .ok (.invokevirtual 112, 3) := by decide +kernel
theorem dX8_pick_85 : decode cX8_pick 85 = .ok (.lconst 0, 1) := by decide +kernel
theorem dX8_pick_86 : decode cX8_pick 86 = .ok (.lstore 5, 2) := by decide +kernel
theorem dX8_pick_88 : decode cX8_pick 88 = .ok (.iconst (-1), 1) := by decide +kernel
theorem dX8_pick_89 : decode cX8_pick 89 = .ok (.istore 7, 2) := by decide +kernel
theorem dX8_pick_91 : decode cX8_pick 91 = .ok (.iconst 0, 1) := by decide +kernel
theorem dX8_pick_92 : decode cX8_pick 92 = .ok (.istore 8, 2) := by decide +kernel
theorem dX8_pick_94 : decode cX8_pick 94 = .ok (.iload 8, 2) := by decide +kernel
theorem dX8_pick_96 : decode cX8_pick 96 = .ok (.iload_n 3, 1) := by decide +kernel
theorem dX8_pick_97 : decode cX8_pick 97 = .ok (.if_icmp .ge 88, 3) := by decide +kernel
theorem dX8_pick_100 : decode cX8_pick 100 = .ok (.aload_n 0, 1) := by decide +kernel
theorem dX8_pick_101 : decode cX8_pick 101 = .ok (.getfield 23, 3) := by decide +kernel
theorem dX8_pick_104 : decode cX8_pick 104 = .ok (.iload 8, 2) := by decide +kernel
theorem dX8_pick_106 : decode cX8_pick 106 = .ok (.invokestatic 102, 3) := by decide +kernel
theorem dX8_pick_109 : decode cX8_pick 109 = .ok (.ifCond .ne 70, 3) := by decide +kernel
theorem dX8_pick_112 : decode cX8_pick 112 = .ok (.aload_n 1, 1) := by decide +kernel
theorem dX8_pick_113 : decode cX8_pick 113 = .ok (.iload_n 2, 1) := by decide +kernel
theorem dX8_pick_114 : decode cX8_pick 114 = .ok (.iload 8, 2) := by decide +kernel
theorem dX8_pick_116 : decode cX8_pick 116 = .ok (.invokevirtual 116, 3) := by decide +kernel
theorem dX8_pick_119 : decode cX8_pick 119 = .ok (.ifCond .ne 6, 3) := by decide +kernel
theorem dX8_pick_122 : decode cX8_pick 122 = .ok (.goto 57, 3) := by decide +kernel
theorem dX8_pick_125 : decode cX8_pick 125 = .ok (.aload_n 0, 1) := by decide +kernel
theorem dX8_pick_126 : decode cX8_pick 126 = .ok (.aload_n 1, 1) := by decide +kernel
theorem dX8_pick_127 : decode cX8_pick 127 = .ok (.iload 8, 2) := by decide +kernel
theorem dX8_pick_129 : decode cX8_pick 129 = .ok (.invokevirtual 119, 3) := by decide +kernel
theorem dX8_pick_132 : decode cX8_pick 132 = .ok (.aload_n 0, 1) := by decide +kernel
theorem dX8_pick_133 : decode cX8_pick 133 = .ok (.getfield 19, 3) := by decide +kernel
theorem dX8_pick_136 : decode cX8_pick 136 = .ok (.ifnonnull 14, 3) := by decide +kernel
theorem dX8_pick_139 : decode cX8_pick 139 = .ok (.aload_n 1, 1) := by decide +kernel
theorem dX8_pick_140 : decode cX8_pick 140 = .ok (.getfield 92, 3) := by decide +kernel
theorem dX8_pick_143 : decode cX8_pick 143 = .ok (.iload 8, 2) := by decide +kernel
theorem dX8_pick_145 : decode cX8_pick 145 = .ok (.iaload, 1) := by decide +kernel
theorem dX8_pick_146 : decode cX8_pick 146 = .ok (.i2l, 1) := by decide +kernel
theorem dX8_pick_147 : decode cX8_pick 147 = .ok (.goto 14, 3) := by decide +kernel
theorem dX8_pick_150 : decode cX8_pick 150 = .ok (.aload_n 0, 1) := by decide +kernel
theorem dX8_pick_151 : decode cX8_pick 151 = .ok (.getfield 19, 3) := by decide +kernel
theorem dX8_pick_154 : decode cX8_pick 154 = .ok (.aload_n 0, 1) := by decide +kernel
theorem dX8_pick_155 : decode cX8_pick 155 = .ok (.getfield 9, 3) := by decide +kernel
theorem dX8_pick_158 : decode cX8_pick 158 = .ok (.invokevirtual 122, 3) := by decide +kernel
theorem dX8_pick_161 : decode cX8_pick 161 = .ok (.lstore 9, 2) := by decide +kernel
theorem dX8_pick_163 : decode cX8_pick 163 = .ok (.lload 9, 2) := by decide +kernel
theorem dX8_pick_165 : decode cX8_pick 165 = .ok (.lload 5, 2) := by decide +kernel
theorem dX8_pick_167 : decode cX8_pick 167 = .ok (.lcmp, 1) := by decide +kernel
theorem dX8_pick_168 : decode cX8_pick 168 = .ok (.ifCond .le 11, 3) := by decide +kernel
theorem dX8_pick_171 : decode cX8_pick 171 = .ok (.lload 9, 2) := by decide +kernel
theorem dX8_pick_173 : decode cX8_pick 173 = .ok (.lstore 5, 2) := by decide +kernel
theorem dX8_pick_175 : decode cX8_pick 175 = .ok (.iload 8, 2) := by decide +kernel
theorem dX8_pick_177 : decode cX8_pick 177 = .ok (.istore 7, 2) := by decide +kernel
theorem dX8_pick_179 : decode cX8_pick 179 = .ok (.iinc 8 1, 3) := by decide +kernel
theorem dX8_pick_182 : decode cX8_pick 182 = .ok (.goto (-88), 3) := by decide +kernel
theorem dX8_pick_185 : decode cX8_pick 185 = .ok (.iload 7, 2) := by decide +kernel
theorem dX8_pick_187 : decode cX8_pick 187 = .ok (.ireturn, 1) := by decide +kernel
theorem dX8_pickChosen_0 : decode cX8_pickChosen 0 = .ok (.aload_n 0, 1) := by decide +kernel
theorem dX8_pickChosen_1 : decode cX8_pickChosen 1 = .ok (.getfield 33, 3) := by decide +kernel
theorem dX8_pickChosen_4 : decode cX8_pickChosen 4 = .ok (.iconst 0, 1) := by decide +kernel
theorem dX8_pickChosen_5 : decode cX8_pickChosen 5 = .ok (.iload_n 2, 1) := by decide +kernel
theorem dX8_pickChosen_6 : decode cX8_pickChosen 6 = .ok (.iconst 1, 1) := by decide +kernel
theorem dX8_pickChosen_7 : decode cX8_pickChosen 7 = .ok (.isub, 1) := by decide +kernel
theorem dX8_pickChosen_8 : decode cX8_pickChosen 8 = .ok (.invokestatic 128, 3) := by decide +kernel
theorem dX8_pickChosen_11 : decode cX8_pickChosen 11 = .ok (.ifCond .ne 5, 3) := by decide +kernel
theorem dX8_pickChosen_14 : decode cX8_pickChosen 14 = .ok (.iconst (-1), 1) := by decide +kernel
theorem dX8_pickChosen_15 : decode cX8_pickChosen 15 = .ok (.ireturn, 1) := by decide +kernel
theorem dX8_pickChosen_16 : decode cX8_pickChosen 16 = .ok (.aload_n 0, 1) := by decide +kernel
theorem dX8_pickChosen_17 : decode cX8_pickChosen 17 = .ok (.aload_n 1, 1) := by decide +kernel
theorem dX8_pickChosen_18 : decode cX8_pickChosen 18 = .ok (.aload_n 0, 1) := by decide +kernel
theorem dX8_pickChosen_19 : decode cX8_pickChosen 19 = .ok (.getfield 30, 3) := by decide +kernel
theorem dX8_pickChosen_22 : decode cX8_pickChosen 22 = .ok (.aload_n 0, 1) := by decide +kernel
theorem dX8_pickChosen_23 : decode cX8_pickChosen 23 = .ok (.getfield 33, 3) := by decide +kernel
theorem dX8_pickChosen_26 : decode cX8_pickChosen 26 = .ok (.invokevirtual 116, 3) := by decide +kernel
theorem dX8_pickChosen_29 : decode cX8_pickChosen 29 = .ok (.ifCond .ne 7, 3) := by decide +kernel
theorem dX8_pickChosen_32 : decode cX8_pickChosen 32 = .ok (.iconst 1, 1) := by decide +kernel
theorem dX8_pickChosen_33 : decode cX8_pickChosen 33 = .ok (.goto 4, 3) := by decide +kernel
theorem dX8_pickChosen_36 : decode cX8_pickChosen 36 = .ok (.iconst 0, 1) := by decide +kernel
theorem dX8_pickChosen_37 : decode cX8_pickChosen 37 = .ok (.putfield 36, 3) := by decide +kernel
theorem dX8_pickChosen_40 : decode cX8_pickChosen 40 = .ok (.aload_n 0, 1) := by decide +kernel
theorem dX8_pickChosen_41 : decode cX8_pickChosen 41 = .ok (.getfield 36, 3) := by decide +kernel
theorem dX8_pickChosen_44 : decode cX8_pickChosen 44 = .ok (.ifCond .eq 7, 3) := by decide +kernel
theorem dX8_pickChosen_47 : decode cX8_pickChosen 47 = .ok (.iconst (-1), 1) := by decide +kernel
theorem dX8_pickChosen_48 : decode cX8_pickChosen 48 = .ok (.goto 7, 3) := by decide +kernel
theorem dX8_pickChosen_51 : decode cX8_pickChosen 51 = .ok (.aload_n 0, 1) := by decide +kernel
theorem dX8_pickChosen_52 : decode cX8_pickChosen 52 = .ok (.getfield 33, 3) := by decide +kernel
theorem dX8_pickChosen_55 : decode cX8_pickChosen 55 = .ok (.ireturn, 1) := by decide +kernel
theorem dX8_tellLand_0 : decode cX8_tellLand 0 = .ok (.aload_n 0, 1) := by decide +kernel
theorem dX8_tellLand_1 : decode cX8_tellLand 1 = .ok (.getfield 9, 3) := by decide +kernel
theorem dX8_tellLand_4 : decode cX8_tellLand 4 = .ok (.iconst 0, 1) := by decide +kernel
theorem dX8_tellLand_5 : decode cX8_tellLand 5 = .ok (.iload_n 2, 1) := by decide +kernel
theorem dX8_tellLand_6 : decode cX8_tellLand 6 = .ok (.i2l, 1) := by decide +kernel
theorem dX8_tellLand_7 : decode cX8_tellLand 7 = .ok (.lastore, 1) := by decide +kernel
theorem dX8_tellLand_8 : decode cX8_tellLand 8 = .ok (.aload_n 0, 1) := by decide +kernel
theorem dX8_tellLand_9 : decode cX8_tellLand 9 = .ok (.getfield 9, 3) := by decide +kernel
theorem dX8_tellLand_12 : decode cX8_tellLand 12 = .ok (.iconst 2, 1) := by decide +kernel
theorem dX8_tellLand_13 : decode cX8_tellLand 13 = .ok (.aload_n 1, 1) := by decide +kernel
theorem dX8_tellLand_14 : decode cX8_tellLand 14 = .ok (.getfield 106, 3) := by decide +kernel
theorem dX8_tellLand_17 : decode cX8_tellLand 17 = .ok (.iload_n 2, 1) := by decide +kernel
theorem dX8_tellLand_18 : decode cX8_tellLand 18 = .ok (.iaload, 1) := by decide +kernel
theorem dX8_tellLand_19 : decode cX8_tellLand 19 = .ok (.i2l, 1) := by decide +kernel
theorem dX8_tellLand_20 : decode cX8_tellLand 20 = .ok (.lastore, 1) := by decide +kernel
theorem dX8_tellLand_21 : decode cX8_tellLand 21 = .ok (.aload_n 0, 1) := by decide +kernel
theorem dX8_tellLand_22 : decode cX8_tellLand 22 = .ok (.getfield 9, 3) := by decide +kernel
theorem dX8_tellLand_25 : decode cX8_tellLand 25 = .ok (.iconst 3, 1) := by decide +kernel
theorem dX8_tellLand_26 : decode cX8_tellLand 26 = .ok (.aload_n 1, 1) := by decide +kernel
theorem dX8_tellLand_27 : decode cX8_tellLand 27 = .ok (.getfield 92, 3) := by decide +kernel
theorem dX8_tellLand_30 : decode cX8_tellLand 30 = .ok (.iload_n 2, 1) := by decide +kernel
theorem dX8_tellLand_31 : decode cX8_tellLand 31 = .ok (.iaload, 1) := by decide +kernel
theorem dX8_tellLand_32 : decode cX8_tellLand 32 = .ok (.i2l, 1) := by decide +kernel
theorem dX8_tellLand_33 : decode cX8_tellLand 33 = .ok (.lastore, 1) := by decide +kernel
theorem dX8_tellLand_34 : decode cX8_tellLand 34 = .ok (.aload_n 0, 1) := by decide +kernel
theorem dX8_tellLand_35 : decode cX8_tellLand 35 = .ok (.getfield 9, 3) := by decide +kernel
theorem dX8_tellLand_38 : decode cX8_tellLand 38 = .ok (.iconst 4, 1) := by decide +kernel
theorem dX8_tellLand_39 : decode cX8_tellLand 39 = .ok (.aload_n 1, 1) := by decide +kernel
theorem dX8_tellLand_40 : decode cX8_tellLand 40 = .ok (.getfield 43, 3) := by decide +kernel
theorem dX8_tellLand_43 : decode cX8_tellLand 43 = .ok (.iload_n 2, 1) := by decide +kernel
theorem dX8_tellLand_44 : decode cX8_tellLand 44 = .ok (.iaload, 1) := by decide +kernel
theorem dX8_tellLand_45 : decode cX8_tellLand 45 = .ok (.i2l, 1) := by decide +kernel
theorem dX8_tellLand_46 : decode cX8_tellLand 46 = .ok (.lastore, 1) := by decide +kernel
theorem dX8_tellLand_47 : decode cX8_tellLand 47 = .ok (.aload_n 0, 1) := by decide +kernel
theorem dX8_tellLand_48 : decode cX8_tellLand 48 = .ok (.getfield 9, 3) := by decide +kernel
theorem dX8_tellLand_51 : decode cX8_tellLand 51 = .ok (.iconst 5, 1) := by decide +kernel
theorem dX8_tellLand_52 : decode cX8_tellLand 52 = .ok (.aload_n 1, 1) := by decide +kernel
theorem dX8_tellLand_53 : decode cX8_tellLand 53 = .ok (.getfield 132, 3) := by decide +kernel
theorem dX8_tellLand_56 : decode cX8_tellLand 56 = .ok (.iload_n 2, 1) := by decide +kernel
theorem dX8_tellLand_57 : decode cX8_tellLand 57 = .ok (.iaload, 1) := by decide +kernel
theorem dX8_tellLand_58 : decode cX8_tellLand 58 = .ok (.i2l, 1) := by decide +kernel
theorem dX8_tellLand_59 : decode cX8_tellLand 59 = .ok (.lastore, 1) := by decide +kernel
theorem dX8_tellLand_60 : decode cX8_tellLand 60 = .ok (.aload_n 0, 1) := by decide +kernel
theorem dX8_tellLand_61 : decode cX8_tellLand 61 = .ok (.getfield 9, 3) := by decide +kernel
theorem dX8_tellLand_64 : decode cX8_tellLand 64 = .ok (.bipush 9, 2) := by decide +kernel
theorem dX8_tellLand_66 : decode cX8_tellLand 66 = .ok (.aload_n 1, 1) := by decide +kernel
theorem dX8_tellLand_67 : decode cX8_tellLand 67 = .ok (.getfield 109, 3) := by decide +kernel
theorem dX8_tellLand_70 : decode cX8_tellLand 70 = .ok (.i2l, 1) := by decide +kernel
theorem dX8_tellLand_71 : decode cX8_tellLand 71 = .ok (.lastore, 1) := by decide +kernel
theorem dX8_tellLand_72 : decode cX8_tellLand 72 = .ok (.aload_n 0, 1) := by decide +kernel
theorem dX8_tellLand_73 : decode cX8_tellLand 73 = .ok (.getfield 9, 3) := by decide +kernel
theorem dX8_tellLand_76 : decode cX8_tellLand 76 = .ok (.bipush 10, 2) := by decide +kernel
theorem dX8_tellLand_78 : decode cX8_tellLand 78 = .ok (.aload_n 0, 1) := by decide +kernel
theorem dX8_tellLand_79 : decode cX8_tellLand 79 = .ok (.getfield 15, 3) := by decide +kernel
theorem dX8_tellLand_82 : decode cX8_tellLand 82 = .ok (.ifnonnull 7, 3) := by decide +kernel
theorem dX8_tellLand_85 : decode cX8_tellLand 85 = .ok (.lconst 0, 1) := by decide +kernel
theorem dX8_tellLand_86 : decode cX8_tellLand 86 = .ok (.goto 16, 3) := by decide +kernel
theorem dX8_tellLand_89 : decode cX8_tellLand 89 = .ok (.aload_n 0, 1) := by decide +kernel
theorem dX8_tellLand_90 : decode cX8_tellLand 90 = .ok (.getfield 15, 3) := by decide +kernel
theorem dX8_tellLand_93 : decode cX8_tellLand 93 = .ok (.iload_n 2, 1) := by decide +kernel
theorem dX8_tellLand_94 : decode cX8_tellLand 94 = .ok (.aload_n 1, 1) := by decide +kernel
theorem dX8_tellLand_95 : decode cX8_tellLand 95 = .ok (.getfield 68, 3) := by decide +kernel
theorem dX8_tellLand_98 : decode cX8_tellLand 98 = .ok (.invokevirtual 135, 3) := by decide +kernel
theorem dX8_tellLand_101 : decode cX8_tellLand 101 = .ok (.i2l, 1) := by decide +kernel
theorem dX8_tellLand_102 : decode cX8_tellLand 102 = .ok (.lastore, 1) := by decide +kernel
theorem dX8_tellLand_103 : decode cX8_tellLand 103 = .ok (.aload_n 0, 1) := by decide +kernel
theorem dX8_tellLand_104 : decode cX8_tellLand 104 = .ok (.getfield 9, 3) := by decide +kernel
theorem dX8_tellLand_107 : decode cX8_tellLand 107 = .ok (.bipush 11, 2) := by decide +kernel
theorem dX8_tellLand_109 : decode cX8_tellLand 109 = .ok (.aload_n 1, 1) := by decide +kernel
theorem dX8_tellLand_110 : decode cX8_tellLand 110 = .ok (.getfield 68, 3) := by decide +kernel
theorem dX8_tellLand_113 : decode cX8_tellLand 113 = .ok (.i2l, 1) := by decide +kernel
theorem dX8_tellLand_114 : decode cX8_tellLand 114 = .ok (.lastore, 1) := by decide +kernel
theorem dX8_tellLand_115 : decode cX8_tellLand 115 = .ok (.return_, 1) := by decide +kernel
theorem dX8_tellOther_0 : decode cX8_tellOther 0 = .ok (.aload_n 0, 1) := by decide +kernel
theorem dX8_tellOther_1 : decode cX8_tellOther 1 = .ok (.getfield 9, 3) := by decide +kernel
theorem dX8_tellOther_4 : decode cX8_tellOther 4 = .ok (.iconst 1, 1) := by decide +kernel
theorem dX8_tellOther_5 : decode cX8_tellOther 5 = .ok (.iload_n 2, 1) := by decide +kernel
theorem dX8_tellOther_6 : decode cX8_tellOther 6 = .ok (.i2l, 1) := by decide +kernel
theorem dX8_tellOther_7 : decode cX8_tellOther 7 = .ok (.lastore, 1) := by decide +kernel
theorem dX8_tellOther_8 : decode cX8_tellOther 8 = .ok (.aload_n 0, 1) := by decide +kernel
theorem dX8_tellOther_9 : decode cX8_tellOther 9 = .ok (.getfield 9, 3) := by decide +kernel
theorem dX8_tellOther_12 : decode cX8_tellOther 12 = .ok (.bipush 6, 2) := by decide +kernel
theorem dX8_tellOther_14 : decode cX8_tellOther 14 = .ok (.aload_n 1, 1) := by decide +kernel
theorem dX8_tellOther_15 : decode cX8_tellOther 15 = .ok (.getfield 106, 3) := by decide +kernel
theorem dX8_tellOther_18 : decode cX8_tellOther 18 = .ok (.iload_n 2, 1) := by decide +kernel
theorem dX8_tellOther_19 : decode cX8_tellOther 19 = .ok (.iaload, 1) := by decide +kernel
theorem dX8_tellOther_20 : decode cX8_tellOther 20 = .ok (.i2l, 1) := by decide +kernel
theorem dX8_tellOther_21 : decode cX8_tellOther 21 = .ok (.lastore, 1) := by decide +kernel
theorem dX8_tellOther_22 : decode cX8_tellOther 22 = .ok (.aload_n 0, 1) := by decide +kernel
theorem dX8_tellOther_23 : decode cX8_tellOther 23 = .ok (.getfield 9, 3) := by decide +kernel
theorem dX8_tellOther_26 : decode cX8_tellOther 26 = .ok (.bipush 7, 2) := by decide +kernel
theorem dX8_tellOther_28 : decode cX8_tellOther 28 = .ok (.aload_n 1, 1) := by decide +kernel
theorem dX8_tellOther_29 : decode cX8_tellOther 29 = .ok (.getfield 92, 3) := by decide +kernel
theorem dX8_tellOther_32 : decode cX8_tellOther 32 = .ok (.iload_n 2, 1) := by decide +kernel
theorem dX8_tellOther_33 : decode cX8_tellOther 33 = .ok (.iaload, 1) := by decide +kernel
theorem dX8_tellOther_34 : decode cX8_tellOther 34 = .ok (.i2l, 1) := by decide +kernel
theorem dX8_tellOther_35 : decode cX8_tellOther 35 = .ok (.lastore, 1) := by decide +kernel
theorem dX8_tellOther_36 : decode cX8_tellOther 36 = .ok (.aload_n 0, 1) := by decide +kernel
theorem dX8_tellOther_37 : decode cX8_tellOther 37 = .ok (.getfield 9, 3) := by decide +kernel
theorem dX8_tellOther_40 : decode cX8_tellOther 40 = .ok (.bipush 8, 2) := by decide +kernel
theorem dX8_tellOther_42 : decode cX8_tellOther 42 = .ok (.aload_n 1, 1) := by decide +kernel
theorem dX8_tellOther_43 : decode cX8_tellOther 43 = .ok (.getfield 43, 3) := by decide +kernel
theorem dX8_tellOther_46 : decode cX8_tellOther 46 = .ok (.iload_n 2, 1) := by decide +kernel
theorem dX8_tellOther_47 : decode cX8_tellOther 47 = .ok (.iaload, 1) := by decide +kernel
theorem dX8_tellOther_48 : decode cX8_tellOther 48 = .ok (.i2l, 1) := by decide +kernel
theorem dX8_tellOther_49 : decode cX8_tellOther 49 = .ok (.lastore, 1) := by decide +kernel
theorem dX8_tellOther_50 : decode cX8_tellOther 50 = .ok (.return_, 1) := by decide +kernel
theorem dX8_has_0 : decode cX8_has 0 = .ok (.iload_n 0, 1) := by decide +kernel
theorem dX8_has_1 : decode cX8_has 1 = .ok (.iload_n 1, 1) := by decide +kernel
theorem dX8_has_2 : decode cX8_has 2 = .ok (.ishr, 1) := by decide +kernel
theorem dX8_has_3 : decode cX8_has 3 = .ok (.iconst 1, 1) := by decide +kernel
theorem dX8_has_4 : decode cX8_has 4 = .ok (.iand, 1) := by decide +kernel
theorem dX8_has_5 : decode cX8_has 5 = .ok (.ifCond .eq 7, 3) := by decide +kernel
theorem dX8_has_8 : decode cX8_has 8 = .ok (.iconst 1, 1) := by decide +kernel
theorem dX8_has_9 : decode cX8_has 9 = .ok (.goto 4, 3) := by decide +kernel
theorem dX8_has_12 : decode cX8_has 12 = .ok (.iconst 0, 1) := by decide +kernel
theorem dX8_has_13 : decode cX8_has 13 = .ok (.ireturn, 1) := by decide +kernel
theorem dX9_init_0 : decode cX9_init 0 = .ok (.aload_n 0, 1) := by decide +kernel
theorem dX9_init_1 : decode cX9_init 1 = .ok (.invokespecial 3, 3) := by decide +kernel
theorem dX9_init_4 : decode cX9_init 4 = .ok (.aload_n 0, 1) := by decide +kernel
theorem dX9_init_5 : decode cX9_init 5 = .ok (.new 9, 3) := by decide +kernel
theorem dX9_init_8 : decode cX9_init 8 = .ok (.dup, 1) := by decide +kernel
theorem dX9_init_9 : decode cX9_init 9 = .ok (.invokespecial 11, 3) := by decide +kernel
theorem dX9_init_12 : decode cX9_init 12 = .ok (.putfield 12, 3) := by decide +kernel
theorem dX9_init_15 : decode cX9_init 15 = .ok (.aload_n 0, 1) := by decide +kernel
theorem dX9_init_16 : decode cX9_init 16 = .ok (.new 18, 3) := by decide +kernel
theorem dX9_init_19 : decode cX9_init 19 = .ok (.dup, 1) := by decide +kernel
theorem dX9_init_20 : decode cX9_init 20 = .ok (.invokespecial 20, 3) := by decide +kernel
theorem dX9_init_23 : decode cX9_init 23 = .ok (.putfield 21, 3) := by decide +kernel
theorem dX9_init_26 : decode cX9_init 26 = .ok (.aload_n 0, 1) := by decide +kernel
theorem dX9_init_27 : decode cX9_init 27 = .ok (.new 25, 3) := by decide +kernel
theorem dX9_init_30 : decode cX9_init 30 = .ok (.dup, 1) := by decide +kernel
theorem dX9_init_31 : decode cX9_init 31 = .ok (.invokespecial 27, 3) := by decide +kernel
theorem dX9_init_34 : decode cX9_init 34 = .ok (.putfield 28, 3) := by decide +kernel
theorem dX9_init_37 : decode cX9_init 37 = .ok (.aload_n 0, 1) := by decide +kernel
theorem dX9_init_38 : decode cX9_init 38 = .ok (.bipush 10, 2) := by decide +kernel
theorem dX9_init_40 : decode cX9_init 40 = .ok (.newarray .int, 2) := by decide +kernel
theorem dX9_init_42 : decode cX9_init 42 = .ok (.putfield 32, 3) := by decide +kernel
theorem dX9_init_45 : decode cX9_init 45 = .ok (.aload_n 0, 1) := by decide +kernel
theorem dX9_init_46 : decode cX9_init 46 = .ok (.bipush 10, 2) := by decide +kernel
theorem dX9_init_48 : decode cX9_init 48 = .ok (.newarray .int, 2) := by decide +kernel
theorem dX9_init_50 : decode cX9_init 50 = .ok (.putfield 36, 3) := by decide +kernel
theorem dX9_init_53 : decode cX9_init 53 = .ok (.aload_n 0, 1) := by decide +kernel
theorem dX9_init_54 : decode cX9_init 54 = .ok (.bipush 10, 2) := by decide +kernel
theorem dX9_init_56 : decode cX9_init 56 = .ok (.newarray .int, 2) := by decide +kernel
theorem dX9_init_58 : decode cX9_init 58 = .ok (.putfield 39, 3) := by decide +kernel
theorem dX9_init_61 : decode cX9_init 61 = .ok (.aload_n 0, 1) := by decide +kernel
theorem dX9_init_62 : decode cX9_init 62 = .ok (.iconst (-1), 1) := by decide +kernel
theorem dX9_init_63 : decode cX9_init 63 = .ok (.putfield 42, 3) := by decide +kernel
theorem dX9_init_66 : decode cX9_init 66 = .ok (.return_, 1) := by decide +kernel
theorem dX9_begin_0 : decode cX9_begin 0 = .ok (.aload_n 0, 1) := by decide +kernel
theorem dX9_begin_1 : decode cX9_begin 1 = .ok (.getfield 12, 3) := by decide +kernel
theorem dX9_begin_4 : decode cX9_begin 4 = .ok (.aload_n 1, 1) := by decide +kernel
theorem dX9_begin_5 : decode cX9_begin 5 = .ok (.invokevirtual 46, 3) := by decide +kernel
theorem dX9_begin_8 : decode cX9_begin 8 = .ok (.aload_n 0, 1) := by decide +kernel
theorem dX9_begin_9 : decode cX9_begin 9 = .ok (.getfield 21, 3) := by decide +kernel
theorem dX9_begin_12 : decode cX9_begin 12 = .ok (.aload_n 1, 1) := by decide +kernel
theorem dX9_begin_13 : decode cX9_begin 13 = .ok (.invokevirtual 50, 3) := by decide +kernel
theorem dX9_begin_16 : decode cX9_begin 16 = .ok (.aload_n 0, 1) := by decide +kernel
theorem dX9_begin_17 : decode cX9_begin 17 = .ok (.getfield 28, 3) := by decide +kernel
theorem dX9_begin_20 : decode cX9_begin 20 = .ok (.iconst 0, 1) := by decide +kernel
theorem dX9_begin_21 : decode cX9_begin 21 = .ok (.putfield 53, 3) := by decide +kernel
theorem dX9_begin_24 : decode cX9_begin 24 = .ok (.aload_n 0, 1) := by decide +kernel
theorem dX9_begin_25 : decode cX9_begin 25 = .ok (.iconst 0, 1) := by decide +kernel
theorem dX9_begin_26 : decode cX9_begin 26 = .ok (.putfield 56, 3) := by decide +kernel
theorem dX9_begin_29 : decode cX9_begin 29 = .ok (.return_, 1) := by decide +kernel
theorem dX9_copyFrom_0 : decode cX9_copyFrom 0 = .ok (.aload_n 0, 1) := by decide +kernel
theorem dX9_copyFrom_1 : decode cX9_copyFrom 1 = .ok (.getfield 12, 3) := by decide +kernel
theorem dX9_copyFrom_4 : decode cX9_copyFrom 4 = .ok (.aload_n 1, 1) := by decide +kernel
theorem dX9_copyFrom_5 : decode cX9_copyFrom 5 = .ok (.getfield 12, 3) := by decide +kernel
theorem dX9_copyFrom_8 : decode cX9_copyFrom 8 = .ok (.invokevirtual 46, 3) := by decide +kernel
theorem dX9_copyFrom_11 : decode cX9_copyFrom 11 = .ok (.aload_n 0, 1) := by decide +kernel
theorem dX9_copyFrom_12 : decode cX9_copyFrom 12 = .ok (.getfield 21, 3) := by decide +kernel
theorem dX9_copyFrom_15 : decode cX9_copyFrom 15 = .ok (.aload_n 1, 1) := by decide +kernel
theorem dX9_copyFrom_16 : decode cX9_copyFrom 16 = .ok (.getfield 21, 3) := by decide +kernel
theorem dX9_copyFrom_19 : decode cX9_copyFrom 19 = .ok (.invokevirtual 59, 3) := by decide +kernel
theorem dX9_copyFrom_22 : decode cX9_copyFrom 22 = .ok (.aload_n 0, 1) := by decide +kernel
theorem dX9_copyFrom_23 : decode cX9_copyFrom 23 = .ok (.getfield 28, 3) := by decide +kernel
theorem dX9_copyFrom_26 : decode cX9_copyFrom 26 = .ok (.aload_n 1, 1) := by decide +kernel
theorem dX9_copyFrom_27 : decode cX9_copyFrom 27 = .ok (.getfield 28, 3) := by decide +kernel
theorem dX9_copyFrom_30 : decode cX9_copyFrom 30 = .ok (.invokevirtual 62, 3) := by decide +kernel
theorem dX9_copyFrom_33 : decode cX9_copyFrom 33 = .ok (.aload_n 1, 1) := by decide +kernel
theorem dX9_copyFrom_34 : decode cX9_copyFrom 34 = .ok (.getfield 32, 3) := by decide +kernel
theorem dX9_copyFrom_37 : decode cX9_copyFrom 37 = .ok (.aload_n 0, 1) := by decide +kernel
theorem dX9_copyFrom_38 : decode cX9_copyFrom 38 = .ok (.getfield 32, 3) := by decide +kernel
theorem dX9_copyFrom_41 : decode cX9_copyFrom 41 = .ok (.invokestatic 65, 3) := by decide +kernel
theorem dX9_copyFrom_44 : decode cX9_copyFrom 44 = .ok (.aload_n 1, 1) := by decide +kernel
theorem dX9_copyFrom_45 : decode cX9_copyFrom 45 = .ok (.getfield 36, 3) := by decide +kernel
theorem dX9_copyFrom_48 : decode cX9_copyFrom 48 = .ok (.aload_n 0, 1) := by decide +kernel
theorem dX9_copyFrom_49 : decode cX9_copyFrom 49 = .ok (.getfield 36, 3) := by decide +kernel
theorem dX9_copyFrom_52 : decode cX9_copyFrom 52 = .ok (.invokestatic 65, 3) := by decide +kernel
theorem dX9_copyFrom_55 : decode cX9_copyFrom 55 = .ok (.aload_n 1, 1) := by decide +kernel
theorem dX9_copyFrom_56 : decode cX9_copyFrom 56 = .ok (.getfield 39, 3) := by decide +kernel
theorem dX9_copyFrom_59 : decode cX9_copyFrom 59 = .ok (.aload_n 0, 1) := by decide +kernel
theorem dX9_copyFrom_60 : decode cX9_copyFrom 60 = .ok (.getfield 39, 3) := by decide +kernel
theorem dX9_copyFrom_63 : decode cX9_copyFrom 63 = .ok (.invokestatic 65, 3) := by decide +kernel
theorem dX9_copyFrom_66 : decode cX9_copyFrom 66 = .ok (.aload_n 0, 1) := by decide +kernel
theorem dX9_copyFrom_67 : decode cX9_copyFrom 67 = .ok (.aload_n 1, 1) := by decide +kernel
theorem dX9_copyFrom_68 : decode cX9_copyFrom 68 = .ok (.getfield 56, 3) := by decide +kernel
theorem dX9_copyFrom_71 : decode cX9_copyFrom 71 = .ok (.putfield 56, 3) := by decide +kernel
theorem dX9_copyFrom_74 : decode cX9_copyFrom 74 = .ok (.aload_n 0, 1) := by decide +kernel
theorem dX9_copyFrom_75 : decode cX9_copyFrom 75 = .ok (.aload_n 1, 1) := by decide +kernel
theorem dX9_copyFrom_76 : decode cX9_copyFrom 76 = .ok (.getfield 42, 3) := by decide +kernel
theorem dX9_copyFrom_79 : decode cX9_copyFrom 79 = .ok (.putfield 42, 3) := by decide +kernel
theorem dX9_copyFrom_82 : decode cX9_copyFrom 82 = .ok (.aload_n 0, 1) := by decide +kernel
theorem dX9_copyFrom_83 : decode cX9_copyFrom 83 = .ok (.aload_n 1, 1) := by decide +kernel
theorem dX9_copyFrom_84 : decode cX9_copyFrom 84 = .ok (.getfield 69, 3) := by decide +kernel
theorem dX9_copyFrom_87 : decode cX9_copyFrom 87 = .ok (.putfield 69, 3) := by decide +kernel
theorem dX9_copyFrom_90 : decode cX9_copyFrom 90 = .ok (.return_, 1) := by decide +kernel
theorem dX9_addNote_0 : decode cX9_addNote 0 = .ok (.aload_n 0, 1) := by decide +kernel
theorem dX9_addNote_1 : decode cX9_addNote 1 = .ok (.getfield 56, 3) := by decide +kernel
theorem dX9_addNote_4 : decode cX9_addNote 4 = .ok (.bipush 10, 2) := by decide +kernel
theorem dX9_addNote_6 : decode cX9_addNote 6 = .ok (.if_icmp .lt 5, 3) := by decide +kernel
theorem dX9_addNote_9 : decode cX9_addNote 9 = .ok (.iconst 0, 1) := by decide +kernel
theorem dX9_addNote_10 : decode cX9_addNote 10 = .ok (.ireturn, 1) := by decide +kernel
theorem dX9_addNote_11 : decode cX9_addNote 11 = .ok (.aload_n 0, 1) := by decide +kernel
theorem dX9_addNote_12 : decode cX9_addNote 12 = .ok (.getfield 32, 3) := by decide +kernel
theorem dX9_addNote_15 : decode cX9_addNote 15 = .ok (.aload_n 0, 1) := by decide +kernel
theorem dX9_addNote_16 : decode cX9_addNote 16 = .ok (.getfield 56, 3) := by decide +kernel
theorem dX9_addNote_19 : decode cX9_addNote 19 = .ok (.iload_n 1, 1) := by decide +kernel
theorem dX9_addNote_20 : decode cX9_addNote 20 = .ok (.iastore, 1) := by decide +kernel
theorem dX9_addNote_21 : decode cX9_addNote 21 = .ok (.aload_n 0, 1) := by decide +kernel
theorem dX9_addNote_22 : decode cX9_addNote 22 = .ok (.getfield 36, 3) := by decide +kernel
theorem dX9_addNote_25 : decode cX9_addNote 25 = .ok (.aload_n 0, 1) := by decide +kernel
theorem dX9_addNote_26 : decode cX9_addNote 26 = .ok (.getfield 56, 3) := by decide +kernel
theorem dX9_addNote_29 : decode cX9_addNote 29 = .ok (.iload_n 2, 1) := by decide +kernel
theorem dX9_addNote_30 : decode cX9_addNote 30 = .ok (.iastore, 1) := by decide +kernel
theorem dX9_addNote_31 : decode cX9_addNote 31 = .ok (.aload_n 0, 1) := by decide +kernel
theorem dX9_addNote_32 : decode cX9_addNote 32 = .ok (.getfield 39, 3) := by decide +kernel
theorem dX9_addNote_35 : decode cX9_addNote 35 = .ok (.aload_n 0, 1) := by decide +kernel
theorem dX9_addNote_36 : decode cX9_addNote 36 = .ok (.getfield 56, 3) := by decide +kernel
theorem dX9_addNote_39 : decode cX9_addNote 39 = .ok (.iload_n 3, 1) := by decide +kernel
theorem dX9_addNote_40 : decode cX9_addNote 40 = .ok (.iastore, 1) := by decide +kernel
theorem dX9_addNote_41 : decode cX9_addNote 41 = .ok (.aload_n 0, 1) := by decide +kernel
theorem dX9_addNote_42 : decode cX9_addNote 42 = .ok (.dup, 1) := by decide +kernel
theorem dX9_addNote_43 : decode cX9_addNote 43 = .ok (.getfield 56, 3) := by decide +kernel
theorem dX9_addNote_46 : decode cX9_addNote 46 = .ok (.iconst 1, 1) := by decide +kernel
theorem dX9_addNote_47 : decode cX9_addNote 47 = .ok (.iadd, 1) := by decide +kernel
theorem dX9_addNote_48 : decode cX9_addNote 48 = .ok (.putfield 56, 3) := by decide +kernel
theorem dX9_addNote_51 : decode cX9_addNote 51 = .ok (.iconst 1, 1) := by decide +kernel
theorem dX9_addNote_52 : decode cX9_addNote 52 = .ok (.ireturn, 1) := by decide +kernel
theorem dX9_lastNote_0 : decode cX9_lastNote 0 = .ok (.iconst (-1), 1) := by decide +kernel
theorem dX9_lastNote_1 : decode cX9_lastNote 1 = .ok (.istore_n 1, 1) := by decide +kernel
theorem dX9_lastNote_2 : decode cX9_lastNote 2 = .ok (.iconst 0, 1) := by decide +kernel
theorem dX9_lastNote_3 : decode cX9_lastNote 3 = .ok (.istore_n 2, 1) := by decide +kernel
theorem dX9_lastNote_4 : decode cX9_lastNote 4 = .ok (.iload_n 2, 1) := by decide +kernel
theorem dX9_lastNote_5 : decode cX9_lastNote 5 = .ok (.aload_n 0, 1) := by decide +kernel
theorem dX9_lastNote_6 : decode cX9_lastNote 6 = .ok (.getfield 56, 3) := by decide +kernel
theorem dX9_lastNote_9 : decode cX9_lastNote 9 = .ok (.if_icmp .ge 20, 3) := by decide +kernel
theorem dX9_lastNote_12 : decode cX9_lastNote 12 = .ok (.iload_n 1, 1) := by decide +kernel
theorem dX9_lastNote_13 : decode cX9_lastNote 13 = .ok (.aload_n 0, 1) := by decide +kernel
theorem dX9_lastNote_14 : decode cX9_lastNote 14 = .ok (.getfield 32, 3) := by decide +kernel
theorem dX9_lastNote_17 : decode cX9_lastNote 17 = .ok (.iload_n 2, 1) := by decide +kernel
theorem dX9_lastNote_18 : decode cX9_lastNote 18 = .ok (.iaload, 1) := by decide +kernel
theorem dX9_lastNote_19 : decode cX9_lastNote 19 = .ok (.invokestatic 72, 3) := by decide +kernel
theorem dX9_lastNote_22 : decode cX9_lastNote 22 = .ok (.istore_n 1, 1) := by decide +kernel
theorem dX9_lastNote_23 : decode cX9_lastNote 23 = .ok (.iinc 2 1, 3) := by decide +kernel
theorem dX9_lastNote_26 : decode cX9_lastNote 26 = .ok (.goto (-22), 3) := by decide +kernel
theorem dX9_lastNote_29 : decode cX9_lastNote 29 = .ok (.iload_n 1, 1) := by decide +kernel
theorem dX9_lastNote_30 : decode cX9_lastNote 30 = .ok (.ireturn, 1) := by decide +kernel
theorem dX9_notesHold_0 : decode cX9_notesHold 0 = .ok (.iconst 0, 1) := by decide +kernel
theorem dX9_notesHold_1 : decode cX9_notesHold 1 = .ok (.istore_n 3, 1) := by decide +kernel
theorem dX9_notesHold_2 : decode cX9_notesHold 2 = .ok (.iload_n 3, 1) := by decide +kernel
theorem dX9_notesHold_3 : decode cX9_notesHold 3 = .ok (.aload_n 0, 1) := by decide +kernel
theorem dX9_notesHold_4 : decode cX9_notesHold 4 = .ok (.getfield 56, 3) := by decide +kernel
theorem dX9_notesHold_7 : decode cX9_notesHold 7 = .ok (.if_icmp .ge 38, 3) := by decide +kernel
theorem dX9_notesHold_10 : decode cX9_notesHold 10 = .ok (.aload_n 0, 1) := by decide +kernel
theorem dX9_notesHold_11 : decode cX9_notesHold 11 = .ok (.getfield 32, 3) := by decide +kernel
theorem dX9_notesHold_14 : decode cX9_notesHold 14 = .ok (.iload_n 3, 1) := by decide +kernel
theorem dX9_notesHold_15 : decode cX9_notesHold 15 = .ok (.iaload, 1) := by decide +kernel
theorem dX9_notesHold_16 : decode cX9_notesHold 16 = .ok (.iload_n 1, 1) := by decide +kernel
theorem dX9_notesHold_17 : decode cX9_notesHold 17 = .ok (.if_icmp .ne 22, 3) := by decide +kernel
theorem dX9_notesHold_20 : decode cX9_notesHold 20 = .ok (.aload_n 2, 1) := by decide +kernel
theorem dX9_notesHold_21 : decode cX9_notesHold 21 = .ok (.aload_n 0, 1) := by decide +kernel
theorem dX9_notesHold_22 : decode cX9_notesHold 22 = .ok (.getfield 36, 3) := by decide +kernel
theorem dX9_notesHold_25 : decode cX9_notesHold 25 = .ok (.iload_n 3, 1) := by decide +kernel
theorem dX9_notesHold_26 : decode cX9_notesHold 26 = .ok (.iaload, 1) := by decide +kernel
theorem dX9_notesHold_27 : decode cX9_notesHold 27 = .ok (.iaload, 1) := by decide +kernel
theorem dX9_notesHold_28 : decode cX9_notesHold 28 = .ok (.aload_n 0, 1) := by decide +kernel
theorem dX9_notesHold_29 : decode cX9_notesHold 29 = .ok (.getfield 39, 3) := by decide +kernel
theorem dX9_notesHold_32 : decode cX9_notesHold 32 = .ok (.iload_n 3, 1) := by decide +kernel
theorem dX9_notesHold_33 : decode cX9_notesHold 33 = .ok (.iaload, 1) := by decide +kernel
theorem dX9_notesHold_34 : decode cX9_notesHold 34 = .ok (.if_icmp .eq 5, 3) := by decide +kernel
theorem dX9_notesHold_37 : decode cX9_notesHold 37 = .ok (.iconst 0, 1) := by decide +kernel
theorem dX9_notesHold_38 : decode cX9_notesHold 38 = .ok (.ireturn, 1) := by decide +kernel
theorem dX9_notesHold_39 : decode cX9_notesHold 39 = .ok (.iinc 3 1, 3) := by decide +kernel
theorem dX9_notesHold_42 : decode cX9_notesHold 42 = .ok (.goto (-40), 3) := by decide +kernel
theorem dX9_notesHold_45 : decode cX9_notesHold 45 = .ok (.iconst 1, 1) := by decide +kernel
theorem dX9_notesHold_46 : decode cX9_notesHold 46 = .ok (.ireturn, 1) := by decide +kernel
theorem dX10_init_0 : decode cX10_init 0 = .ok (.aload_n 0, 1) := by decide +kernel
theorem dX10_init_1 : decode cX10_init 1 = .ok (.invokespecial 3, 3) := by decide +kernel
theorem dX10_init_4 : decode cX10_init 4 = .ok (.aload_n 0, 1) := by decide +kernel
theorem dX10_init_5 : decode cX10_init 5 = .ok (.new 9, 3) := by decide +kernel
theorem dX10_init_8 : decode cX10_init 8 = .ok (.dup, 1) := by decide +kernel
theorem dX10_init_9 : decode cX10_init 9 = .ok (.invokespecial 11, 3) := by decide +kernel
theorem dX10_init_12 : decode cX10_init 12 = .ok (.putfield 12, 3) := by decide +kernel
theorem dX10_init_15 : decode cX10_init 15 = .ok (.aload_n 0, 1) := by decide +kernel
theorem dX10_init_16 : decode cX10_init 16 = .ok (.new 16, 3) := by decide +kernel
theorem dX10_init_19 : decode cX10_init 19 = .ok (.dup, 1) := by decide +kernel
theorem dX10_init_20 : decode cX10_init 20 = .ok (.aload_n 0, 1) := by decide +kernel
theorem dX10_init_21 : decode cX10_init 21 = .ok (.getfield 12, 3) := by decide +kernel
theorem dX10_init_24 : decode cX10_init 24 = .ok (.invokespecial 18, 3) := by decide +kernel
theorem dX10_init_27 : decode cX10_init 27 = .ok (.putfield 21, 3) := by decide +kernel
theorem dX10_init_30 : decode cX10_init 30 = .ok (.aload_n 0, 1) := by decide +kernel
theorem dX10_init_31 : decode cX10_init 31 = .ok (.new 25, 3) := by decide +kernel
theorem dX10_init_34 : decode cX10_init 34 = .ok (.dup, 1) := by decide +kernel
theorem dX10_init_35 : decode cX10_init 35 = .ok (.aload_n 0, 1) := by decide +kernel
theorem dX10_init_36 : decode cX10_init 36 = .ok (.getfield 12, 3) := by decide +kernel
theorem dX10_init_39 : decode cX10_init 39 = .ok (.invokespecial 27, 3) := by decide +kernel
theorem dX10_init_42 : decode cX10_init 42 = .ok (.putfield 28, 3) := by decide +kernel
theorem dX10_init_45 : decode cX10_init 45 = .ok (.aload_n 0, 1) := by decide +kernel
theorem dX10_init_46 : decode cX10_init 46 = .ok (.new 32, 3) := by decide +kernel
theorem dX10_init_49 : decode cX10_init 49 = .ok (.dup, 1) := by decide +kernel
theorem dX10_init_50 : decode cX10_init 50 = .ok (.invokespecial 34, 3) := by decide +kernel
theorem dX10_init_53 : decode cX10_init 53 = .ok (.putfield 35, 3) := by decide +kernel
theorem dX10_init_56 : decode cX10_init 56 = .ok (.aload_n 0, 1) := by decide +kernel
theorem dX10_init_57 : decode cX10_init 57 = .ok (.bipush 6, 2) := by decide +kernel
theorem dX10_init_59 : decode cX10_init 59 = .ok (.anewarray 39, 3) := by decide +kernel
theorem dX10_init_62 : decode cX10_init 62 = .ok (.putfield 41, 3) := by decide +kernel
theorem dX10_init_65 : decode cX10_init 65 = .ok (.iconst 0, 1) := by decide +kernel
theorem dX10_init_66 : decode cX10_init 66 = .ok (.istore_n 1, 1) := by decide +kernel
theorem dX10_init_67 : decode cX10_init 67 = .ok (.iload_n 1, 1) := by decide +kernel
theorem dX10_init_68 : decode cX10_init 68 = .ok (.bipush 6, 2) := by decide +kernel
theorem dX10_init_70 : decode cX10_init 70 = .ok (.if_icmp .ge 22, 3) := by decide +kernel
theorem dX10_init_73 : decode cX10_init 73 = .ok (.aload_n 0, 1) := by decide +kernel
theorem dX10_init_74 : decode cX10_init 74 = .ok (.getfield 41, 3) := by decide +kernel
theorem dX10_init_77 : decode cX10_init 77 = .ok (.iload_n 1, 1) := by decide +kernel
theorem dX10_init_78 : decode cX10_init 78 = .ok (.new 39, 3) := by decide +kernel
theorem dX10_init_81 : decode cX10_init 81 = .ok (.dup, 1) := by decide +kernel
theorem dX10_init_82 : decode cX10_init 82 = .ok (.invokespecial 45, 3) := by decide +kernel
theorem dX10_init_85 : decode cX10_init 85 = .ok (.aastore, 1) := by decide +kernel
theorem dX10_init_86 : decode cX10_init 86 = .ok (.iinc 1 1, 3) := by decide +kernel
theorem dX10_init_89 : decode cX10_init 89 = .ok (.goto (-22), 3) := by decide +kernel
theorem dX10_init_92 : decode cX10_init 92 = .ok (.aload_n 0, 1) := by decide +kernel
theorem dX10_init_93 : decode cX10_init 93 = .ok (.new 46, 3) := by decide +kernel
theorem dX10_init_96 : decode cX10_init 96 = .ok (.dup, 1) := by decide +kernel
theorem dX10_init_97 : decode cX10_init 97 = .ok (.invokespecial 48, 3) := by decide +kernel
theorem dX10_init_100 : decode cX10_init 100 = .ok (.putfield 49, 3) := by decide +kernel
theorem dX10_init_103 : decode cX10_init 103 = .ok (.aload_n 0, 1) := by decide +kernel
theorem dX10_init_104 : decode cX10_init 104 = .ok (.iconst 4, 1) := by decide +kernel
theorem dX10_init_105 : decode cX10_init 105 = .ok (.anewarray 46, 3) := by decide +kernel
theorem dX10_init_108 : decode cX10_init 108 = .ok (.putfield 53, 3) := by decide +kernel
theorem dX10_init_111 : decode cX10_init 111 = .ok (.iconst 0, 1) := by decide +kernel
theorem dX10_init_112 : decode cX10_init 112 = .ok (.istore_n 1, 1) := by decide +kernel
theorem dX10_init_113 : decode cX10_init 113 = .ok (.iload_n 1, 1) := by decide +kernel
theorem dX10_init_114 : decode cX10_init 114 = .ok (.iconst 4, 1) := by decide +kernel
theorem dX10_init_115 : decode cX10_init 115 = .ok (.if_icmp .ge 22, 3) := by decide +kernel
theorem dX10_init_118 : decode cX10_init 118 = .ok (.aload_n 0, 1) := by decide +kernel
theorem dX10_init_119 : decode cX10_init 119 = .ok (.getfield 53, 3) := by decide +kernel
theorem dX10_init_122 : decode cX10_init 122 = .ok (.iload_n 1, 1) := by decide +kernel
theorem dX10_init_123 : decode cX10_init 123 = .ok (.new 46, 3) := by decide +kernel
theorem dX10_init_126 : decode cX10_init 126 = .ok (.dup, 1) := by decide +kernel
theorem dX10_init_127 : decode cX10_init 127 = .ok (.invokespecial 48, 3) := by decide +kernel
theorem dX10_init_130 : decode cX10_init 130 = .ok (.aastore, 1) := by decide +kernel
theorem dX10_init_131 : decode cX10_init 131 = .ok (.iinc 1 1, 3) := by decide +kernel
theorem dX10_init_134 : decode cX10_init 134 = .ok (.goto (-21), 3) := by decide +kernel
theorem dX10_init_137 : decode cX10_init 137 = .ok (.aload_n 0, 1) := by decide +kernel
theorem dX10_init_138 : decode cX10_init 138 = .ok (.iconst 4, 1) := by decide +kernel
theorem dX10_init_139 : decode cX10_init 139 = .ok (.newarray .boolean, 2) := by decide +kernel
theorem dX10_init_141 : decode cX10_init 141 = .ok (.putfield 57, 3) := by decide +kernel
theorem dX10_init_144 : decode cX10_init 144 = .ok (.aload_n 0, 1) := by decide +kernel
theorem dX10_init_145 : decode cX10_init 145 = .ok (.new 61, 3) := by decide +kernel
theorem dX10_init_148 : decode cX10_init 148 = .ok (.dup, 1) := by decide +kernel
theorem dX10_init_149 : decode cX10_init 149 = .ok (.invokespecial 63, 3) := by decide +kernel
theorem dX10_init_152 : decode cX10_init 152 = .ok (.putfield 64, 3) := by decide +kernel
theorem dX10_init_155 : decode cX10_init 155 = .ok (.aload_n 0, 1) := by decide +kernel
theorem dX10_init_156 : decode cX10_init 156 = .ok (.new 68, 3) := by decide +kernel
theorem dX10_init_159 : decode cX10_init 159 = .ok (.dup, 1) := by decide +kernel
theorem dX10_init_160 : decode cX10_init 160 = .ok (.aload_n 0, 1) := by decide +kernel
theorem dX10_init_161 : decode cX10_init 161 = .ok (.getfield 49, 3) := by decide +kernel
theorem dX10_init_164 : decode cX10_init 164 = .ok (.aload_n 0, 1) := by decide +kernel
theorem dX10_init_165 : decode cX10_init 165 = .ok (.getfield 41, 3) := by decide +kernel
theorem dX10_init_168 : decode cX10_init 168 = .ok (.invokespecial 70, 3) := by decide +kernel
theorem dX10_init_171 : decode cX10_init 171 = .ok (.putfield 73, 3) := by decide +kernel
theorem dX10_init_174 : decode cX10_init 174 = .ok (.return_, 1) := by decide +kernel
theorem dX10_feed_0 : decode cX10_feed 0 = .ok (.aload_n 0, 1) := by decide +kernel
theorem dX10_feed_1 : decode cX10_feed 1 = .ok (.getfield 12, 3) := by decide +kernel
theorem dX10_feed_4 : decode cX10_feed 4 = .ok (.getfield 77, 3) := by decide +kernel
theorem dX10_feed_7 : decode cX10_feed 7 = .ok (.bipush 20, 2) := by decide +kernel
theorem dX10_feed_9 : decode cX10_feed 9 = .ok (.iadd, 1) := by decide +kernel
theorem dX10_feed_10 : decode cX10_feed 10 = .ok (.sipush 400, 3) := by decide +kernel
theorem dX10_feed_13 : decode cX10_feed 13 = .ok (.if_icmp .le 5, 3) := by decide +kernel
theorem dX10_feed_16 : decode cX10_feed 16 = .ok (.iconst (-1), 1) := by decide +kernel
theorem dX10_feed_17 : decode cX10_feed 17 = .ok (.ireturn, 1) := by decide +kernel
theorem dX10_feed_18 : decode cX10_feed 18 = .ok (.aload_n 0, 1) := by decide +kernel
theorem dX10_feed_19 : decode cX10_feed 19 = .ok (.getfield 12, 3) := by decide +kernel
theorem dX10_feed_22 : decode cX10_feed 22 = .ok (.iload_n 1, 1) := by decide +kernel
theorem dX10_feed_23 : decode cX10_feed 23 = .ok (.invokevirtual 81, 3) := by decide +kernel
theorem dX10_feed_26 : decode cX10_feed 26 = .ok (.aload_n 0, 1) := by decide +kernel
theorem dX10_feed_27 : decode cX10_feed 27 = .ok (.getfield 12, 3) := by decide +kernel
theorem dX10_feed_30 : decode cX10_feed 30 = .ok (.iload_n 2, 1) := by decide +kernel
theorem dX10_feed_31 : decode cX10_feed 31 = .ok (.invokevirtual 81, 3) := by decide +kernel
theorem dX10_feed_34 : decode cX10_feed 34 = .ok (.aload_n 0, 1) := by decide +kernel
theorem dX10_feed_35 : decode cX10_feed 35 = .ok (.getfield 12, 3) := by decide +kernel
theorem dX10_feed_38 : decode cX10_feed 38 = .ok (.iload_n 3, 1) := by decide +kernel
theorem dX10_feed_39 : decode cX10_feed 39 = .ok (.invokevirtual 81, 3) := by decide +kernel
theorem dX10_feed_42 : decode cX10_feed 42 = .ok (.aload_n 0, 1) := by decide +kernel
theorem dX10_feed_43 : decode cX10_feed 43 = .ok (.getfield 12, 3) := by decide +kernel
theorem dX10_feed_46 : decode cX10_feed 46 = .ok (.iload 4, 2) := by decide +kernel
theorem dX10_feed_48 : decode cX10_feed 48 = .ok (.invokevirtual 81, 3) := by decide +kernel
theorem dX10_feed_51 : decode cX10_feed 51 = .ok (.aload_n 0, 1) := by decide +kernel
theorem dX10_feed_52 : decode cX10_feed 52 = .ok (.getfield 12, 3) := by decide +kernel
theorem dX10_feed_55 : decode cX10_feed 55 = .ok (.iload 5, 2) := by decide +kernel
theorem dX10_feed_57 : decode cX10_feed 57 = .ok (.invokevirtual 81, 3) := by decide +kernel
theorem dX10_feed_60 : decode cX10_feed 60 = .ok (.aload_n 0, 1) := by decide +kernel
theorem dX10_feed_61 : decode cX10_feed 61 = .ok (.getfield 12, 3) := by decide +kernel
theorem dX10_feed_64 : decode cX10_feed 64 = .ok (.getfield 77, 3) := by decide +kernel
theorem dX10_feed_67 : decode cX10_feed 67 = .ok (.ireturn, 1) := by decide +kernel
theorem dX10_end_0 : decode cX10_end 0 = .ok (.iload_n 1, 1) := by decide +kernel
theorem dX10_end_1 : decode cX10_end 1 = .ok (.iconst 0, 1) := by decide +kernel
theorem dX10_end_2 : decode cX10_end 2 = .ok (.aload_n 0, 1) := by decide +kernel
theorem dX10_end_3 : decode cX10_end 3 = .ok (.getfield 12, 3) := by decide +kernel
theorem dX10_end_6 : decode cX10_end 6 = .ok (.getfield 77, 3) := by decide +kernel
theorem dX10_end_9 : decode cX10_end 9 = .ok (.invokestatic 85, 3) := by decide +kernel
theorem dX10_end_12 : decode cX10_end 12 = .ok (.ifCond .ne 5, 3) := by decide +kernel
theorem dX10_end_15 : decode cX10_end 15 = .ok (.iconst (-1), 1) := by decide +kernel
theorem dX10_end_16 : decode cX10_end 16 = .ok (.ireturn, 1) := by decide +kernel
theorem dX10_end_17 : decode cX10_end 17 = .ok (.aload_n 0, 1) := by decide +kernel
theorem dX10_end_18 : decode cX10_end 18 = .ok (.getfield 12, 3) := by decide +kernel
theorem dX10_end_21 : decode cX10_end 21 = .ok (.iload_n 1, 1) := by decide +kernel
theorem dX10_end_22 : decode cX10_end 22 = .ok (.putfield 77, 3) := by decide +kernel
theorem dX10_end_25 : decode cX10_end 25 = .ok (.iload_n 1, 1) := by decide +kernel
theorem dX10_end_26 : decode cX10_end 26 = .ok (.ireturn, 1) := by decide +kernel
theorem dX10_table_0 : decode cX10_table 0 = .ok (.aload_n 0, 1) := by decide +kernel
theorem dX10_table_1 : decode cX10_table 1 = .ok (.getfield 12, 3) := by decide +kernel
theorem dX10_table_4 : decode cX10_table 4 = .ok (.invokevirtual 89, 3) := by decide +kernel
theorem dX10_table_7 : decode cX10_table 7 = .ok (.aload_n 0, 1) := by decide +kernel
theorem dX10_table_8 : decode cX10_table 8 = .ok (.getfield 12, 3) := by decide +kernel
theorem dX10_table_11 : decode cX10_table 11 = .ok (.iconst 0, 1) := by decide +kernel
theorem dX10_table_12 : decode cX10_table 12 = .ok (.putfield 77, 3) := by decide +kernel
theorem dX10_table_15 : decode cX10_table 15 = .ok (.aload_n 0, 1) := by decide +kernel
theorem dX10_table_16 : decode cX10_table 16 = .ok (.getfield 21, 3) := by decide +kernel
theorem dX10_table_19 : decode cX10_table 19 = .ok (.aload_n 0, 1) := by decide +kernel
theorem dX10_table_20 : decode cX10_table 20 = .ok (.getfield 35, 3) := by decide +kernel
theorem dX10_table_23 : decode cX10_table 23 = .ok (.invokevirtual 92, 3) := by decide +kernel
theorem dX10_table_26 : decode cX10_table 26 = .ok (.istore_n 1, 1) := by decide +kernel
theorem dX10_table_27 : decode cX10_table 27 = .ok (.iload_n 1, 1) := by decide +kernel
theorem dX10_table_28 : decode cX10_table 28 = .ok (.ifCond .eq 8, 3) := by decide +kernel
theorem dX10_table_31 : decode cX10_table 31 = .ok (.bipush (-2), 2) := by decide +kernel
theorem dX10_table_33 : decode cX10_table 33 = .ok (.iload_n 1, 1) := by decide +kernel
theorem dX10_table_34 : decode cX10_table 34 = .ok (.isub, 1) := by decide +kernel
theorem dX10_table_35 : decode cX10_table 35 = .ok (.ireturn, 1) := by decide +kernel
theorem dX10_table_36 : decode cX10_table 36 = .ok (.aload_n 0, 1) := by decide +kernel
theorem dX10_table_37 : decode cX10_table 37 = .ok (.getfield 35, 3) := by decide +kernel
theorem dX10_table_40 : decode cX10_table 40 = .ok (.invokevirtual 96, 3) := by decide +kernel
theorem dX10_table_43 : decode cX10_table 43 = .ok (.aload_n 0, 1) := by decide +kernel
theorem dX10_table_44 : decode cX10_table 44 = .ok (.getfield 49, 3) := by decide +kernel
theorem dX10_table_47 : decode cX10_table 47 = .ok (.aload_n 0, 1) := by decide +kernel
theorem dX10_table_48 : decode cX10_table 48 = .ok (.getfield 35, 3) := by decide +kernel
theorem dX10_table_51 : decode cX10_table 51 = .ok (.invokevirtual 99, 3) := by decide +kernel
theorem dX10_table_54 : decode cX10_table 54 = .ok (.aload_n 0, 1) := by decide +kernel
theorem dX10_table_55 : decode cX10_table 55 = .ok (.getfield 49, 3) := by decide +kernel
theorem dX10_table_58 : decode cX10_table 58 = .ok (.getfield 103, 3) := by decide +kernel
theorem dX10_table_61 : decode cX10_table 61 = .ok (.getfield 106, 3) := by decide +kernel
theorem dX10_table_64 : decode cX10_table 64 = .ok (.ireturn, 1) := by decide +kernel
theorem dX10_rule_0 : decode cX10_rule 0 = .ok (.aload_n 0, 1) := by decide +kernel
theorem dX10_rule_1 : decode cX10_rule 1 = .ok (.getfield 109, 3) := by decide +kernel
theorem dX10_rule_4 : decode cX10_rule 4 = .ok (.bipush 6, 2) := by decide +kernel
theorem dX10_rule_6 : decode cX10_rule 6 = .ok (.if_icmp .lt 5, 3) := by decide +kernel
theorem dX10_rule_9 : decode cX10_rule 9 = .ok (.iconst (-1), 1) := by decide +kernel
theorem dX10_rule_10 : decode cX10_rule 10 = .ok (.ireturn, 1) := by decide +kernel
theorem dX10_rule_11 : decode cX10_rule 11 = .ok (.aload_n 0, 1) := by decide +kernel
theorem dX10_rule_12 : decode cX10_rule 12 = .ok (.getfield 12, 3) := by decide +kernel
theorem dX10_rule_15 : decode cX10_rule 15 = .ok (.invokevirtual 89, 3) := by decide +kernel
theorem dX10_rule_18 : decode cX10_rule 18 = .ok (.aload_n 0, 1) := by decide +kernel
theorem dX10_rule_19 : decode cX10_rule 19 = .ok (.getfield 12, 3) := by decide +kernel
theorem dX10_rule_22 : decode cX10_rule 22 = .ok (.iconst 0, 1) := by decide +kernel
theorem dX10_rule_23 : decode cX10_rule 23 = .ok (.putfield 77, 3) := by decide +kernel
theorem dX10_rule_26 : decode cX10_rule 26 = .ok (.aload_n 0, 1) := by decide +kernel
theorem dX10_rule_27 : decode cX10_rule 27 = .ok (.getfield 28, 3) := by decide +kernel
theorem dX10_rule_30 : decode cX10_rule 30 = .ok (.aload_n 0, 1) := by decide +kernel
theorem dX10_rule_31 : decode cX10_rule 31 = .ok (.getfield 41, 3) := by decide +kernel
theorem dX10_rule_34 : decode cX10_rule 34 = .ok (.aload_n 0, 1) := by decide +kernel
theorem dX10_rule_35 : decode cX10_rule 35 = .ok (.getfield 109, 3) := by decide +kernel
theorem dX10_rule_38 : decode cX10_rule 38 = .ok (.aaload, 1) := by decide +kernel
theorem dX10_rule_39 : decode cX10_rule 39 = .ok (.invokevirtual 112, 3) := by decide +kernel
theorem dX10_rule_42 : decode cX10_rule 42 = .ok (.istore_n 1, 1) := by decide +kernel
theorem dX10_rule_43 : decode cX10_rule 43 = .ok (.iload_n 1, 1) := by decide +kernel
theorem dX10_rule_44 : decode cX10_rule 44 = .ok (.ifCond .eq 8, 3) := by decide +kernel
theorem dX10_rule_47 : decode cX10_rule 47 = .ok (.bipush (-2), 2) := by decide +kernel
theorem dX10_rule_49 : decode cX10_rule 49 = .ok (.iload_n 1, 1) := by decide +kernel
theorem dX10_rule_50 : decode cX10_rule 50 = .ok (.isub, 1) := by decide +kernel
theorem dX10_rule_51 : decode cX10_rule 51 = .ok (.ireturn, 1) := by decide +kernel
theorem dX10_rule_52 : decode cX10_rule 52 = .ok (.aload_n 0, 1) := by decide +kernel
theorem dX10_rule_53 : decode cX10_rule 53 = .ok (.dup, 1) := by decide +kernel
theorem dX10_rule_54 : decode cX10_rule 54 = .ok (.getfield 109, 3) := by decide +kernel
theorem dX10_rule_57 : decode cX10_rule 57 = .ok (.iconst 1, 1) := by decide +kernel
theorem dX10_rule_58 : decode cX10_rule 58 = .ok (.iadd, 1) := by decide +kernel
theorem dX10_rule_59 : decode cX10_rule 59 = .ok (.putfield 109, 3) := by decide +kernel
theorem dX10_rule_62 : decode cX10_rule 62 = .ok (.aload_n 0, 1) := by decide +kernel
theorem dX10_rule_63 : decode cX10_rule 63 = .ok (.getfield 109, 3) := by decide +kernel
theorem dX10_rule_66 : decode cX10_rule 66 = .ok (.iconst 1, 1) := by decide +kernel
theorem dX10_rule_67 : decode cX10_rule 67 = .ok (.isub, 1) := by decide +kernel
theorem dX10_rule_68 : decode cX10_rule 68 = .ok (.ireturn, 1) := by decide +kernel
theorem dX10_force_0 : decode cX10_force 0 = .ok (.iload_n 1, 1) := by decide +kernel
theorem dX10_force_1 : decode cX10_force 1 = .ok (.iconst (-1), 1) := by decide +kernel
theorem dX10_force_2 : decode cX10_force 2 = .ok (.aload_n 0, 1) := by decide +kernel
theorem dX10_force_3 : decode cX10_force 3 = .ok (.getfield 109, 3) := by decide +kernel
theorem dX10_force_6 : decode cX10_force 6 = .ok (.iconst 1, 1) := by decide +kernel
theorem dX10_force_7 : decode cX10_force 7 = .ok (.isub, 1) := by decide +kernel
theorem dX10_force_8 : decode cX10_force 8 = .ok (.invokestatic 85, 3) := by decide +kernel
theorem dX10_force_11 : decode cX10_force 11 = .ok (.ifCond .ne 6, 3) := by decide +kernel
theorem dX10_force_14 : decode cX10_force 14 = .ok (.bipush (-2), 2) := by decide +kernel
theorem dX10_force_16 : decode cX10_force 16 = .ok (.ireturn, 1) := by decide +kernel
theorem dX10_force_17 : decode cX10_force 17 = .ok (.aload_n 0, 1) := by decide +kernel
theorem dX10_force_18 : decode cX10_force 18 = .ok (.getfield 49, 3) := by decide +kernel
theorem dX10_force_21 : decode cX10_force 21 = .ok (.getfield 115, 3) := by decide +kernel
theorem dX10_force_24 : decode cX10_force 24 = .ok (.istore_n 2, 1) := by decide +kernel
theorem dX10_force_25 : decode cX10_force 25 = .ok (.aload_n 0, 1) := by decide +kernel
theorem dX10_force_26 : decode cX10_force 26 = .ok (.getfield 49, 3) := by decide +kernel
theorem dX10_force_29 : decode cX10_force 29 = .ok (.iload_n 1, 1) := by decide +kernel
theorem dX10_force_30 : decode cX10_force 30 = .ok (.putfield 115, 3) := by decide +kernel
theorem dX10_force_33 : decode cX10_force 33 = .ok (.iload_n 2, 1) := by decide +kernel
theorem dX10_force_34 : decode cX10_force 34 = .ok (.ireturn, 1) := by decide +kernel
theorem dX10_land_0 : decode cX10_land 0 = .ok (.aload_n 0, 1) := by decide +kernel
theorem dX10_land_1 : decode cX10_land 1 = .ok (.iload_n 1, 1) := by decide +kernel
theorem dX10_land_2 : decode cX10_land 2 = .ok (.invokevirtual 118, 3) := by decide +kernel
theorem dX10_land_5 : decode cX10_land 5 = .ok (.ifCond .ne 6, 3) := by decide +kernel
theorem dX10_land_8 : decode cX10_land 8 = .ok (.bipush (-2), 2) := by decide +kernel
theorem dX10_land_10 : decode cX10_land 10 = .ok (.ireturn, 1) := by decide +kernel
theorem dX10_land_11 : decode cX10_land 11 = .ok (.iload_n 2, 1) := by decide +kernel
theorem dX10_land_12 : decode cX10_land 12 = .ok (.tableswitch 117 0 5 #[40, 53, 66, 79, 92, 104], 40) := by decide +kernel
theorem dX10_land_52 : decode cX10_land 52 = .ok (.aload_n 0, 1) := by decide +kernel
theorem dX10_land_53 : decode cX10_land 53 = .ok (.getfield 49, 3) := by decide +kernel
theorem dX10_land_56 : decode cX10_land 56 = .ok (.getfield 122, 3) := by decide +kernel
theorem dX10_land_59 : decode cX10_land 59 = .ok (.getfield 126, 3) := by decide +kernel
theorem dX10_land_62 : decode cX10_land 62 = .ok (.iload_n 1, 1) := by decide +kernel
theorem dX10_land_63 : decode cX10_land 63 = .ok (.iaload, 1) := by decide +kernel
theorem dX10_land_64 : decode cX10_land 64 = .ok (.ireturn, 1) := by decide +kernel
theorem dX10_land_65 : decode cX10_land 65 = .ok (.aload_n 0, 1) := by decide +kernel
theorem dX10_land_66 : decode cX10_land 66 = .ok (.getfield 49, 3) := by decide +kernel
theorem dX10_land_69 : decode cX10_land 69 = .ok (.getfield 122, 3) := by decide +kernel
theorem dX10_land_72 : decode cX10_land 72 = .ok (.getfield 132, 3) := by decide +kernel
theorem dX10_land_75 : decode cX10_land 75 = .ok (.iload_n 1, 1) := by decide +kernel
theorem dX10_land_76 : decode cX10_land 76 = .ok (.iaload, 1) := by decide +kernel
theorem dX10_land_77 : decode cX10_land 77 = .ok (.ireturn, 1) := by decide +kernel
theorem dX10_land_78 : decode cX10_land 78 = .ok (.aload_n 0, 1) := by decide +kernel
theorem dX10_land_79 : decode cX10_land 79 = .ok (.getfield 49, 3) := by decide +kernel
theorem dX10_land_82 : decode cX10_land 82 = .ok (.getfield 122, 3) := by decide +kernel
theorem dX10_land_85 : decode cX10_land 85 = .ok (.getfield 135, 3) := by decide +kernel
theorem dX10_land_88 : decode cX10_land 88 = .ok (.iload_n 1, 1) := by decide +kernel
theorem dX10_land_89 : decode cX10_land 89 = .ok (.iaload, 1) := by decide +kernel
theorem dX10_land_90 : decode cX10_land 90 = .ok (.ireturn, 1) := by decide +kernel
theorem dX10_land_91 : decode cX10_land 91 = .ok (.aload_n 0, 1) := by decide +kernel
theorem dX10_land_92 : decode cX10_land 92 = .ok (.getfield 49, 3) := by decide +kernel
theorem dX10_land_95 : decode cX10_land 95 = .ok (.getfield 122, 3) := by decide +kernel
theorem dX10_land_98 : decode cX10_land 98 = .ok (.getfield 138, 3) := by decide +kernel
theorem dX10_land_101 : decode cX10_land 101 = .ok (.iload_n 1, 1) := by decide +kernel
theorem dX10_land_102 : decode cX10_land 102 = .ok (.iaload, 1) := by decide +kernel
theorem dX10_land_103 : decode cX10_land 103 = .ok (.ireturn, 1) := by decide +kernel
theorem dX10_land_104 : decode cX10_land 104 = .ok (.aload_n 0, 1) := by decide +kernel
theorem dX10_land_105 : decode cX10_land 105 = .ok (.getfield 49, 3) := by decide +kernel
theorem dX10_land_108 : decode cX10_land 108 = .ok (.getfield 122, 3) := by decide +kernel
theorem dX10_land_111 : decode cX10_land 111 = .ok (.iload_n 1, 1) := by decide +kernel
theorem dX10_land_112 : decode cX10_land 112 = .ok (.invokevirtual 141, 3) := by decide +kernel
theorem dX10_land_115 : decode cX10_land 115 = .ok (.ireturn, 1) := by decide +kernel
theorem dX10_land_116 : decode cX10_land 116 = .ok (.aload_n 0, 1) := by decide +kernel
theorem dX10_land_117 : decode cX10_land 117 = .ok (.getfield 49, 3) := by decide +kernel
theorem dX10_land_120 : decode cX10_land 120 = .ok (.getfield 122, 3) := by decide +kernel
theorem dX10_land_123 : decode cX10_land 123 = .ok (.getfield 145, 3) := by decide +kernel
theorem dX10_land_126 : decode cX10_land 126 = .ok (.iload_n 1, 1) := by decide +kernel
theorem dX10_land_127 : decode cX10_land 127 = .ok (.iaload, 1) := by decide +kernel
theorem dX10_land_128 : decode cX10_land 128 = .ok (.ireturn, 1) := by decide +kernel
theorem dX10_land_129 : decode cX10_land 129 = .ok (.bipush (-2), 2) := by decide +kernel
theorem dX10_land_131 : decode cX10_land 131 = .ok (.ireturn, 1) := by decide +kernel
theorem dX10_told_0 : decode cX10_told 0 = .ok (.aload_n 0, 1) := by decide +kernel
theorem dX10_told_1 : decode cX10_told 1 = .ok (.iload_n 1, 1) := by decide +kernel
theorem dX10_told_2 : decode cX10_told 2 = .ok (.invokevirtual 118, 3) := by decide +kernel
theorem dX10_told_5 : decode cX10_told 5 = .ok (.ifCond .eq 13, 3) := by decide +kernel
theorem dX10_told_8 : decode cX10_told 8 = .ok (.iload_n 2, 1) := by decide +kernel
theorem dX10_told_9 : decode cX10_told 9 = .ok (.iconst 0, 1) := by decide +kernel
theorem dX10_told_10 : decode cX10_told 10 = .ok (.bipush 60, 2) := by decide +kernel
theorem dX10_told_12 : decode cX10_told 12 = .ok (.invokestatic 85, 3) := by decide +kernel
theorem dX10_told_15 : decode cX10_told 15 = .ok (.ifCond .ne 5, 3) := by decide +kernel
theorem dX10_told_18 : decode cX10_told 18 = .ok (.iconst (-1), 1) := by decide +kernel
theorem dX10_told_19 : decode cX10_told 19 = .ok (.ireturn, 1) := by decide +kernel
theorem dX10_told_20 : decode cX10_told 20 = .ok (.aload_n 0, 1) := by decide +kernel
theorem dX10_told_21 : decode cX10_told 21 = .ok (.getfield 49, 3) := by decide +kernel
theorem dX10_told_24 : decode cX10_told 24 = .ok (.getfield 103, 3) := by decide +kernel
theorem dX10_told_27 : decode cX10_told 27 = .ok (.getfield 148, 3) := by decide +kernel
theorem dX10_told_30 : decode cX10_told 30 = .ok (.iload_n 1, 1) := by decide +kernel
theorem dX10_told_31 : decode cX10_told 31 = .ok (.aaload, 1) := by decide +kernel
theorem dX10_told_32 : decode cX10_told 32 = .ok (.iload_n 2, 1) := by decide +kernel
theorem dX10_told_33 : decode cX10_told 33 = .ok (.iaload, 1) := by decide +kernel
theorem dX10_told_34 : decode cX10_told 34 = .ok (.ireturn, 1) := by decide +kernel
theorem dX10_week_0 : decode cX10_week 0 = .ok (.aload_n 0, 1) := by decide +kernel
theorem dX10_week_1 : decode cX10_week 1 = .ok (.getfield 49, 3) := by decide +kernel
theorem dX10_week_4 : decode cX10_week 4 = .ok (.getfield 103, 3) := by decide +kernel
theorem dX10_week_7 : decode cX10_week 7 = .ok (.getfield 152, 3) := by decide +kernel
theorem dX10_week_10 : decode cX10_week 10 = .ok (.ifCond .eq 19, 3) := by decide +kernel
theorem dX10_week_13 : decode cX10_week 13 = .ok (.aload_n 0, 1) := by decide +kernel
theorem dX10_week_14 : decode cX10_week 14 = .ok (.getfield 49, 3) := by decide +kernel
theorem dX10_week_17 : decode cX10_week 17 = .ok (.getfield 122, 3) := by decide +kernel
theorem dX10_week_20 : decode cX10_week 20 = .ok (.getfield 156, 3) := by decide +kernel
theorem dX10_week_23 : decode cX10_week 23 = .ok (.sipush 999, 3) := by decide +kernel
theorem dX10_week_26 : decode cX10_week 26 = .ok (.if_icmp .lt 5, 3) := by decide +kernel
theorem dX10_week_29 : decode cX10_week 29 = .ok (.iconst (-1), 1) := by decide +kernel
theorem dX10_week_30 : decode cX10_week 30 = .ok (.ireturn, 1) := by decide +kernel
theorem dX10_week_31 : decode cX10_week 31 = .ok (.aload_n 0, 1) := by decide +kernel
theorem dX10_week_32 : decode cX10_week 32 = .ok (.getfield 49, 3) := by decide +kernel
theorem dX10_week_35 : decode cX10_week 35 = .ok (.getfield 159, 3) := by decide +kernel
theorem dX10_week_38 : decode cX10_week 38 = .ok (.aload_n 0, 1) := by decide +kernel
theorem dX10_week_39 : decode cX10_week 39 = .ok (.getfield 49, 3) := by decide +kernel
theorem dX10_week_42 : decode cX10_week 42 = .ok (.getfield 122, 3) := by decide +kernel
theorem dX10_week_45 : decode cX10_week 45 = .ok (.invokevirtual 163, 3) := by decide +kernel
theorem dX10_week_48 : decode cX10_week 48 = .ok (.aload_n 0, 1) := by decide +kernel
theorem dX10_week_49 : decode cX10_week 49 = .ok (.getfield 64, 3) := by decide +kernel
theorem dX10_week_52 : decode cX10_week 52 = .ok (.aload_n 0, 1) := by decide +kernel
theorem dX10_week_53 : decode cX10_week 53 = .ok (.getfield 49, 3) := by decide +kernel
theorem dX10_week_56 : decode cX10_week 56 = .ok (.getfield 103, 3) := by decide +kernel
theorem dX10_week_59 : decode cX10_week 59 = .ok (.aload_n 0, 1) := by decide +kernel
theorem dX10_week_60 : decode cX10_week 60 = .ok (.getfield 41, 3) := by decide +kernel
theorem dX10_week_63 : decode cX10_week 63 = .ok (.aload_n 0, 1) := by decide +kernel
theorem dX10_week_64 : decode cX10_week 64 = .ok (.getfield 49, 3) := by decide +kernel
theorem dX10_week_67 : decode cX10_week 67 = .ok (.getfield 115, 3) := by decide +kernel
theorem dX10_week_70 : decode cX10_week 70 = .ok (.invokestatic 169, 3) := by decide +kernel
theorem dX10_week_73 : decode cX10_week 73 = .ok (.invokevirtual 173, 3) := by decide +kernel
theorem dX10_week_76 : decode cX10_week 76 = .ok (.aload_n 0, 1) := by decide +kernel
theorem dX10_week_77 : decode cX10_week 77 = .ok (.getfield 64, 3) := by decide +kernel
theorem dX10_week_80 : decode cX10_week 80 = .ok (.aload_n 0, 1) := by decide +kernel
theorem dX10_week_81 : decode cX10_week 81 = .ok (.getfield 49, 3) := by decide +kernel
theorem dX10_week_84 : decode cX10_week 84 = .ok (.getfield 122, 3) := by decide +kernel
theorem dX10_week_87 : decode cX10_week 87 = .ok (.invokevirtual 177, 3) := by decide +kernel
theorem dX10_week_90 : decode cX10_week 90 = .ok (.ireturn, 1) := by decide +kernel
theorem dX10_swap_0 : decode cX10_swap 0 = .ok (.aload_n 0, 1) := by decide +kernel
theorem dX10_swap_1 : decode cX10_swap 1 = .ok (.iload_n 1, 1) := by decide +kernel
theorem dX10_swap_2 : decode cX10_swap 2 = .ok (.iload_n 2, 1) := by decide +kernel
theorem dX10_swap_3 : decode cX10_swap 3 = .ok (.invokevirtual 181, 3) := by decide +kernel
theorem dX10_swap_6 : decode cX10_swap 6 = .ok (.ifCond .eq 18, 3) := by decide +kernel
theorem dX10_swap_9 : decode cX10_swap 9 = .ok (.aload_n 0, 1) := by decide +kernel
theorem dX10_swap_10 : decode cX10_swap 10 = .ok (.getfield 49, 3) := by decide +kernel
theorem dX10_swap_13 : decode cX10_swap 13 = .ok (.getfield 122, 3) := by decide +kernel
theorem dX10_swap_16 : decode cX10_swap 16 = .ok (.iload_n 1, 1) := by decide +kernel
theorem dX10_swap_17 : decode cX10_swap 17 = .ok (.iload_n 2, 1) := by decide +kernel
theorem dX10_swap_18 : decode cX10_swap 18 = .ok (.invokevirtual 185, 3) := by decide +kernel
theorem dX10_swap_21 : decode cX10_swap 21 = .ok (.ifCond .ne 5, 3) := by decide +kernel
theorem dX10_swap_24 : decode cX10_swap 24 = .ok (.iconst (-1), 1) := by decide +kernel
theorem dX10_swap_25 : decode cX10_swap 25 = .ok (.ireturn, 1) := by decide +kernel
theorem dX10_swap_26 : decode cX10_swap 26 = .ok (.aload_n 0, 1) := by decide +kernel
theorem dX10_swap_27 : decode cX10_swap 27 = .ok (.getfield 49, 3) := by decide +kernel
theorem dX10_swap_30 : decode cX10_swap 30 = .ok (.getfield 159, 3) := by decide +kernel
theorem dX10_swap_33 : decode cX10_swap 33 = .ok (.aload_n 0, 1) := by decide +kernel
theorem dX10_swap_34 : decode cX10_swap 34 = .ok (.getfield 49, 3) := by decide +kernel
theorem dX10_swap_37 : decode cX10_swap 37 = .ok (.getfield 122, 3) := by decide +kernel
theorem dX10_swap_40 : decode cX10_swap 40 = .ok (.invokevirtual 163, 3) := by decide +kernel
theorem dX10_swap_43 : decode cX10_swap 43 = .ok (.aload_n 0, 1) := by decide +kernel
theorem dX10_swap_44 : decode cX10_swap 44 = .ok (.getfield 49, 3) := by decide +kernel
theorem dX10_swap_47 : decode cX10_swap 47 = .ok (.getfield 122, 3) := by decide +kernel
theorem dX10_swap_50 : decode cX10_swap 50 = .ok (.iload_n 1, 1) := by decide +kernel
theorem dX10_swap_51 : decode cX10_swap 51 = .ok (.iload_n 2, 1) := by decide +kernel
theorem dX10_swap_52 : decode cX10_swap 52 = .ok (.invokevirtual 188, 3) := by decide +kernel
theorem dX10_swap_55 : decode cX10_swap 55 = .ok (.aload_n 0, 1) := by decide +kernel
theorem dX10_swap_56 : decode cX10_swap 56 = .ok (.getfield 49, 3) := by decide +kernel
theorem dX10_swap_59 : decode cX10_swap 59 = .ok (.getfield 122, 3) := by decide +kernel
theorem dX10_swap_62 : decode cX10_swap 62 = .ok (.getfield 126, 3) := by decide +kernel
theorem dX10_swap_65 : decode cX10_swap 65 = .ok (.iload_n 1, 1) := by decide +kernel
theorem dX10_swap_66 : decode cX10_swap 66 = .ok (.iaload, 1) := by decide +kernel
theorem dX10_swap_67 : decode cX10_swap 67 = .ok (.ireturn, 1) := by decide +kernel
theorem dX10_give_0 : decode cX10_give 0 = .ok (.aload_n 0, 1) := by decide +kernel
theorem dX10_give_1 : decode cX10_give 1 = .ok (.iload_n 1, 1) := by decide +kernel
theorem dX10_give_2 : decode cX10_give 2 = .ok (.iload_n 2, 1) := by decide +kernel
theorem dX10_give_3 : decode cX10_give 3 = .ok (.invokevirtual 181, 3) := by decide +kernel
theorem dX10_give_6 : decode cX10_give 6 = .ok (.ifCond .eq 29, 3) := by decide +kernel
theorem dX10_give_9 : decode cX10_give 9 = .ok (.iload_n 3, 1) := by decide +kernel
theorem dX10_give_10 : decode cX10_give 10 = .ok (.iconst 1, 1) := by decide +kernel
theorem dX10_give_11 : decode cX10_give 11 = .ok (.bipush 99, 2) := by decide +kernel
theorem dX10_give_13 : decode cX10_give 13 = .ok (.invokestatic 85, 3) := by decide +kernel
theorem dX10_give_16 : decode cX10_give 16 = .ok (.ifCond .eq 19, 3) := by decide +kernel
theorem dX10_give_19 : decode cX10_give 19 = .ok (.aload_n 0, 1) := by decide +kernel
theorem dX10_give_20 : decode cX10_give 20 = .ok (.getfield 49, 3) := by decide +kernel
theorem dX10_give_23 : decode cX10_give 23 = .ok (.getfield 122, 3) := by decide +kernel
theorem dX10_give_26 : decode cX10_give 26 = .ok (.getfield 126, 3) := by decide +kernel
theorem dX10_give_29 : decode cX10_give 29 = .ok (.iload_n 1, 1) := by decide +kernel
theorem dX10_give_30 : decode cX10_give 30 = .ok (.iaload, 1) := by decide +kernel
theorem dX10_give_31 : decode cX10_give 31 = .ok (.iload_n 3, 1) := by decide +kernel
theorem dX10_give_32 : decode cX10_give 32 = .ok (.if_icmp .ge 5, 3) := by decide +kernel
theorem dX10_give_35 : decode cX10_give 35 = .ok (.iconst (-1), 1) := by decide +kernel
theorem dX10_give_36 : decode cX10_give 36 = .ok (.ireturn, 1) := by decide +kernel
theorem dX10_give_37 : decode cX10_give 37 = .ok (.aload_n 0, 1) := by decide +kernel
theorem dX10_give_38 : decode cX10_give 38 = .ok (.getfield 49, 3) := by decide +kernel
theorem dX10_give_41 : decode cX10_give 41 = .ok (.getfield 159, 3) := by decide +kernel
theorem dX10_give_44 : decode cX10_give 44 = .ok (.aload_n 0, 1) := by decide +kernel
theorem dX10_give_45 : decode cX10_give 45 = .ok (.getfield 49, 3) := by decide +kernel
theorem dX10_give_48 : decode cX10_give 48 = .ok (.getfield 122, 3) := by decide +kernel
theorem dX10_give_51 : decode cX10_give 51 = .ok (.invokevirtual 163, 3) := by decide +kernel
theorem dX10_give_54 : decode cX10_give 54 = .ok (.aload_n 0, 1) := by decide +kernel
theorem dX10_give_55 : decode cX10_give 55 = .ok (.getfield 49, 3) := by decide +kernel
theorem dX10_give_58 : decode cX10_give 58 = .ok (.getfield 122, 3) := by decide +kernel
theorem dX10_give_61 : decode cX10_give 61 = .ok (.iload_n 1, 1) := by decide +kernel
theorem dX10_give_62 : decode cX10_give 62 = .ok (.iload_n 2, 1) := by decide +kernel
theorem dX10_give_63 : decode cX10_give 63 = .ok (.iload_n 3, 1) := by decide +kernel
theorem dX10_give_64 : decode cX10_give 64 = .ok (.invokevirtual 192, 3) := by decide +kernel
theorem dX10_give_67 : decode cX10_give 67 = .ok (.aload_n 0, 1) := by decide +kernel
theorem dX10_give_68 : decode cX10_give 68 = .ok (.getfield 49, 3) := by decide +kernel
theorem dX10_give_71 : decode cX10_give 71 = .ok (.getfield 122, 3) := by decide +kernel
theorem dX10_give_74 : decode cX10_give 74 = .ok (.getfield 126, 3) := by decide +kernel
theorem dX10_give_77 : decode cX10_give 77 = .ok (.iload_n 1, 1) := by decide +kernel
theorem dX10_give_78 : decode cX10_give 78 = .ok (.iaload, 1) := by decide +kernel
theorem dX10_give_79 : decode cX10_give 79 = .ok (.ireturn, 1) := by decide +kernel
theorem dX10_fight_0 : decode cX10_fight 0 = .ok (.aload_n 0, 1) := by decide +kernel
theorem dX10_fight_1 : decode cX10_fight 1 = .ok (.iload_n 1, 1) := by decide +kernel
theorem dX10_fight_2 : decode cX10_fight 2 = .ok (.iload_n 2, 1) := by decide +kernel
theorem dX10_fight_3 : decode cX10_fight 3 = .ok (.invokevirtual 181, 3) := by decide +kernel
theorem dX10_fight_6 : decode cX10_fight 6 = .ok (.ifCond .ne 5, 3) := by decide +kernel
theorem dX10_fight_9 : decode cX10_fight 9 = .ok (.iconst (-1), 1) := by decide +kernel
theorem dX10_fight_10 : decode cX10_fight 10 = .ok (.ireturn, 1) := by decide +kernel
theorem dX10_fight_11 : decode cX10_fight 11 = .ok (.aload_n 0, 1) := by decide +kernel
theorem dX10_fight_12 : decode cX10_fight 12 = .ok (.getfield 49, 3) := by decide +kernel
theorem dX10_fight_15 : decode cX10_fight 15 = .ok (.getfield 122, 3) := by decide +kernel
theorem dX10_fight_18 : decode cX10_fight 18 = .ok (.astore_n 3, 1) := by decide +kernel
theorem dX10_fight_19 : decode cX10_fight 19 = .ok (.aload_n 3, 1) := by decide +kernel
theorem dX10_fight_20 : decode cX10_fight 20 = .ok (.getfield 126, 3) := by decide +kernel
theorem dX10_fight_23 : decode cX10_fight 23 = .ok (.iload_n 1, 1) := by decide +kernel
theorem dX10_fight_24 : decode cX10_fight 24 = .ok (.iaload, 1) := by decide +kernel
theorem dX10_fight_25 : decode cX10_fight 25 = .ok (.aload_n 3, 1) := by decide +kernel
theorem dX10_fight_26 : decode cX10_fight 26 = .ok (.getfield 126, 3) := by decide +kernel
theorem dX10_fight_29 : decode cX10_fight 29 = .ok (.iload_n 2, 1) := by decide +kernel
theorem dX10_fight_30 : decode cX10_fight 30 = .ok (.iaload, 1) := by decide +kernel
theorem dX10_fight_31 : decode cX10_fight 31 = .ok (.invokestatic 196, 3) := by decide +kernel
theorem dX10_fight_34 : decode cX10_fight 34 = .ok (.istore 4, 2) := by decide +kernel
theorem dX10_fight_36 : decode cX10_fight 36 = .ok (.iload 4, 2) := by decide +kernel
theorem dX10_fight_38 : decode cX10_fight 38 = .ok (.iconst 1, 1) := by decide +kernel
theorem dX10_fight_39 : decode cX10_fight 39 = .ok (.if_icmp .ge 5, 3) := by decide +kernel
theorem dX10_fight_42 : decode cX10_fight 42 = .ok (.iconst (-1), 1) := by decide +kernel
theorem dX10_fight_43 : decode cX10_fight 43 = .ok (.ireturn, 1) := by decide +kernel
theorem dX10_fight_44 : decode cX10_fight 44 = .ok (.aload_n 0, 1) := by decide +kernel
theorem dX10_fight_45 : decode cX10_fight 45 = .ok (.getfield 49, 3) := by decide +kernel
theorem dX10_fight_48 : decode cX10_fight 48 = .ok (.getfield 159, 3) := by decide +kernel
theorem dX10_fight_51 : decode cX10_fight 51 = .ok (.aload_n 3, 1) := by decide +kernel
theorem dX10_fight_52 : decode cX10_fight 52 = .ok (.invokevirtual 163, 3) := by decide +kernel
theorem dX10_fight_55 : decode cX10_fight 55 = .ok (.iload 4, 2) := by decide +kernel
theorem dX10_fight_57 : decode cX10_fight 57 = .ok (.iconst 1, 1) := by decide +kernel
theorem dX10_fight_58 : decode cX10_fight 58 = .ok (.iadd, 1) := by decide +kernel
theorem dX10_fight_59 : decode cX10_fight 59 = .ok (.iconst 2, 1) := by decide +kernel
theorem dX10_fight_60 : decode cX10_fight 60 = .ok (.idiv, 1) := by decide +kernel
theorem dX10_fight_61 : decode cX10_fight 61 = .ok (.istore 5, 2) := by decide +kernel
theorem dX10_fight_63 : decode cX10_fight 63 = .ok (.aload_n 3, 1) := by decide +kernel
theorem dX10_fight_64 : decode cX10_fight 64 = .ok (.getfield 126, 3) := by decide +kernel
theorem dX10_fight_67 : decode cX10_fight 67 = .ok (.iload_n 1, 1) := by decide +kernel
theorem dX10_fight_68 : decode cX10_fight 68 = .ok (.dup2, 1) := by decide +kernel
theorem dX10_fight_69 : decode cX10_fight 69 = .ok (.iaload, 1) := by decide +kernel
theorem dX10_fight_70 : decode cX10_fight 70 = .ok (.iload 5, 2) := by decide +kernel
theorem dX10_fight_72 : decode cX10_fight 72 = .ok (.isub, 1) := by decide +kernel
theorem dX10_fight_73 : decode cX10_fight 73 = .ok (.iastore, 1) := by decide +kernel
theorem dX10_fight_74 : decode cX10_fight 74 = .ok (.aload_n 3, 1) := by decide +kernel
theorem dX10_fight_75 : decode cX10_fight 75 = .ok (.getfield 126, 3) := by decide +kernel
theorem dX10_fight_78 : decode cX10_fight 78 = .ok (.iload_n 2, 1) := by decide +kernel
theorem dX10_fight_79 : decode cX10_fight 79 = .ok (.dup2, 1) := by decide +kernel
theorem dX10_fight_80 : decode cX10_fight 80 = .ok (.iaload, 1) := by decide +kernel
theorem dX10_fight_81 : decode cX10_fight 81 = .ok (.iload 5, 2) := by decide +kernel
theorem dX10_fight_83 : decode cX10_fight 83 = .ok (.isub, 1) := by decide +kernel
theorem dX10_fight_84 : decode cX10_fight 84 = .ok (.iastore, 1) := by decide +kernel
theorem dX10_fight_85 : decode cX10_fight 85 = .ok (.iload 5, 2) := by decide +kernel
theorem dX10_fight_87 : decode cX10_fight 87 = .ok (.ireturn, 1) := by decide +kernel
theorem dX10_set_0 : decode cX10_set 0 = .ok (.aload_n 0, 1) := by decide +kernel
theorem dX10_set_1 : decode cX10_set 1 = .ok (.getfield 49, 3) := by decide +kernel
theorem dX10_set_4 : decode cX10_set 4 = .ok (.getfield 103, 3) := by decide +kernel
theorem dX10_set_7 : decode cX10_set 7 = .ok (.getfield 152, 3) := by decide +kernel
theorem dX10_set_10 : decode cX10_set 10 = .ok (.ifCond .eq 27, 3) := by decide +kernel
theorem dX10_set_13 : decode cX10_set 13 = .ok (.iload_n 1, 1) := by decide +kernel
theorem dX10_set_14 : decode cX10_set 14 = .ok (.iconst 1, 1) := by decide +kernel
theorem dX10_set_15 : decode cX10_set 15 = .ok (.bipush 9, 2) := by decide +kernel
theorem dX10_set_17 : decode cX10_set 17 = .ok (.invokestatic 85, 3) := by decide +kernel
theorem dX10_set_20 : decode cX10_set 20 = .ok (.ifCond .eq 17, 3) := by decide +kernel
theorem dX10_set_23 : decode cX10_set 23 = .ok (.iload_n 1, 1) := by decide +kernel
theorem dX10_set_24 : decode cX10_set 24 = .ok (.aload_n 0, 1) := by decide +kernel
theorem dX10_set_25 : decode cX10_set 25 = .ok (.getfield 49, 3) := by decide +kernel
theorem dX10_set_28 : decode cX10_set 28 = .ok (.getfield 122, 3) := by decide +kernel
theorem dX10_set_31 : decode cX10_set 31 = .ok (.getfield 202, 3) := by decide +kernel
theorem dX10_set_34 : decode cX10_set 34 = .ok (.if_icmp .ne 5, 3) := by decide +kernel
theorem dX10_set_37 : decode cX10_set 37 = .ok (.iconst (-1), 1) := by decide +kernel
theorem dX10_set_38 : decode cX10_set 38 = .ok (.ireturn, 1) := by decide +kernel
theorem dX10_set_39 : decode cX10_set 39 = .ok (.aload_n 0, 1) := by decide +kernel
theorem dX10_set_40 : decode cX10_set 40 = .ok (.getfield 49, 3) := by decide +kernel
theorem dX10_set_43 : decode cX10_set 43 = .ok (.getfield 159, 3) := by decide +kernel
theorem dX10_set_46 : decode cX10_set 46 = .ok (.aload_n 0, 1) := by decide +kernel
theorem dX10_set_47 : decode cX10_set 47 = .ok (.getfield 49, 3) := by decide +kernel
theorem dX10_set_50 : decode cX10_set 50 = .ok (.getfield 122, 3) := by decide +kernel
theorem dX10_set_53 : decode cX10_set 53 = .ok (.invokevirtual 163, 3) := by decide +kernel
theorem dX10_set_56 : decode cX10_set 56 = .ok (.aload_n 0, 1) := by decide +kernel
theorem dX10_set_57 : decode cX10_set 57 = .ok (.getfield 49, 3) := by decide +kernel
theorem dX10_set_60 : decode cX10_set 60 = .ok (.getfield 122, 3) := by decide +kernel
theorem dX10_set_63 : decode cX10_set 63 = .ok (.getfield 202, 3) := by decide +kernel
theorem dX10_set_66 : decode cX10_set 66 = .ok (.istore_n 2, 1) := by decide +kernel
theorem dX10_set_67 : decode cX10_set 67 = .ok (.aload_n 0, 1) := by decide +kernel
theorem dX10_set_68 : decode cX10_set 68 = .ok (.getfield 49, 3) := by decide +kernel
theorem dX10_set_71 : decode cX10_set 71 = .ok (.getfield 122, 3) := by decide +kernel
theorem dX10_set_74 : decode cX10_set 74 = .ok (.iload_n 1, 1) := by decide +kernel
theorem dX10_set_75 : decode cX10_set 75 = .ok (.putfield 202, 3) := by decide +kernel
theorem dX10_set_78 : decode cX10_set 78 = .ok (.iload_n 2, 1) := by decide +kernel
theorem dX10_set_79 : decode cX10_set 79 = .ok (.ireturn, 1) := by decide +kernel
theorem dX10_undo_0 : decode cX10_undo 0 = .ok (.aload_n 0, 1) := by decide +kernel
theorem dX10_undo_1 : decode cX10_undo 1 = .ok (.getfield 49, 3) := by decide +kernel
theorem dX10_undo_4 : decode cX10_undo 4 = .ok (.getfield 159, 3) := by decide +kernel
theorem dX10_undo_7 : decode cX10_undo 7 = .ok (.aload_n 0, 1) := by decide +kernel
theorem dX10_undo_8 : decode cX10_undo 8 = .ok (.getfield 49, 3) := by decide +kernel
theorem dX10_undo_11 : decode cX10_undo 11 = .ok (.getfield 122, 3) := by decide +kernel
theorem dX10_undo_14 : decode cX10_undo 14 = .ok (.invokevirtual 205, 3) := by decide +kernel
theorem dX10_undo_17 : decode cX10_undo 17 = .ok (.ifCond .eq 16, 3) := by decide +kernel
theorem dX10_undo_20 : decode cX10_undo 20 = .ok (.aload_n 0, 1) := by decide +kernel
theorem dX10_undo_21 : decode cX10_undo 21 = .ok (.getfield 49, 3) := by decide +kernel
theorem dX10_undo_24 : decode cX10_undo 24 = .ok (.getfield 159, 3) := by decide +kernel
theorem dX10_undo_27 : decode cX10_undo 27 = .ok (.getfield 209, 3) := by decide +kernel
theorem dX10_undo_30 : decode cX10_undo 30 = .ok (.goto 5, 3) := by decide +kernel
theorem dX10_undo_33 : decode cX10_undo 33 = .ok (.bipush (-2), 2) := by decide +kernel
theorem dX10_undo_35 : decode cX10_undo 35 = .ok (.ireturn, 1) := by decide +kernel
theorem dX10_ahead_0 : decode cX10_ahead 0 = .ok (.aload_n 0, 1) := by decide +kernel
theorem dX10_ahead_1 : decode cX10_ahead 1 = .ok (.iload_n 1, 1) := by decide +kernel
theorem dX10_ahead_2 : decode cX10_ahead 2 = .ok (.invokevirtual 118, 3) := by decide +kernel
theorem dX10_ahead_5 : decode cX10_ahead 5 = .ok (.ifCond .eq 22, 3) := by decide +kernel
theorem dX10_ahead_8 : decode cX10_ahead 8 = .ok (.iload_n 2, 1) := by decide +kernel
theorem dX10_ahead_9 : decode cX10_ahead 9 = .ok (.iconst 0, 1) := by decide +kernel
theorem dX10_ahead_10 : decode cX10_ahead 10 = .ok (.bipush 100, 2) := by decide +kernel
theorem dX10_ahead_12 : decode cX10_ahead 12 = .ok (.invokestatic 85, 3) := by decide +kernel
theorem dX10_ahead_15 : decode cX10_ahead 15 = .ok (.ifCond .eq 12, 3) := by decide +kernel
theorem dX10_ahead_18 : decode cX10_ahead 18 = .ok (.iload_n 3, 1) := by decide +kernel
theorem dX10_ahead_19 : decode cX10_ahead 19 = .ok (.iconst 0, 1) := by decide +kernel
theorem dX10_ahead_20 : decode cX10_ahead 20 = .ok (.iconst 3, 1) := by decide +kernel
theorem dX10_ahead_21 : decode cX10_ahead 21 = .ok (.invokestatic 85, 3) := by decide +kernel
theorem dX10_ahead_24 : decode cX10_ahead 24 = .ok (.ifCond .ne 5, 3) := by decide +kernel
theorem dX10_ahead_27 : decode cX10_ahead 27 = .ok (.iconst (-1), 1) := by decide +kernel
theorem dX10_ahead_28 : decode cX10_ahead 28 = .ok (.ireturn, 1) := by decide +kernel
theorem dX10_ahead_29 : decode cX10_ahead 29 = .ok (.aload_n 0, 1) := by decide +kernel
theorem dX10_ahead_30 : decode cX10_ahead 30 = .ok (.getfield 73, 3) := by decide +kernel
theorem dX10_ahead_33 : decode cX10_ahead 33 = .ok (.iload_n 2, 1) := by decide +kernel
theorem dX10_ahead_34 : decode cX10_ahead 34 = .ok (.invokevirtual 212, 3) := by decide +kernel
theorem dX10_ahead_37 : decode cX10_ahead 37 = .ok (.astore 4, 2) := by decide +kernel
theorem dX10_ahead_39 : decode cX10_ahead 39 = .ok (.iload_n 3, 1) := by decide +kernel
theorem dX10_ahead_40 : decode cX10_ahead 40 = .ok (.tableswitch 52 0 2 #[28, 36, 44], 28) := by decide +kernel
theorem dX10_ahead_68 : decode cX10_ahead 68 = .ok (.aload 4, 2) := by decide +kernel
theorem dX10_ahead_70 : decode cX10_ahead 70 = .ok (.getfield 126, 3) := by decide +kernel
theorem dX10_ahead_73 : decode cX10_ahead 73 = .ok (.iload_n 1, 1) := by decide +kernel
theorem dX10_ahead_74 : decode cX10_ahead 74 = .ok (.iaload, 1) := by decide +kernel
theorem dX10_ahead_75 : decode cX10_ahead 75 = .ok (.ireturn, 1) := by decide +kernel
theorem dX10_ahead_76 : decode cX10_ahead 76 = .ok (.aload 4, 2) := by decide +kernel
theorem dX10_ahead_78 : decode cX10_ahead 78 = .ok (.getfield 132, 3) := by decide +kernel
theorem dX10_ahead_81 : decode cX10_ahead 81 = .ok (.iload_n 1, 1) := by decide +kernel
theorem dX10_ahead_82 : decode cX10_ahead 82 = .ok (.iaload, 1) := by decide +kernel
theorem dX10_ahead_83 : decode cX10_ahead 83 = .ok (.ireturn, 1) := by decide +kernel
theorem dX10_ahead_84 : decode cX10_ahead 84 = .ok (.aload 4, 2) := by decide +kernel
theorem dX10_ahead_86 : decode cX10_ahead 86 = .ok (.getfield 135, 3) := by decide +kernel
theorem dX10_ahead_89 : decode cX10_ahead 89 = .ok (.iload_n 1, 1) := by decide +kernel
theorem dX10_ahead_90 : decode cX10_ahead 90 = .ok (.iaload, 1) := by decide +kernel
theorem dX10_ahead_91 : decode cX10_ahead 91 = .ok (.ireturn, 1) := by decide +kernel
theorem dX10_ahead_92 : decode cX10_ahead 92 = .ok (.aload 4, 2) := by decide +kernel
theorem dX10_ahead_94 : decode cX10_ahead 94 = .ok (.getfield 138, 3) := by decide +kernel
theorem dX10_ahead_97 : decode cX10_ahead 97 = .ok (.iload_n 1, 1) := by decide +kernel
theorem dX10_ahead_98 : decode cX10_ahead 98 = .ok (.iaload, 1) := by decide +kernel
theorem dX10_ahead_99 : decode cX10_ahead 99 = .ok (.ireturn, 1) := by decide +kernel
theorem dX10_bare_0 : decode cX10_bare 0 = .ok (.aload_n 0, 1) := by decide +kernel
theorem dX10_bare_1 : decode cX10_bare 1 = .ok (.iload_n 1, 1) := by decide +kernel
theorem dX10_bare_2 : decode cX10_bare 2 = .ok (.invokevirtual 118, 3) := by decide +kernel
theorem dX10_bare_5 : decode cX10_bare 5 = .ok (.ifCond .eq 14, 3) := by decide +kernel
theorem dX10_bare_8 : decode cX10_bare 8 = .ok (.aload_n 0, 1) := by decide +kernel
theorem dX10_bare_9 : decode cX10_bare 9 = .ok (.getfield 73, 3) := by decide +kernel
theorem dX10_bare_12 : decode cX10_bare 12 = .ok (.iload_n 1, 1) := by decide +kernel
theorem dX10_bare_13 : decode cX10_bare 13 = .ok (.invokevirtual 216, 3) := by decide +kernel
theorem dX10_bare_16 : decode cX10_bare 16 = .ok (.goto 4, 3) := by decide +kernel
theorem dX10_bare_19 : decode cX10_bare 19 = .ok (.iconst (-1), 1) := by decide +kernel
theorem dX10_bare_20 : decode cX10_bare 20 = .ok (.ireturn, 1) := by decide +kernel
theorem dX10_row_0 : decode cX10_row 0 = .ok (.aload_n 0, 1) := by decide +kernel
theorem dX10_row_1 : decode cX10_row 1 = .ok (.iload_n 1, 1) := by decide +kernel
theorem dX10_row_2 : decode cX10_row 2 = .ok (.invokevirtual 118, 3) := by decide +kernel
theorem dX10_row_5 : decode cX10_row 5 = .ok (.ifCond .eq 21, 3) := by decide +kernel
theorem dX10_row_8 : decode cX10_row 8 = .ok (.iload_n 2, 1) := by decide +kernel
theorem dX10_row_9 : decode cX10_row 9 = .ok (.iconst 1, 1) := by decide +kernel
theorem dX10_row_10 : decode cX10_row 10 = .ok (.iconst 4, 1) := by decide +kernel
theorem dX10_row_11 : decode cX10_row 11 = .ok (.invokestatic 85, 3) := by decide +kernel
theorem dX10_row_14 : decode cX10_row 14 = .ok (.ifCond .eq 12, 3) := by decide +kernel
theorem dX10_row_17 : decode cX10_row 17 = .ok (.iload_n 3, 1) := by decide +kernel
theorem dX10_row_18 : decode cX10_row 18 = .ok (.iconst 0, 1) := by decide +kernel
theorem dX10_row_19 : decode cX10_row 19 = .ok (.iconst 4, 1) := by decide +kernel
theorem dX10_row_20 : decode cX10_row 20 = .ok (.invokestatic 85, 3) := by decide +kernel
theorem dX10_row_23 : decode cX10_row 23 = .ok (.ifCond .ne 6, 3) := by decide +kernel
theorem dX10_row_26 : decode cX10_row 26 = .ok (.bipush (-3), 2) := by decide +kernel
theorem dX10_row_28 : decode cX10_row 28 = .ok (.ireturn, 1) := by decide +kernel
theorem dX10_row_29 : decode cX10_row 29 = .ok (.iload_n 3, 1) := by decide +kernel
theorem dX10_row_30 : decode cX10_row 30 = .ok (.iload_n 2, 1) := by decide +kernel
theorem dX10_row_31 : decode cX10_row 31 = .ok (.if_icmp .le 6, 3) := by decide +kernel
theorem dX10_row_34 : decode cX10_row 34 = .ok (.bipush (-2), 2) := by decide +kernel
theorem dX10_row_36 : decode cX10_row 36 = .ok (.ireturn, 1) := by decide +kernel
theorem dX10_row_37 : decode cX10_row 37 = .ok (.aload_n 0, 1) := by decide +kernel
theorem dX10_row_38 : decode cX10_row 38 = .ok (.getfield 73, 3) := by decide +kernel
theorem dX10_row_41 : decode cX10_row 41 = .ok (.iload_n 1, 1) := by decide +kernel
theorem dX10_row_42 : decode cX10_row 42 = .ok (.iload_n 2, 1) := by decide +kernel
theorem dX10_row_43 : decode cX10_row 43 = .ok (.invokevirtual 219, 3) := by decide +kernel
theorem dX10_row_46 : decode cX10_row 46 = .ok (.iload_n 3, 1) := by decide +kernel
theorem dX10_row_47 : decode cX10_row 47 = .ok (.ifCond .ne 13, 3) := by decide +kernel
theorem dX10_row_50 : decode cX10_row 50 = .ok (.aload_n 0, 1) := by decide +kernel
theorem dX10_row_51 : decode cX10_row 51 = .ok (.getfield 73, 3) := by decide +kernel
theorem dX10_row_54 : decode cX10_row 54 = .ok (.getfield 222, 3) := by decide +kernel
theorem dX10_row_57 : decode cX10_row 57 = .ok (.goto 14, 3) := by decide +kernel
theorem dX10_row_60 : decode cX10_row 60 = .ok (.aload_n 0, 1) := by decide +kernel
theorem dX10_row_61 : decode cX10_row 61 = .ok (.getfield 73, 3) := by decide +kernel
theorem dX10_row_64 : decode cX10_row 64 = .ok (.getfield 225, 3) := by decide +kernel
theorem dX10_row_67 : decode cX10_row 67 = .ok (.iload_n 3, 1) := by decide +kernel
theorem dX10_row_68 : decode cX10_row 68 = .ok (.iconst 1, 1) := by decide +kernel
theorem dX10_row_69 : decode cX10_row 69 = .ok (.isub, 1) := by decide +kernel
theorem dX10_row_70 : decode cX10_row 70 = .ok (.iaload, 1) := by decide +kernel
theorem dX10_row_71 : decode cX10_row 71 = .ok (.ireturn, 1) := by decide +kernel
theorem dX10_best_0 : decode cX10_best 0 = .ok (.aload_n 0, 1) := by decide +kernel
theorem dX10_best_1 : decode cX10_best 1 = .ok (.iload_n 1, 1) := by decide +kernel
theorem dX10_best_2 : decode cX10_best 2 = .ok (.invokevirtual 228, 3) := by decide +kernel
theorem dX10_best_5 : decode cX10_best 5 = .ok (.ifCond .eq 12, 3) := by decide +kernel
theorem dX10_best_8 : decode cX10_best 8 = .ok (.iload_n 2, 1) := by decide +kernel
theorem dX10_best_9 : decode cX10_best 9 = .ok (.iconst 0, 1) := by decide +kernel
theorem dX10_best_10 : decode cX10_best 10 = .ok (.iconst 1, 1) := by decide +kernel
theorem dX10_best_11 : decode cX10_best 11 = .ok (.invokestatic 85, 3) := by decide +kernel
theorem dX10_best_14 : decode cX10_best 14 = .ok (.ifCond .ne 5, 3) := by decide +kernel
theorem dX10_best_17 : decode cX10_best 17 = .ok (.iconst (-1), 1) := by decide +kernel
theorem dX10_best_18 : decode cX10_best 18 = .ok (.ireturn, 1) := by decide +kernel
theorem dX10_best_19 : decode cX10_best 19 = .ok (.aload_n 0, 1) := by decide +kernel
theorem dX10_best_20 : decode cX10_best 20 = .ok (.getfield 73, 3) := by decide +kernel
theorem dX10_best_23 : decode cX10_best 23 = .ok (.iload_n 1, 1) := by decide +kernel
theorem dX10_best_24 : decode cX10_best 24 = .ok (.invokevirtual 231, 3) := by decide +kernel
theorem dX10_best_27 : decode cX10_best 27 = .ok (.iload_n 2, 1) := by decide +kernel
theorem dX10_best_28 : decode cX10_best 28 = .ok (.ifCond .ne 13, 3) := by decide +kernel
theorem dX10_best_31 : decode cX10_best 31 = .ok (.aload_n 0, 1) := by decide +kernel
theorem dX10_best_32 : decode cX10_best 32 = .ok (.getfield 73, 3) := by decide +kernel
theorem dX10_best_35 : decode cX10_best 35 = .ok (.getfield 234, 3) := by decide +kernel
theorem dX10_best_38 : decode cX10_best 38 = .ok (.goto 10, 3) := by decide +kernel
theorem dX10_best_41 : decode cX10_best 41 = .ok (.aload_n 0, 1) := by decide +kernel
theorem dX10_best_42 : decode cX10_best 42 = .ok (.getfield 73, 3) := by decide +kernel
theorem dX10_best_45 : decode cX10_best 45 = .ok (.getfield 222, 3) := by decide +kernel
theorem dX10_best_48 : decode cX10_best 48 = .ok (.ireturn, 1) := by decide +kernel
theorem dX10_quiet_0 : decode cX10_quiet 0 = .ok (.aload_n 0, 1) := by decide +kernel
theorem dX10_quiet_1 : decode cX10_quiet 1 = .ok (.getfield 49, 3) := by decide +kernel
theorem dX10_quiet_4 : decode cX10_quiet 4 = .ok (.getfield 103, 3) := by decide +kernel
theorem dX10_quiet_7 : decode cX10_quiet 7 = .ok (.getfield 152, 3) := by decide +kernel
theorem dX10_quiet_10 : decode cX10_quiet 10 = .ok (.ifCond .eq 13, 3) := by decide +kernel
theorem dX10_quiet_13 : decode cX10_quiet 13 = .ok (.aload_n 0, 1) := by decide +kernel
theorem dX10_quiet_14 : decode cX10_quiet 14 = .ok (.getfield 73, 3) := by decide +kernel
theorem dX10_quiet_17 : decode cX10_quiet 17 = .ok (.invokevirtual 237, 3) := by decide +kernel
theorem dX10_quiet_20 : decode cX10_quiet 20 = .ok (.goto 4, 3) := by decide +kernel
theorem dX10_quiet_23 : decode cX10_quiet 23 = .ok (.iconst (-1), 1) := by decide +kernel
theorem dX10_quiet_24 : decode cX10_quiet 24 = .ok (.ireturn, 1) := by decide +kernel
theorem dX10_worth_0 : decode cX10_worth 0 = .ok (.aload_n 0, 1) := by decide +kernel
theorem dX10_worth_1 : decode cX10_worth 1 = .ok (.iload_n 1, 1) := by decide +kernel
theorem dX10_worth_2 : decode cX10_worth 2 = .ok (.invokevirtual 118, 3) := by decide +kernel
theorem dX10_worth_5 : decode cX10_worth 5 = .ok (.ifCond .eq 21, 3) := by decide +kernel
theorem dX10_worth_8 : decode cX10_worth 8 = .ok (.iload_n 2, 1) := by decide +kernel
theorem dX10_worth_9 : decode cX10_worth 9 = .ok (.iconst 1, 1) := by decide +kernel
theorem dX10_worth_10 : decode cX10_worth 10 = .ok (.bipush 99, 2) := by decide +kernel
theorem dX10_worth_12 : decode cX10_worth 12 = .ok (.invokestatic 85, 3) := by decide +kernel
theorem dX10_worth_15 : decode cX10_worth 15 = .ok (.ifCond .eq 11, 3) := by decide +kernel
theorem dX10_worth_18 : decode cX10_worth 18 = .ok (.aload_n 0, 1) := by decide +kernel
theorem dX10_worth_19 : decode cX10_worth 19 = .ok (.iload_n 3, 1) := by decide +kernel
theorem dX10_worth_20 : decode cX10_worth 20 = .ok (.invokevirtual 228, 3) := by decide +kernel
theorem dX10_worth_23 : decode cX10_worth 23 = .ok (.ifCond .ne 6, 3) := by decide +kernel
theorem dX10_worth_26 : decode cX10_worth 26 = .ok (.ldc 241, 2) := by decide +kernel
theorem dX10_worth_28 : decode cX10_worth 28 = .ok (.ireturn, 1) := by decide +kernel
theorem dX10_worth_29 : decode cX10_worth 29 = .ok (.aload_n 0, 1) := by decide +kernel
theorem dX10_worth_30 : decode cX10_worth 30 = .ok (.getfield 73, 3) := by decide +kernel
theorem dX10_worth_33 : decode cX10_worth 33 = .ok (.iload_n 1, 1) := by decide +kernel
theorem dX10_worth_34 : decode cX10_worth 34 = .ok (.iload_n 2, 1) := by decide +kernel
theorem dX10_worth_35 : decode cX10_worth 35 = .ok (.iload_n 3, 1) := by decide +kernel
theorem dX10_worth_36 : decode cX10_worth 36 = .ok (.invokevirtual 242, 3) := by decide +kernel
theorem dX10_worth_39 : decode cX10_worth 39 = .ok (.ireturn, 1) := by decide +kernel
theorem dX10_need_0 : decode cX10_need 0 = .ok (.aload_n 0, 1) := by decide +kernel
theorem dX10_need_1 : decode cX10_need 1 = .ok (.iload_n 1, 1) := by decide +kernel
theorem dX10_need_2 : decode cX10_need 2 = .ok (.invokevirtual 118, 3) := by decide +kernel
theorem dX10_need_5 : decode cX10_need 5 = .ok (.ifCond .eq 22, 3) := by decide +kernel
theorem dX10_need_8 : decode cX10_need 8 = .ok (.iload_n 2, 1) := by decide +kernel
theorem dX10_need_9 : decode cX10_need 9 = .ok (.iconst 1, 1) := by decide +kernel
theorem dX10_need_10 : decode cX10_need 10 = .ok (.sipush 9999, 3) := by decide +kernel
theorem dX10_need_13 : decode cX10_need 13 = .ok (.invokestatic 85, 3) := by decide +kernel
theorem dX10_need_16 : decode cX10_need 16 = .ok (.ifCond .eq 11, 3) := by decide +kernel
theorem dX10_need_19 : decode cX10_need 19 = .ok (.aload_n 0, 1) := by decide +kernel
theorem dX10_need_20 : decode cX10_need 20 = .ok (.iload_n 3, 1) := by decide +kernel
theorem dX10_need_21 : decode cX10_need 21 = .ok (.invokevirtual 228, 3) := by decide +kernel
theorem dX10_need_24 : decode cX10_need 24 = .ok (.ifCond .ne 5, 3) := by decide +kernel
theorem dX10_need_27 : decode cX10_need 27 = .ok (.iconst (-1), 1) := by decide +kernel
theorem dX10_need_28 : decode cX10_need 28 = .ok (.ireturn, 1) := by decide +kernel
theorem dX10_need_29 : decode cX10_need 29 = .ok (.aload_n 0, 1) := by decide +kernel
theorem dX10_need_30 : decode cX10_need 30 = .ok (.getfield 73, 3) := by decide +kernel
theorem dX10_need_33 : decode cX10_need 33 = .ok (.iload_n 1, 1) := by decide +kernel
theorem dX10_need_34 : decode cX10_need 34 = .ok (.iload_n 2, 1) := by decide +kernel
theorem dX10_need_35 : decode cX10_need 35 = .ok (.iload_n 3, 1) := by decide +kernel
theorem dX10_need_36 : decode cX10_need 36 = .ok (.invokevirtual 246, 3) := by decide +kernel
theorem dX10_need_39 : decode cX10_need 39 = .ok (.ireturn, 1) := by decide +kernel
theorem dX10_game_0 : decode cX10_game 0 = .ok (.aload_n 0, 1) := by decide +kernel
theorem dX10_game_1 : decode cX10_game 1 = .ok (.iload_n 1, 1) := by decide +kernel
theorem dX10_game_2 : decode cX10_game 2 = .ok (.iload_n 2, 1) := by decide +kernel
theorem dX10_game_3 : decode cX10_game 3 = .ok (.invokevirtual 181, 3) := by decide +kernel
theorem dX10_game_6 : decode cX10_game 6 = .ok (.ifCond .eq 22, 3) := by decide +kernel
theorem dX10_game_9 : decode cX10_game 9 = .ok (.iload_n 3, 1) := by decide +kernel
theorem dX10_game_10 : decode cX10_game 10 = .ok (.iconst 1, 1) := by decide +kernel
theorem dX10_game_11 : decode cX10_game 11 = .ok (.iconst 4, 1) := by decide +kernel
theorem dX10_game_12 : decode cX10_game 12 = .ok (.invokestatic 85, 3) := by decide +kernel
theorem dX10_game_15 : decode cX10_game 15 = .ok (.ifCond .eq 13, 3) := by decide +kernel
theorem dX10_game_18 : decode cX10_game 18 = .ok (.iload 4, 2) := by decide +kernel
theorem dX10_game_20 : decode cX10_game 20 = .ok (.iconst 0, 1) := by decide +kernel
theorem dX10_game_21 : decode cX10_game 21 = .ok (.iconst 1, 1) := by decide +kernel
theorem dX10_game_22 : decode cX10_game 22 = .ok (.invokestatic 85, 3) := by decide +kernel
theorem dX10_game_25 : decode cX10_game 25 = .ok (.ifCond .ne 6, 3) := by decide +kernel
theorem dX10_game_28 : decode cX10_game 28 = .ok (.ldc 241, 2) := by decide +kernel
theorem dX10_game_30 : decode cX10_game 30 = .ok (.ireturn, 1) := by decide +kernel
theorem dX10_game_31 : decode cX10_game 31 = .ok (.aload_n 0, 1) := by decide +kernel
theorem dX10_game_32 : decode cX10_game 32 = .ok (.getfield 73, 3) := by decide +kernel
theorem dX10_game_35 : decode cX10_game 35 = .ok (.iload_n 1, 1) := by decide +kernel
theorem dX10_game_36 : decode cX10_game 36 = .ok (.iload_n 2, 1) := by decide +kernel
theorem dX10_game_37 : decode cX10_game 37 = .ok (.iload_n 3, 1) := by decide +kernel
theorem dX10_game_38 : decode cX10_game 38 = .ok (.invokevirtual 249, 3) := by decide +kernel
theorem dX10_game_41 : decode cX10_game 41 = .ok (.iload 4, 2) := by decide +kernel
theorem dX10_game_43 : decode cX10_game 43 = .ok (.ifCond .ne 13, 3) := by decide +kernel
theorem dX10_game_46 : decode cX10_game 46 = .ok (.aload_n 0, 1) := by decide +kernel
theorem dX10_game_47 : decode cX10_game 47 = .ok (.getfield 73, 3) := by decide +kernel
theorem dX10_game_50 : decode cX10_game 50 = .ok (.getfield 222, 3) := by decide +kernel
theorem dX10_game_53 : decode cX10_game 53 = .ok (.goto 10, 3) := by decide +kernel
theorem dX10_game_56 : decode cX10_game 56 = .ok (.aload_n 0, 1) := by decide +kernel
theorem dX10_game_57 : decode cX10_game 57 = .ok (.getfield 73, 3) := by decide +kernel
theorem dX10_game_60 : decode cX10_game 60 = .ok (.getfield 234, 3) := by decide +kernel
theorem dX10_game_63 : decode cX10_game 63 = .ok (.ireturn, 1) := by decide +kernel
theorem dX10_shun_0 : decode cX10_shun 0 = .ok (.aload_n 0, 1) := by decide +kernel
theorem dX10_shun_1 : decode cX10_shun 1 = .ok (.iload_n 1, 1) := by decide +kernel
theorem dX10_shun_2 : decode cX10_shun 2 = .ok (.invokevirtual 228, 3) := by decide +kernel
theorem dX10_shun_5 : decode cX10_shun 5 = .ok (.ifCond .eq 12, 3) := by decide +kernel
theorem dX10_shun_8 : decode cX10_shun 8 = .ok (.iload_n 2, 1) := by decide +kernel
theorem dX10_shun_9 : decode cX10_shun 9 = .ok (.iconst 0, 1) := by decide +kernel
theorem dX10_shun_10 : decode cX10_shun 10 = .ok (.iconst 2, 1) := by decide +kernel
theorem dX10_shun_11 : decode cX10_shun 11 = .ok (.invokestatic 85, 3) := by decide +kernel
theorem dX10_shun_14 : decode cX10_shun 14 = .ok (.ifCond .ne 5, 3) := by decide +kernel
theorem dX10_shun_17 : decode cX10_shun 17 = .ok (.iconst (-1), 1) := by decide +kernel
theorem dX10_shun_18 : decode cX10_shun 18 = .ok (.ireturn, 1) := by decide +kernel
theorem dX10_shun_19 : decode cX10_shun 19 = .ok (.aload_n 0, 1) := by decide +kernel
theorem dX10_shun_20 : decode cX10_shun 20 = .ok (.getfield 73, 3) := by decide +kernel
theorem dX10_shun_23 : decode cX10_shun 23 = .ok (.iload_n 1, 1) := by decide +kernel
theorem dX10_shun_24 : decode cX10_shun 24 = .ok (.invokevirtual 252, 3) := by decide +kernel
theorem dX10_shun_27 : decode cX10_shun 27 = .ok (.iload_n 2, 1) := by decide +kernel
theorem dX10_shun_28 : decode cX10_shun 28 = .ok (.lookupswitch 47 #[(0, 28), (1, 39)], 28) := by decide +kernel
theorem dX10_shun_56 : decode cX10_shun 56 = .ok (.aload_n 0, 1) := by decide +kernel
theorem dX10_shun_57 : decode cX10_shun 57 = .ok (.getfield 73, 3) := by decide +kernel
theorem dX10_shun_60 : decode cX10_shun 60 = .ok (.getfield 234, 3) := by decide +kernel
theorem dX10_shun_63 : decode cX10_shun 63 = .ok (.invokestatic 255, 3) := by decide +kernel
theorem dX10_shun_66 : decode cX10_shun 66 = .ok (.ireturn, 1) := by decide +kernel
theorem dX10_shun_67 : decode cX10_shun 67 = .ok (.aload_n 0, 1) := by decide +kernel
theorem dX10_shun_68 : decode cX10_shun 68 = .ok (.getfield 73, 3) := by decide +kernel
theorem dX10_shun_71 : decode cX10_shun 71 = .ok (.getfield 234, 3) := by decide +kernel
theorem dX10_shun_74 : decode cX10_shun 74 = .ok (.ireturn, 1) := by decide +kernel
theorem dX10_shun_75 : decode cX10_shun 75 = .ok (.aload_n 0, 1) := by decide +kernel
theorem dX10_shun_76 : decode cX10_shun 76 = .ok (.getfield 73, 3) := by decide +kernel
theorem dX10_shun_79 : decode cX10_shun 79 = .ok (.getfield 222, 3) := by decide +kernel
theorem dX10_shun_82 : decode cX10_shun 82 = .ok (.ireturn, 1) := by decide +kernel
theorem dX10_mother_0 : decode cX10_mother 0 = .ok (.aload_n 0, 1) := by decide +kernel
theorem dX10_mother_1 : decode cX10_mother 1 = .ok (.iload_n 1, 1) := by decide +kernel
theorem dX10_mother_2 : decode cX10_mother 2 = .ok (.invokevirtual 228, 3) := by decide +kernel
theorem dX10_mother_5 : decode cX10_mother 5 = .ok (.ifCond .eq 12, 3) := by decide +kernel
theorem dX10_mother_8 : decode cX10_mother 8 = .ok (.iload_n 2, 1) := by decide +kernel
theorem dX10_mother_9 : decode cX10_mother 9 = .ok (.iconst 0, 1) := by decide +kernel
theorem dX10_mother_10 : decode cX10_mother 10 = .ok (.iconst 1, 1) := by decide +kernel
theorem dX10_mother_11 : decode cX10_mother 11 = .ok (.invokestatic 85, 3) := by decide +kernel
theorem dX10_mother_14 : decode cX10_mother 14 = .ok (.ifCond .ne 6, 3) := by decide +kernel
theorem dX10_mother_17 : decode cX10_mother 17 = .ok (.bipush (-2), 2) := by decide +kernel
theorem dX10_mother_19 : decode cX10_mother 19 = .ok (.ireturn, 1) := by decide +kernel
theorem dX10_mother_20 : decode cX10_mother 20 = .ok (.aload_n 0, 1) := by decide +kernel
theorem dX10_mother_21 : decode cX10_mother 21 = .ok (.getfield 73, 3) := by decide +kernel
theorem dX10_mother_24 : decode cX10_mother 24 = .ok (.iload_n 1, 1) := by decide +kernel
theorem dX10_mother_25 : decode cX10_mother 25 = .ok (.invokevirtual 260, 3) := by decide +kernel
theorem dX10_mother_28 : decode cX10_mother 28 = .ok (.iload_n 2, 1) := by decide +kernel
theorem dX10_mother_29 : decode cX10_mother 29 = .ok (.ifCond .ne 13, 3) := by decide +kernel
theorem dX10_mother_32 : decode cX10_mother 32 = .ok (.aload_n 0, 1) := by decide +kernel
theorem dX10_mother_33 : decode cX10_mother 33 = .ok (.getfield 73, 3) := by decide +kernel
theorem dX10_mother_36 : decode cX10_mother 36 = .ok (.getfield 234, 3) := by decide +kernel
theorem dX10_mother_39 : decode cX10_mother 39 = .ok (.goto 10, 3) := by decide +kernel
theorem dX10_mother_42 : decode cX10_mother 42 = .ok (.aload_n 0, 1) := by decide +kernel
theorem dX10_mother_43 : decode cX10_mother 43 = .ok (.getfield 73, 3) := by decide +kernel
theorem dX10_mother_46 : decode cX10_mother 46 = .ok (.getfield 222, 3) := by decide +kernel
theorem dX10_mother_49 : decode cX10_mother 49 = .ok (.ireturn, 1) := by decide +kernel
theorem dX10_parts_0 : decode cX10_parts 0 = .ok (.aload_n 0, 1) := by decide +kernel
theorem dX10_parts_1 : decode cX10_parts 1 = .ok (.iload_n 2, 1) := by decide +kernel
theorem dX10_parts_2 : decode cX10_parts 2 = .ok (.invokevirtual 118, 3) := by decide +kernel
theorem dX10_parts_5 : decode cX10_parts 5 = .ok (.ifCond .eq 14, 3) := by decide +kernel
theorem dX10_parts_8 : decode cX10_parts 8 = .ok (.iload_n 1, 1) := by decide +kernel
theorem dX10_parts_9 : decode cX10_parts 9 = .ok (.iconst 0, 1) := by decide +kernel
theorem dX10_parts_10 : decode cX10_parts 10 = .ok (.sipush 9999, 3) := by decide +kernel
theorem dX10_parts_13 : decode cX10_parts 13 = .ok (.invokestatic 85, 3) := by decide +kernel
theorem dX10_parts_16 : decode cX10_parts 16 = .ok (.ifCond .ne 5, 3) := by decide +kernel
theorem dX10_parts_19 : decode cX10_parts 19 = .ok (.iconst (-1), 1) := by decide +kernel
theorem dX10_parts_20 : decode cX10_parts 20 = .ok (.ireturn, 1) := by decide +kernel
theorem dX10_parts_21 : decode cX10_parts 21 = .ok (.aload_n 0, 1) := by decide +kernel
theorem dX10_parts_22 : decode cX10_parts 22 = .ok (.getfield 49, 3) := by decide +kernel
theorem dX10_parts_25 : decode cX10_parts 25 = .ok (.getfield 122, 3) := by decide +kernel
theorem dX10_parts_28 : decode cX10_parts 28 = .ok (.iload_n 1, 1) := by decide +kernel
theorem dX10_parts_29 : decode cX10_parts 29 = .ok (.iload_n 2, 1) := by decide +kernel
theorem dX10_parts_30 : decode cX10_parts 30 = .ok (.invokevirtual 263, 3) := by decide +kernel
theorem dX10_parts_33 : decode cX10_parts 33 = .ok (.ireturn, 1) := by decide +kernel
theorem dX10_note_0 : decode cX10_note 0 = .ok (.iload_n 1, 1) := by decide +kernel
theorem dX10_note_1 : decode cX10_note 1 = .ok (.iconst (-1), 1) := by decide +kernel
theorem dX10_note_2 : decode cX10_note 2 = .ok (.if_icmp .ne 13, 3) := by decide +kernel
theorem dX10_note_5 : decode cX10_note 5 = .ok (.aload_n 0, 1) := by decide +kernel
theorem dX10_note_6 : decode cX10_note 6 = .ok (.getfield 49, 3) := by decide +kernel
theorem dX10_note_9 : decode cX10_note 9 = .ok (.iconst 0, 1) := by decide +kernel
theorem dX10_note_10 : decode cX10_note 10 = .ok (.putfield 266, 3) := by decide +kernel
theorem dX10_note_13 : decode cX10_note 13 = .ok (.iconst 0, 1) := by decide +kernel
theorem dX10_note_14 : decode cX10_note 14 = .ok (.ireturn, 1) := by decide +kernel
theorem dX10_note_15 : decode cX10_note 15 = .ok (.iload_n 1, 1) := by decide +kernel
theorem dX10_note_16 : decode cX10_note 16 = .ok (.iconst 0, 1) := by decide +kernel
theorem dX10_note_17 : decode cX10_note 17 = .ok (.bipush 60, 2) := by decide +kernel
theorem dX10_note_19 : decode cX10_note 19 = .ok (.invokestatic 85, 3) := by decide +kernel
theorem dX10_note_22 : decode cX10_note 22 = .ok (.ifCond .eq 16, 3) := by decide +kernel
theorem dX10_note_25 : decode cX10_note 25 = .ok (.aload_n 0, 1) := by decide +kernel
theorem dX10_note_26 : decode cX10_note 26 = .ok (.iload_n 2, 1) := by decide +kernel
theorem dX10_note_27 : decode cX10_note 27 = .ok (.invokevirtual 118, 3) := by decide +kernel
theorem dX10_note_30 : decode cX10_note 30 = .ok (.ifCond .eq 8, 3) := by decide +kernel
theorem dX10_note_33 : decode cX10_note 33 = .ok (.iload_n 2, 1) := by decide +kernel
theorem dX10_note_34 : decode cX10_note 34 = .ok (.iload_n 3, 1) := by decide +kernel
theorem dX10_note_35 : decode cX10_note 35 = .ok (.if_icmp .ne 6, 3) := by decide +kernel
theorem dX10_note_38 : decode cX10_note 38 = .ok (.bipush (-2), 2) := by decide +kernel
theorem dX10_note_40 : decode cX10_note 40 = .ok (.ireturn, 1) := by decide +kernel
theorem dX10_note_41 : decode cX10_note 41 = .ok (.iload_n 3, 1) := by decide +kernel
theorem dX10_note_42 : decode cX10_note 42 = .ok (.iconst (-1), 1) := by decide +kernel
theorem dX10_note_43 : decode cX10_note 43 = .ok (.if_icmp .eq 14, 3) := by decide +kernel
theorem dX10_note_46 : decode cX10_note 46 = .ok (.aload_n 0, 1) := by decide +kernel
theorem dX10_note_47 : decode cX10_note 47 = .ok (.iload_n 3, 1) := by decide +kernel
theorem dX10_note_48 : decode cX10_note 48 = .ok (.invokevirtual 118, 3) := by decide +kernel
theorem dX10_note_51 : decode cX10_note 51 = .ok (.ifCond .ne 6, 3) := by decide +kernel
theorem dX10_note_54 : decode cX10_note 54 = .ok (.bipush (-2), 2) := by decide +kernel
theorem dX10_note_56 : decode cX10_note 56 = .ok (.ireturn, 1) := by decide +kernel
theorem dX10_note_57 : decode cX10_note 57 = .ok (.aload_n 0, 1) := by decide +kernel
theorem dX10_note_58 : decode cX10_note 58 = .ok (.getfield 49, 3) := by decide +kernel
theorem dX10_note_61 : decode cX10_note 61 = .ok (.iload_n 1, 1) := by decide +kernel
theorem dX10_note_62 : decode cX10_note 62 = .ok (.iload_n 2, 1) := by decide +kernel
theorem dX10_note_63 : decode cX10_note 63 = .ok (.iload_n 3, 1) := by decide +kernel
theorem dX10_note_64 : decode cX10_note 64 = .ok (.invokevirtual 269, 3) := by decide +kernel
theorem dX10_note_67 : decode cX10_note 67 = .ok (.ifCond .eq 13, 3) := by decide +kernel
theorem dX10_note_70 : decode cX10_note 70 = .ok (.aload_n 0, 1) := by decide +kernel
theorem dX10_note_71 : decode cX10_note 71 = .ok (.getfield 49, 3) := by decide +kernel
theorem dX10_note_74 : decode cX10_note 74 = .ok (.getfield 266, 3) := by decide +kernel
theorem dX10_note_77 : decode cX10_note 77 = .ok (.goto 5, 3) := by decide +kernel
theorem dX10_note_80 : decode cX10_note 80 = .ok (.bipush (-2), 2) := by decide +kernel
theorem dX10_note_82 : decode cX10_note 82 = .ok (.ireturn, 1) := by decide +kernel
theorem dX10_ruled_0 : decode cX10_ruled 0 = .ok (.aload_n 0, 1) := by decide +kernel
theorem dX10_ruled_1 : decode cX10_ruled 1 = .ok (.getfield 49, 3) := by decide +kernel
theorem dX10_ruled_4 : decode cX10_ruled 4 = .ok (.getfield 103, 3) := by decide +kernel
theorem dX10_ruled_7 : decode cX10_ruled 7 = .ok (.getfield 152, 3) := by decide +kernel
theorem dX10_ruled_10 : decode cX10_ruled 10 = .ok (.ifCond .eq 12, 3) := by decide +kernel
theorem dX10_ruled_13 : decode cX10_ruled 13 = .ok (.iload_n 1, 1) := by decide +kernel
theorem dX10_ruled_14 : decode cX10_ruled 14 = .ok (.iconst 0, 1) := by decide +kernel
theorem dX10_ruled_15 : decode cX10_ruled 15 = .ok (.iconst 1, 1) := by decide +kernel
theorem dX10_ruled_16 : decode cX10_ruled 16 = .ok (.invokestatic 85, 3) := by decide +kernel
theorem dX10_ruled_19 : decode cX10_ruled 19 = .ok (.ifCond .ne 6, 3) := by decide +kernel
theorem dX10_ruled_22 : decode cX10_ruled 22 = .ok (.bipush (-3), 2) := by decide +kernel
theorem dX10_ruled_24 : decode cX10_ruled 24 = .ok (.ireturn, 1) := by decide +kernel
theorem dX10_ruled_25 : decode cX10_ruled 25 = .ok (.aload_n 0, 1) := by decide +kernel
theorem dX10_ruled_26 : decode cX10_ruled 26 = .ok (.getfield 73, 3) := by decide +kernel
theorem dX10_ruled_29 : decode cX10_ruled 29 = .ok (.aload_n 0, 1) := by decide +kernel
theorem dX10_ruled_30 : decode cX10_ruled 30 = .ok (.getfield 109, 3) := by decide +kernel
theorem dX10_ruled_33 : decode cX10_ruled 33 = .ok (.iconst (-1), 1) := by decide +kernel
theorem dX10_ruled_34 : decode cX10_ruled 34 = .ok (.invokevirtual 272, 3) := by decide +kernel
theorem dX10_ruled_37 : decode cX10_ruled 37 = .ok (.iload_n 1, 1) := by decide +kernel
