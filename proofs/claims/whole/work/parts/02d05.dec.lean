theorem dX11_tableClause_12 : decode cX11_tableClause 12 = .ok (.iconst 3, 1) := by decide +kernel
theorem dX11_tableClause_13 : decode cX11_tableClause 13 = .ok (.if_icmp .ge 20, 3) := by decide +kernel
theorem dX11_tableClause_16 : decode cX11_tableClause 16 = .ok (.aload_n 0, 1) := by decide +kernel
theorem dX11_tableClause_17 : decode cX11_tableClause 17 = .ok (.iload_n 3, 1) := by decide +kernel
theorem dX11_tableClause_18 : decode cX11_tableClause 18 = .ok (.invokestatic 269, 3) := by decide +kernel
theorem dX11_tableClause_21 : decode cX11_tableClause 21 = .ok (.invokevirtual 191, 3) := by decide +kernel
theorem dX11_tableClause_24 : decode cX11_tableClause 24 = .ok (.ifCond .ne 9, 3) := by decide +kernel
theorem dX11_tableClause_27 : decode cX11_tableClause 27 = .ok (.iinc 3 1, 3) := by decide +kernel
theorem dX11_tableClause_30 : decode cX11_tableClause 30 = .ok (.goto (-19), 3) := by decide +kernel
theorem dX11_tableClause_33 : decode cX11_tableClause 33 = .ok (.iload_n 3, 1) := by decide +kernel
theorem dX11_tableClause_34 : decode cX11_tableClause 34 = .ok (.iconst 3, 1) := by decide +kernel
theorem dX11_tableClause_35 : decode cX11_tableClause 35 = .ok (.if_icmp .ne 10, 3) := by decide +kernel
theorem dX11_tableClause_38 : decode cX11_tableClause 38 = .ok (.aload_n 0, 1) := by decide +kernel
theorem dX11_tableClause_39 : decode cX11_tableClause 39 = .ok (.iconst 0, 1) := by decide +kernel
theorem dX11_tableClause_40 : decode cX11_tableClause 40 = .ok (.iload_n 2, 1) := by decide +kernel
theorem dX11_tableClause_41 : decode cX11_tableClause 41 = .ok (.invokevirtual 204, 3) := by decide +kernel
theorem dX11_tableClause_44 : decode cX11_tableClause 44 = .ok (.return_, 1) := by decide +kernel
theorem dX11_tableClause_45 : decode cX11_tableClause 45 = .ok (.aload_n 0, 1) := by decide +kernel
theorem dX11_tableClause_46 : decode cX11_tableClause 46 = .ok (.iload_n 3, 1) := by decide +kernel
theorem dX11_tableClause_47 : decode cX11_tableClause 47 = .ok (.iload_n 1, 1) := by decide +kernel
theorem dX11_tableClause_48 : decode cX11_tableClause 48 = .ok (.invokevirtual 272, 3) := by decide +kernel
theorem dX11_tableClause_51 : decode cX11_tableClause 51 = .ok (.ifCond .eq 10, 3) := by decide +kernel
theorem dX11_tableClause_54 : decode cX11_tableClause 54 = .ok (.aload_n 0, 1) := by decide +kernel
theorem dX11_tableClause_55 : decode cX11_tableClause 55 = .ok (.iconst 4, 1) := by decide +kernel
theorem dX11_tableClause_56 : decode cX11_tableClause 56 = .ok (.iload_n 2, 1) := by decide +kernel
theorem dX11_tableClause_57 : decode cX11_tableClause 57 = .ok (.invokevirtual 204, 3) := by decide +kernel
theorem dX11_tableClause_60 : decode cX11_tableClause 60 = .ok (.return_, 1) := by decide +kernel
theorem dX11_tableClause_61 : decode cX11_tableClause 61 = .ok (.aload_n 0, 1) := by decide +kernel
theorem dX11_tableClause_62 : decode cX11_tableClause 62 = .ok (.dup, 1) := by decide +kernel
theorem dX11_tableClause_63 : decode cX11_tableClause 63 = .ok (.getfield 168, 3) := by decide +kernel
theorem dX11_tableClause_66 : decode cX11_tableClause 66 = .ok (.iload_n 3, 1) := by decide +kernel
theorem dX11_tableClause_67 : decode cX11_tableClause 67 = .ok (.invokestatic 269, 3) := by decide +kernel
theorem dX11_tableClause_70 : decode cX11_tableClause 70 = .ok (.invokevirtual 179, 3) := by decide +kernel
theorem dX11_tableClause_73 : decode cX11_tableClause 73 = .ok (.iadd, 1) := by decide +kernel
theorem dX11_tableClause_74 : decode cX11_tableClause 74 = .ok (.putfield 168, 3) := by decide +kernel
theorem dX11_tableClause_77 : decode cX11_tableClause 77 = .ok (.aload_n 0, 1) := by decide +kernel
theorem dX11_tableClause_78 : decode cX11_tableClause 78 = .ok (.iload_n 3, 1) := by decide +kernel
theorem dX11_tableClause_79 : decode cX11_tableClause 79 = .ok (.invokevirtual 276, 3) := by decide +kernel
theorem dX11_tableClause_82 : decode cX11_tableClause 82 = .ok (.return_, 1) := by decide +kernel
theorem dX11_copies_0 : decode cX11_copies 0 = .ok (.iconst 0, 1) := by decide +kernel
theorem dX11_copies_1 : decode cX11_copies 1 = .ok (.istore_n 2, 1) := by decide +kernel
theorem dX11_copies_2 : decode cX11_copies 2 = .ok (.iload_n 2, 1) := by decide +kernel
theorem dX11_copies_3 : decode cX11_copies 3 = .ok (.aload_n 0, 1) := by decide +kernel
theorem dX11_copies_4 : decode cX11_copies 4 = .ok (.arraylength, 1) := by decide +kernel
theorem dX11_copies_5 : decode cX11_copies 5 = .ok (.if_icmp .ge 15, 3) := by decide +kernel
theorem dX11_copies_8 : decode cX11_copies 8 = .ok (.aload_n 1, 1) := by decide +kernel
theorem dX11_copies_9 : decode cX11_copies 9 = .ok (.iload_n 2, 1) := by decide +kernel
theorem dX11_copies_10 : decode cX11_copies 10 = .ok (.aload_n 0, 1) := by decide +kernel
theorem dX11_copies_11 : decode cX11_copies 11 = .ok (.iload_n 2, 1) := by decide +kernel
theorem dX11_copies_12 : decode cX11_copies 12 = .ok (.iaload, 1) := by decide +kernel
theorem dX11_copies_13 : decode cX11_copies 13 = .ok (.iastore, 1) := by decide +kernel
theorem dX11_copies_14 : decode cX11_copies 14 = .ok (.iinc 2 1, 3) := by decide +kernel
theorem dX11_copies_17 : decode cX11_copies 17 = .ok (.goto (-15), 3) := by decide +kernel
theorem dX11_copies_20 : decode cX11_copies 20 = .ok (.return_, 1) := by decide +kernel
theorem dX11_goesOn_0 : decode cX11_goesOn 0 = .ok (.aload_n 0, 1) := by decide +kernel
theorem dX11_goesOn_1 : decode cX11_goesOn 1 = .ok (.invokevirtual 188, 3) := by decide +kernel
theorem dX11_goesOn_4 : decode cX11_goesOn 4 = .ok (.aload_n 0, 1) := by decide +kernel
theorem dX11_goesOn_5 : decode cX11_goesOn 5 = .ok (.getfield 165, 3) := by decide +kernel
theorem dX11_goesOn_8 : decode cX11_goesOn 8 = .ok (.ifCond .ne 32, 3) := by decide +kernel
theorem dX11_goesOn_11 : decode cX11_goesOn 11 = .ok (.aload_n 0, 1) := by decide +kernel
theorem dX11_goesOn_12 : decode cX11_goesOn 12 = .ok (.getfield 168, 3) := by decide +kernel
theorem dX11_goesOn_15 : decode cX11_goesOn 15 = .ok (.aload_n 0, 1) := by decide +kernel
theorem dX11_goesOn_16 : decode cX11_goesOn 16 = .ok (.getfield 138, 3) := by decide +kernel
theorem dX11_goesOn_19 : decode cX11_goesOn 19 = .ok (.if_icmp .ge 21, 3) := by decide +kernel
theorem dX11_goesOn_22 : decode cX11_goesOn 22 = .ok (.aload_n 0, 1) := by decide +kernel
theorem dX11_goesOn_23 : decode cX11_goesOn 23 = .ok (.invokevirtual 171, 3) := by decide +kernel
theorem dX11_goesOn_26 : decode cX11_goesOn 26 = .ok (.bipush 59, 2) := by decide +kernel
theorem dX11_goesOn_28 : decode cX11_goesOn 28 = .ok (.if_icmp .eq 12, 3) := by decide +kernel
theorem dX11_goesOn_31 : decode cX11_goesOn 31 = .ok (.aload_n 0, 1) := by decide +kernel
theorem dX11_goesOn_32 : decode cX11_goesOn 32 = .ok (.iconst 0, 1) := by decide +kernel
theorem dX11_goesOn_33 : decode cX11_goesOn 33 = .ok (.aload_n 0, 1) := by decide +kernel
theorem dX11_goesOn_34 : decode cX11_goesOn 34 = .ok (.getfield 168, 3) := by decide +kernel
theorem dX11_goesOn_37 : decode cX11_goesOn 37 = .ok (.invokevirtual 204, 3) := by decide +kernel
theorem dX11_goesOn_40 : decode cX11_goesOn 40 = .ok (.aload_n 0, 1) := by decide +kernel
theorem dX11_goesOn_41 : decode cX11_goesOn 41 = .ok (.getfield 165, 3) := by decide +kernel
theorem dX11_goesOn_44 : decode cX11_goesOn 44 = .ok (.ifCond .ne 18, 3) := by decide +kernel
theorem dX11_goesOn_47 : decode cX11_goesOn 47 = .ok (.aload_n 0, 1) := by decide +kernel
theorem dX11_goesOn_48 : decode cX11_goesOn 48 = .ok (.getfield 168, 3) := by decide +kernel
theorem dX11_goesOn_51 : decode cX11_goesOn 51 = .ok (.aload_n 0, 1) := by decide +kernel
theorem dX11_goesOn_52 : decode cX11_goesOn 52 = .ok (.getfield 138, 3) := by decide +kernel
theorem dX11_goesOn_55 : decode cX11_goesOn 55 = .ok (.if_icmp .ge 7, 3) := by decide +kernel
theorem dX11_goesOn_58 : decode cX11_goesOn 58 = .ok (.iconst 1, 1) := by decide +kernel
theorem dX11_goesOn_59 : decode cX11_goesOn 59 = .ok (.goto 4, 3) := by decide +kernel
theorem dX11_goesOn_62 : decode cX11_goesOn 62 = .ok (.iconst 0, 1) := by decide +kernel
theorem dX11_goesOn_63 : decode cX11_goesOn 63 = .ok (.istore_n 1, 1) := by decide +kernel
theorem dX11_goesOn_64 : decode cX11_goesOn 64 = .ok (.aload_n 0, 1) := by decide +kernel
theorem dX11_goesOn_65 : decode cX11_goesOn 65 = .ok (.dup, 1) := by decide +kernel
theorem dX11_goesOn_66 : decode cX11_goesOn 66 = .ok (.getfield 168, 3) := by decide +kernel
theorem dX11_goesOn_69 : decode cX11_goesOn 69 = .ok (.iconst 1, 1) := by decide +kernel
theorem dX11_goesOn_70 : decode cX11_goesOn 70 = .ok (.iadd, 1) := by decide +kernel
theorem dX11_goesOn_71 : decode cX11_goesOn 71 = .ok (.putfield 168, 3) := by decide +kernel
theorem dX11_goesOn_74 : decode cX11_goesOn 74 = .ok (.iload_n 1, 1) := by decide +kernel
theorem dX11_goesOn_75 : decode cX11_goesOn 75 = .ok (.ireturn, 1) := by decide +kernel
theorem dX11_starts_0 : decode cX11_starts 0 = .ok (.aload_n 0, 1) := by decide +kernel
theorem dX11_starts_1 : decode cX11_starts 1 = .ok (.iconst 0, 1) := by decide +kernel
theorem dX11_starts_2 : decode cX11_starts 2 = .ok (.putfield 168, 3) := by decide +kernel
theorem dX11_starts_5 : decode cX11_starts 5 = .ok (.aload_n 0, 1) := by decide +kernel
theorem dX11_starts_6 : decode cX11_starts 6 = .ok (.iconst 0, 1) := by decide +kernel
theorem dX11_starts_7 : decode cX11_starts 7 = .ok (.putfield 165, 3) := by decide +kernel
theorem dX11_starts_10 : decode cX11_starts 10 = .ok (.aload_n 0, 1) := by decide +kernel
theorem dX11_starts_11 : decode cX11_starts 11 = .ok (.iconst 0, 1) := by decide +kernel
theorem dX11_starts_12 : decode cX11_starts 12 = .ok (.putfield 198, 3) := by decide +kernel
theorem dX11_starts_15 : decode cX11_starts 15 = .ok (.aload_n 0, 1) := by decide +kernel
theorem dX11_starts_16 : decode cX11_starts 16 = .ok (.iconst 0, 1) := by decide +kernel
theorem dX11_starts_17 : decode cX11_starts 17 = .ok (.putfield 239, 3) := by decide +kernel
theorem dX11_starts_20 : decode cX11_starts 20 = .ok (.aload_n 0, 1) := by decide +kernel
theorem dX11_starts_21 : decode cX11_starts 21 = .ok (.iconst 0, 1) := by decide +kernel
theorem dX11_starts_22 : decode cX11_starts 22 = .ok (.putfield 201, 3) := by decide +kernel
theorem dX11_starts_25 : decode cX11_starts 25 = .ok (.return_, 1) := by decide +kernel
theorem dX11_readsAll_0 : decode cX11_readsAll 0 = .ok (.aload_n 0, 1) := by decide +kernel
theorem dX11_readsAll_1 : decode cX11_readsAll 1 = .ok (.invokevirtual 279, 3) := by decide +kernel
theorem dX11_readsAll_4 : decode cX11_readsAll 4 = .ok (.iconst 0, 1) := by decide +kernel
theorem dX11_readsAll_5 : decode cX11_readsAll 5 = .ok (.istore_n 1, 1) := by decide +kernel
theorem dX11_readsAll_6 : decode cX11_readsAll 6 = .ok (.iload_n 1, 1) := by decide +kernel
theorem dX11_readsAll_7 : decode cX11_readsAll 7 = .ok (.iconst 3, 1) := by decide +kernel
theorem dX11_readsAll_8 : decode cX11_readsAll 8 = .ok (.if_icmp .ge 16, 3) := by decide +kernel
theorem dX11_readsAll_11 : decode cX11_readsAll 11 = .ok (.aload_n 0, 1) := by decide +kernel
theorem dX11_readsAll_12 : decode cX11_readsAll 12 = .ok (.getfield 49, 3) := by decide +kernel
theorem dX11_readsAll_15 : decode cX11_readsAll 15 = .ok (.iload_n 1, 1) := by decide +kernel
theorem dX11_readsAll_16 : decode cX11_readsAll 16 = .ok (.iconst 0, 1) := by decide +kernel
theorem dX11_readsAll_17 : decode cX11_readsAll 17 = .ok (.iastore, 1) := by decide +kernel
theorem dX11_readsAll_18 : decode cX11_readsAll 18 = .ok (.iinc 1 1, 3) := by decide +kernel
theorem dX11_readsAll_21 : decode cX11_readsAll 21 = .ok (.goto (-15), 3) := by decide +kernel
theorem dX11_readsAll_24 : decode cX11_readsAll 24 = .ok (.iconst 0, 1) := by decide +kernel
theorem dX11_readsAll_25 : decode cX11_readsAll 25 = .ok (.istore_n 1, 1) := by decide +kernel
theorem dX11_readsAll_26 : decode cX11_readsAll 26 = .ok (.iload_n 1, 1) := by decide +kernel
theorem dX11_readsAll_27 : decode cX11_readsAll 27 = .ok (.aload_n 0, 1) := by decide +kernel
theorem dX11_readsAll_28 : decode cX11_readsAll 28 = .ok (.getfield 61, 3) := by decide +kernel
theorem dX11_readsAll_31 : decode cX11_readsAll 31 = .ok (.arraylength, 1) := by decide +kernel
theorem dX11_readsAll_32 : decode cX11_readsAll 32 = .ok (.if_icmp .ge 16, 3) := by decide +kernel
theorem dX11_readsAll_35 : decode cX11_readsAll 35 = .ok (.aload_n 0, 1) := by decide +kernel
theorem dX11_readsAll_36 : decode cX11_readsAll 36 = .ok (.getfield 61, 3) := by decide +kernel
theorem dX11_readsAll_39 : decode cX11_readsAll 39 = .ok (.iload_n 1, 1) := by decide +kernel
theorem dX11_readsAll_40 : decode cX11_readsAll 40 = .ok (.iconst 0, 1) := by decide +kernel
theorem dX11_readsAll_41 : decode cX11_readsAll 41 = .ok (.iastore, 1) := by decide +kernel
theorem dX11_readsAll_42 : decode cX11_readsAll 42 = .ok (.iinc 1 1, 3) := by decide +kernel
theorem dX11_readsAll_45 : decode cX11_readsAll 45 = .ok (.goto (-19), 3) := by decide +kernel
theorem dX11_readsAll_48 : decode cX11_readsAll 48 = .ok (.iconst 0, 1) := by decide +kernel
theorem dX11_readsAll_49 : decode cX11_readsAll 49 = .ok (.istore_n 1, 1) := by decide +kernel
theorem dX11_readsAll_50 : decode cX11_readsAll 50 = .ok (.iload_n 1, 1) := by decide +kernel
theorem dX11_readsAll_51 : decode cX11_readsAll 51 = .ok (.iconst 5, 1) := by decide +kernel
theorem dX11_readsAll_52 : decode cX11_readsAll 52 = .ok (.if_icmp .ge 30, 3) := by decide +kernel
theorem dX11_readsAll_55 : decode cX11_readsAll 55 = .ok (.aload_n 0, 1) := by decide +kernel
theorem dX11_readsAll_56 : decode cX11_readsAll 56 = .ok (.getfield 52, 3) := by decide +kernel
theorem dX11_readsAll_59 : decode cX11_readsAll 59 = .ok (.iload_n 1, 1) := by decide +kernel
theorem dX11_readsAll_60 : decode cX11_readsAll 60 = .ok (.iconst 0, 1) := by decide +kernel
theorem dX11_readsAll_61 : decode cX11_readsAll 61 = .ok (.iastore, 1) := by decide +kernel
theorem dX11_readsAll_62 : decode cX11_readsAll 62 = .ok (.aload_n 0, 1) := by decide +kernel
theorem dX11_readsAll_63 : decode cX11_readsAll 63 = .ok (.getfield 55, 3) := by decide +kernel
theorem dX11_readsAll_66 : decode cX11_readsAll 66 = .ok (.iload_n 1, 1) := by decide +kernel
theorem dX11_readsAll_67 : decode cX11_readsAll 67 = .ok (.iconst 0, 1) := by decide +kernel
theorem dX11_readsAll_68 : decode cX11_readsAll 68 = .ok (.iastore, 1) := by decide +kernel
theorem dX11_readsAll_69 : decode cX11_readsAll 69 = .ok (.aload_n 0, 1) := by decide +kernel
theorem dX11_readsAll_70 : decode cX11_readsAll 70 = .ok (.getfield 58, 3) := by decide +kernel
theorem dX11_readsAll_73 : decode cX11_readsAll 73 = .ok (.iload_n 1, 1) := by decide +kernel
theorem dX11_readsAll_74 : decode cX11_readsAll 74 = .ok (.iconst 0, 1) := by decide +kernel
theorem dX11_readsAll_75 : decode cX11_readsAll 75 = .ok (.iastore, 1) := by decide +kernel
theorem dX11_readsAll_76 : decode cX11_readsAll 76 = .ok (.iinc 1 1, 3) := by decide +kernel
theorem dX11_readsAll_79 : decode cX11_readsAll 79 = .ok (.goto (-29), 3) := by decide +kernel
theorem dX11_readsAll_82 : decode cX11_readsAll 82 = .ok (.iconst 0, 1) := by decide +kernel
theorem dX11_readsAll_83 : decode cX11_readsAll 83 = .ok (.istore_n 1, 1) := by decide +kernel
theorem dX11_readsAll_84 : decode cX11_readsAll 84 = .ok (.iconst 1, 1) := by decide +kernel
theorem dX11_readsAll_85 : decode cX11_readsAll 85 = .ok (.istore_n 2, 1) := by decide +kernel
theorem dX11_readsAll_86 : decode cX11_readsAll 86 = .ok (.iload_n 2, 1) := by decide +kernel
theorem dX11_readsAll_87 : decode cX11_readsAll 87 = .ok (.ifCond .eq 19, 3) := by decide +kernel
theorem dX11_readsAll_90 : decode cX11_readsAll 90 = .ok (.aload_n 0, 1) := by decide +kernel
theorem dX11_readsAll_91 : decode cX11_readsAll 91 = .ok (.iload_n 1, 1) := by decide +kernel
theorem dX11_readsAll_92 : decode cX11_readsAll 92 = .ok (.invokevirtual 282, 3) := by decide +kernel
theorem dX11_readsAll_95 : decode cX11_readsAll 95 = .ok (.iinc 1 1, 3) := by decide +kernel
theorem dX11_readsAll_98 : decode cX11_readsAll 98 = .ok (.aload_n 0, 1) := by decide +kernel
theorem dX11_readsAll_99 : decode cX11_readsAll 99 = .ok (.invokevirtual 285, 3) := by decide +kernel
theorem dX11_readsAll_102 : decode cX11_readsAll 102 = .ok (.istore_n 2, 1) := by decide +kernel
theorem dX11_readsAll_103 : decode cX11_readsAll 103 = .ok (.goto (-17), 3) := by decide +kernel
theorem dX11_readsAll_106 : decode cX11_readsAll 106 = .ok (.aload_n 0, 1) := by decide +kernel
theorem dX11_readsAll_107 : decode cX11_readsAll 107 = .ok (.iconst 0, 1) := by decide +kernel
theorem dX11_readsAll_108 : decode cX11_readsAll 108 = .ok (.putfield 138, 3) := by decide +kernel
theorem dX11_readsAll_111 : decode cX11_readsAll 111 = .ok (.return_, 1) := by decide +kernel
theorem dX11_begins_0 : decode cX11_begins 0 = .ok (.aload_n 0, 1) := by decide +kernel
theorem dX11_begins_1 : decode cX11_begins 1 = .ok (.getfield 40, 3) := by decide +kernel
theorem dX11_begins_4 : decode cX11_begins 4 = .ok (.aload_n 0, 1) := by decide +kernel
theorem dX11_begins_5 : decode cX11_begins 5 = .ok (.getfield 13, 3) := by decide +kernel
theorem dX11_begins_8 : decode cX11_begins 8 = .ok (.invokestatic 288, 3) := by decide +kernel
theorem dX11_begins_11 : decode cX11_begins 11 = .ok (.aload_n 0, 1) := by decide +kernel
theorem dX11_begins_12 : decode cX11_begins 12 = .ok (.getfield 43, 3) := by decide +kernel
theorem dX11_begins_15 : decode cX11_begins 15 = .ok (.aload_n 0, 1) := by decide +kernel
theorem dX11_begins_16 : decode cX11_begins 16 = .ok (.getfield 16, 3) := by decide +kernel
theorem dX11_begins_19 : decode cX11_begins 19 = .ok (.invokestatic 288, 3) := by decide +kernel
theorem dX11_begins_22 : decode cX11_begins 22 = .ok (.aload_n 0, 1) := by decide +kernel
theorem dX11_begins_23 : decode cX11_begins 23 = .ok (.getfield 46, 3) := by decide +kernel
theorem dX11_begins_26 : decode cX11_begins 26 = .ok (.aload_n 0, 1) := by decide +kernel
theorem dX11_begins_27 : decode cX11_begins 27 = .ok (.getfield 19, 3) := by decide +kernel
theorem dX11_begins_30 : decode cX11_begins 30 = .ok (.invokestatic 288, 3) := by decide +kernel
theorem dX11_begins_33 : decode cX11_begins 33 = .ok (.aload_n 0, 1) := by decide +kernel
theorem dX11_begins_34 : decode cX11_begins 34 = .ok (.getfield 9, 3) := by decide +kernel
theorem dX11_begins_37 : decode cX11_begins 37 = .ok (.iconst 3, 1) := by decide +kernel
theorem dX11_begins_38 : decode cX11_begins 38 = .ok (.aload_n 0, 1) := by decide +kernel
theorem dX11_begins_39 : decode cX11_begins 39 = .ok (.getfield 9, 3) := by decide +kernel
theorem dX11_begins_42 : decode cX11_begins 42 = .ok (.iconst 0, 1) := by decide +kernel
theorem dX11_begins_43 : decode cX11_begins 43 = .ok (.iaload, 1) := by decide +kernel
theorem dX11_begins_44 : decode cX11_begins 44 = .ok (.iastore, 1) := by decide +kernel
theorem dX11_begins_45 : decode cX11_begins 45 = .ok (.aload_n 0, 1) := by decide +kernel
theorem dX11_begins_46 : decode cX11_begins 46 = .ok (.getfield 9, 3) := by decide +kernel
theorem dX11_begins_49 : decode cX11_begins 49 = .ok (.iconst 4, 1) := by decide +kernel
theorem dX11_begins_50 : decode cX11_begins 50 = .ok (.iconst 0, 1) := by decide +kernel
theorem dX11_begins_51 : decode cX11_begins 51 = .ok (.iastore, 1) := by decide +kernel
theorem dX11_begins_52 : decode cX11_begins 52 = .ok (.aload_n 0, 1) := by decide +kernel
theorem dX11_begins_53 : decode cX11_begins 53 = .ok (.getfield 9, 3) := by decide +kernel
theorem dX11_begins_56 : decode cX11_begins 56 = .ok (.iconst 5, 1) := by decide +kernel
theorem dX11_begins_57 : decode cX11_begins 57 = .ok (.iconst 0, 1) := by decide +kernel
theorem dX11_begins_58 : decode cX11_begins 58 = .ok (.iastore, 1) := by decide +kernel
theorem dX11_begins_59 : decode cX11_begins 59 = .ok (.iconst 0, 1) := by decide +kernel
theorem dX11_begins_60 : decode cX11_begins 60 = .ok (.istore_n 1, 1) := by decide +kernel
theorem dX11_begins_61 : decode cX11_begins 61 = .ok (.iload_n 1, 1) := by decide +kernel
theorem dX11_begins_62 : decode cX11_begins 62 = .ok (.iconst 5, 1) := by decide +kernel
theorem dX11_begins_63 : decode cX11_begins 63 = .ok (.if_icmp .ge 23, 3) := by decide +kernel
theorem dX11_begins_66 : decode cX11_begins 66 = .ok (.aload_n 0, 1) := by decide +kernel
theorem dX11_begins_67 : decode cX11_begins 67 = .ok (.getfield 22, 3) := by decide +kernel
theorem dX11_begins_70 : decode cX11_begins 70 = .ok (.iload_n 1, 1) := by decide +kernel
theorem dX11_begins_71 : decode cX11_begins 71 = .ok (.iconst 0, 1) := by decide +kernel
theorem dX11_begins_72 : decode cX11_begins 72 = .ok (.iastore, 1) := by decide +kernel
theorem dX11_begins_73 : decode cX11_begins 73 = .ok (.aload_n 0, 1) := by decide +kernel
theorem dX11_begins_74 : decode cX11_begins 74 = .ok (.getfield 25, 3) := by decide +kernel
theorem dX11_begins_77 : decode cX11_begins 77 = .ok (.iload_n 1, 1) := by decide +kernel
theorem dX11_begins_78 : decode cX11_begins 78 = .ok (.iconst (-1), 1) := by decide +kernel
theorem dX11_begins_79 : decode cX11_begins 79 = .ok (.iastore, 1) := by decide +kernel
theorem dX11_begins_80 : decode cX11_begins 80 = .ok (.iinc 1 1, 3) := by decide +kernel
theorem dX11_begins_83 : decode cX11_begins 83 = .ok (.goto (-22), 3) := by decide +kernel
theorem dX11_begins_86 : decode cX11_begins 86 = .ok (.return_, 1) := by decide +kernel
theorem dX11_table_0 : decode cX11_table 0 = .ok (.aload_n 0, 1) := by decide +kernel
theorem dX11_table_1 : decode cX11_table 1 = .ok (.invokevirtual 292, 3) := by decide +kernel
theorem dX11_table_4 : decode cX11_table 4 = .ok (.aload_n 0, 1) := by decide +kernel
theorem dX11_table_5 : decode cX11_table 5 = .ok (.getfield 165, 3) := by decide +kernel
theorem dX11_table_8 : decode cX11_table 8 = .ok (.ifCond .le 11, 3) := by decide +kernel
theorem dX11_table_11 : decode cX11_table 11 = .ok (.bipush (-2), 2) := by decide +kernel
theorem dX11_table_13 : decode cX11_table 13 = .ok (.aload_n 0, 1) := by decide +kernel
theorem dX11_table_14 : decode cX11_table 14 = .ok (.getfield 165, 3) := by decide +kernel
theorem dX11_table_17 : decode cX11_table 17 = .ok (.isub, 1) := by decide +kernel
theorem dX11_table_18 : decode cX11_table 18 = .ok (.ireturn, 1) := by decide +kernel
theorem dX11_table_19 : decode cX11_table 19 = .ok (.iconst 0, 1) := by decide +kernel
theorem dX11_table_20 : decode cX11_table 20 = .ok (.istore_n 1, 1) := by decide +kernel
theorem dX11_table_21 : decode cX11_table 21 = .ok (.iload_n 1, 1) := by decide +kernel
theorem dX11_table_22 : decode cX11_table 22 = .ok (.iconst 3, 1) := by decide +kernel
theorem dX11_table_23 : decode cX11_table 23 = .ok (.if_icmp .ge 21, 3) := by decide +kernel
theorem dX11_table_26 : decode cX11_table 26 = .ok (.aload_n 0, 1) := by decide +kernel
theorem dX11_table_27 : decode cX11_table 27 = .ok (.getfield 9, 3) := by decide +kernel
theorem dX11_table_30 : decode cX11_table 30 = .ok (.iload_n 1, 1) := by decide +kernel
theorem dX11_table_31 : decode cX11_table 31 = .ok (.aload_n 0, 1) := by decide +kernel
theorem dX11_table_32 : decode cX11_table 32 = .ok (.getfield 49, 3) := by decide +kernel
theorem dX11_table_35 : decode cX11_table 35 = .ok (.iload_n 1, 1) := by decide +kernel
theorem dX11_table_36 : decode cX11_table 36 = .ok (.iaload, 1) := by decide +kernel
theorem dX11_table_37 : decode cX11_table 37 = .ok (.iastore, 1) := by decide +kernel
theorem dX11_table_38 : decode cX11_table 38 = .ok (.iinc 1 1, 3) := by decide +kernel
theorem dX11_table_41 : decode cX11_table 41 = .ok (.goto (-20), 3) := by decide +kernel
theorem dX11_table_44 : decode cX11_table 44 = .ok (.aload_n 0, 1) := by decide +kernel
theorem dX11_table_45 : decode cX11_table 45 = .ok (.getfield 9, 3) := by decide +kernel
theorem dX11_table_48 : decode cX11_table 48 = .ok (.bipush 6, 2) := by decide +kernel
theorem dX11_table_50 : decode cX11_table 50 = .ok (.iconst 0, 1) := by decide +kernel
theorem dX11_table_51 : decode cX11_table 51 = .ok (.iastore, 1) := by decide +kernel
theorem dX11_table_52 : decode cX11_table 52 = .ok (.aload_n 0, 1) := by decide +kernel
theorem dX11_table_53 : decode cX11_table 53 = .ok (.getfield 52, 3) := by decide +kernel
theorem dX11_table_56 : decode cX11_table 56 = .ok (.aload_n 0, 1) := by decide +kernel
theorem dX11_table_57 : decode cX11_table 57 = .ok (.getfield 40, 3) := by decide +kernel
theorem dX11_table_60 : decode cX11_table 60 = .ok (.invokestatic 288, 3) := by decide +kernel
theorem dX11_table_63 : decode cX11_table 63 = .ok (.aload_n 0, 1) := by decide +kernel
theorem dX11_table_64 : decode cX11_table 64 = .ok (.getfield 55, 3) := by decide +kernel
theorem dX11_table_67 : decode cX11_table 67 = .ok (.aload_n 0, 1) := by decide +kernel
theorem dX11_table_68 : decode cX11_table 68 = .ok (.getfield 43, 3) := by decide +kernel
theorem dX11_table_71 : decode cX11_table 71 = .ok (.invokestatic 288, 3) := by decide +kernel
theorem dX11_table_74 : decode cX11_table 74 = .ok (.aload_n 0, 1) := by decide +kernel
theorem dX11_table_75 : decode cX11_table 75 = .ok (.getfield 58, 3) := by decide +kernel
theorem dX11_table_78 : decode cX11_table 78 = .ok (.aload_n 0, 1) := by decide +kernel
theorem dX11_table_79 : decode cX11_table 79 = .ok (.getfield 46, 3) := by decide +kernel
theorem dX11_table_82 : decode cX11_table 82 = .ok (.invokestatic 288, 3) := by decide +kernel
theorem dX11_table_85 : decode cX11_table 85 = .ok (.aload_n 0, 1) := by decide +kernel
theorem dX11_table_86 : decode cX11_table 86 = .ok (.getfield 61, 3) := by decide +kernel
theorem dX11_table_89 : decode cX11_table 89 = .ok (.aload_n 0, 1) := by decide +kernel
theorem dX11_table_90 : decode cX11_table 90 = .ok (.getfield 28, 3) := by decide +kernel
theorem dX11_table_93 : decode cX11_table 93 = .ok (.invokestatic 288, 3) := by decide +kernel
theorem dX11_table_96 : decode cX11_table 96 = .ok (.aload_n 0, 1) := by decide +kernel
theorem dX11_table_97 : decode cX11_table 97 = .ok (.invokevirtual 295, 3) := by decide +kernel
theorem dX11_table_100 : decode cX11_table 100 = .ok (.aload_n 0, 1) := by decide +kernel
theorem dX11_table_101 : decode cX11_table 101 = .ok (.iconst 0, 1) := by decide +kernel
theorem dX11_table_102 : decode cX11_table 102 = .ok (.putfield 298, 3) := by decide +kernel
theorem dX11_table_105 : decode cX11_table 105 = .ok (.aload_n 0, 1) := by decide +kernel
theorem dX11_table_106 : decode cX11_table 106 = .ok (.getfield 9, 3) := by decide +kernel
theorem dX11_table_109 : decode cX11_table 109 = .ok (.iconst 2, 1) := by decide +kernel
theorem dX11_table_110 : decode cX11_table 110 = .ok (.iaload, 1) := by decide +kernel
theorem dX11_table_111 : decode cX11_table 111 = .ok (.ireturn, 1) := by decide +kernel
theorem dX11_ruleClause_0 : decode cX11_ruleClause 0 = .ok (.aload_n 0, 1) := by decide +kernel
theorem dX11_ruleClause_1 : decode cX11_ruleClause 1 = .ok (.invokevirtual 188, 3) := by decide +kernel
theorem dX11_ruleClause_4 : decode cX11_ruleClause 4 = .ok (.aload_n 0, 1) := by decide +kernel
theorem dX11_ruleClause_5 : decode cX11_ruleClause 5 = .ok (.getfield 168, 3) := by decide +kernel
theorem dX11_ruleClause_8 : decode cX11_ruleClause 8 = .ok (.istore_n 2, 1) := by decide +kernel
theorem dX11_ruleClause_9 : decode cX11_ruleClause 9 = .ok (.aload_n 0, 1) := by decide +kernel
theorem dX11_ruleClause_10 : decode cX11_ruleClause 10 = .ok (.ldc_w 301, 3) := by decide +kernel
theorem dX11_ruleClause_13 : decode cX11_ruleClause 13 = .ok (.invokevirtual 191, 3) := by decide +kernel
theorem dX11_ruleClause_16 : decode cX11_ruleClause 16 = .ok (.ifCond .ne 10, 3) := by decide +kernel
theorem dX11_ruleClause_19 : decode cX11_ruleClause 19 = .ok (.aload_n 0, 1) := by decide +kernel
theorem dX11_ruleClause_20 : decode cX11_ruleClause 20 = .ok (.iconst 0, 1) := by decide +kernel
theorem dX11_ruleClause_21 : decode cX11_ruleClause 21 = .ok (.iload_n 2, 1) := by decide +kernel
theorem dX11_ruleClause_22 : decode cX11_ruleClause 22 = .ok (.invokevirtual 204, 3) := by decide +kernel
theorem dX11_ruleClause_25 : decode cX11_ruleClause 25 = .ok (.return_, 1) := by decide +kernel
theorem dX11_ruleClause_26 : decode cX11_ruleClause 26 = .ok (.iload_n 1, 1) := by decide +kernel
theorem dX11_ruleClause_27 : decode cX11_ruleClause 27 = .ok (.bipush 12, 2) := by decide +kernel
theorem dX11_ruleClause_29 : decode cX11_ruleClause 29 = .ok (.if_icmp .ne 10, 3) := by decide +kernel
theorem dX11_ruleClause_32 : decode cX11_ruleClause 32 = .ok (.aload_n 0, 1) := by decide +kernel
theorem dX11_ruleClause_33 : decode cX11_ruleClause 33 = .ok (.iconst 4, 1) := by decide +kernel
theorem dX11_ruleClause_34 : decode cX11_ruleClause 34 = .ok (.iload_n 2, 1) := by decide +kernel
theorem dX11_ruleClause_35 : decode cX11_ruleClause 35 = .ok (.invokevirtual 204, 3) := by decide +kernel
theorem dX11_ruleClause_38 : decode cX11_ruleClause 38 = .ok (.return_, 1) := by decide +kernel
theorem dX11_ruleClause_39 : decode cX11_ruleClause 39 = .ok (.aload_n 0, 1) := by decide +kernel
theorem dX11_ruleClause_40 : decode cX11_ruleClause 40 = .ok (.dup, 1) := by decide +kernel
theorem dX11_ruleClause_41 : decode cX11_ruleClause 41 = .ok (.getfield 168, 3) := by decide +kernel
theorem dX11_ruleClause_44 : decode cX11_ruleClause 44 = .ok (.iconst 3, 1) := by decide +kernel
theorem dX11_ruleClause_45 : decode cX11_ruleClause 45 = .ok (.iadd, 1) := by decide +kernel
theorem dX11_ruleClause_46 : decode cX11_ruleClause 46 = .ok (.putfield 168, 3) := by decide +kernel
theorem dX11_ruleClause_49 : decode cX11_ruleClause 49 = .ok (.bipush 12, 2) := by decide +kernel
theorem dX11_ruleClause_51 : decode cX11_ruleClause 51 = .ok (.aload_n 0, 1) := by decide +kernel
theorem dX11_ruleClause_52 : decode cX11_ruleClause 52 = .ok (.getfield 195, 3) := by decide +kernel
theorem dX11_ruleClause_55 : decode cX11_ruleClause 55 = .ok (.imul, 1) := by decide +kernel
theorem dX11_ruleClause_56 : decode cX11_ruleClause 56 = .ok (.iload_n 1, 1) := by decide +kernel
theorem dX11_ruleClause_57 : decode cX11_ruleClause 57 = .ok (.iadd, 1) := by decide +kernel
theorem dX11_ruleClause_58 : decode cX11_ruleClause 58 = .ok (.istore_n 3, 1) := by decide +kernel
theorem dX11_ruleClause_59 : decode cX11_ruleClause 59 = .ok (.aload_n 0, 1) := by decide +kernel
theorem dX11_ruleClause_60 : decode cX11_ruleClause 60 = .ok (.getfield 81, 3) := by decide +kernel
theorem dX11_ruleClause_63 : decode cX11_ruleClause 63 = .ok (.iload_n 3, 1) := by decide +kernel
theorem dX11_ruleClause_64 : decode cX11_ruleClause 64 = .ok (.aload_n 0, 1) := by decide +kernel
theorem dX11_ruleClause_65 : decode cX11_ruleClause 65 = .ok (.getfield 198, 3) := by decide +kernel
theorem dX11_ruleClause_68 : decode cX11_ruleClause 68 = .ok (.iastore, 1) := by decide +kernel
theorem dX11_ruleClause_69 : decode cX11_ruleClause 69 = .ok (.aload_n 0, 1) := by decide +kernel
theorem dX11_ruleClause_70 : decode cX11_ruleClause 70 = .ok (.invokevirtual 233, 3) := by decide +kernel
theorem dX11_ruleClause_73 : decode cX11_ruleClause 73 = .ok (.aload_n 0, 1) := by decide +kernel
theorem dX11_ruleClause_74 : decode cX11_ruleClause 74 = .ok (.getfield 84, 3) := by decide +kernel
theorem dX11_ruleClause_77 : decode cX11_ruleClause 77 = .ok (.iload_n 3, 1) := by decide +kernel
theorem dX11_ruleClause_78 : decode cX11_ruleClause 78 = .ok (.aload_n 0, 1) := by decide +kernel
theorem dX11_ruleClause_79 : decode cX11_ruleClause 79 = .ok (.getfield 198, 3) := by decide +kernel
theorem dX11_ruleClause_82 : decode cX11_ruleClause 82 = .ok (.iastore, 1) := by decide +kernel
theorem dX11_ruleClause_83 : decode cX11_ruleClause 83 = .ok (.aload_n 0, 1) := by decide +kernel
theorem dX11_ruleClause_84 : decode cX11_ruleClause 84 = .ok (.getfield 165, 3) := by decide +kernel
theorem dX11_ruleClause_87 : decode cX11_ruleClause 87 = .ok (.ifCond .ne 17, 3) := by decide +kernel
theorem dX11_ruleClause_90 : decode cX11_ruleClause 90 = .ok (.aload_n 0, 1) := by decide +kernel
theorem dX11_ruleClause_91 : decode cX11_ruleClause 91 = .ok (.ldc_w 303, 3) := by decide +kernel
theorem dX11_ruleClause_94 : decode cX11_ruleClause 94 = .ok (.invokevirtual 305, 3) := by decide +kernel
theorem dX11_ruleClause_97 : decode cX11_ruleClause 97 = .ok (.ifCond .eq 7, 3) := by decide +kernel
theorem dX11_ruleClause_100 : decode cX11_ruleClause 100 = .ok (.aload_n 0, 1) := by decide +kernel
theorem dX11_ruleClause_101 : decode cX11_ruleClause 101 = .ok (.invokevirtual 308, 3) := by decide +kernel
theorem dX11_ruleClause_104 : decode cX11_ruleClause 104 = .ok (.aload_n 0, 1) := by decide +kernel
theorem dX11_ruleClause_105 : decode cX11_ruleClause 105 = .ok (.getfield 87, 3) := by decide +kernel
theorem dX11_ruleClause_108 : decode cX11_ruleClause 108 = .ok (.iload_n 3, 1) := by decide +kernel
theorem dX11_ruleClause_109 : decode cX11_ruleClause 109 = .ok (.aload_n 0, 1) := by decide +kernel
theorem dX11_ruleClause_110 : decode cX11_ruleClause 110 = .ok (.getfield 198, 3) := by decide +kernel
theorem dX11_ruleClause_113 : decode cX11_ruleClause 113 = .ok (.iastore, 1) := by decide +kernel
theorem dX11_ruleClause_114 : decode cX11_ruleClause 114 = .ok (.return_, 1) := by decide +kernel
theorem dX11_rule_0 : decode cX11_rule 0 = .ok (.aload_n 0, 1) := by decide +kernel
theorem dX11_rule_1 : decode cX11_rule 1 = .ok (.getfield 311, 3) := by decide +kernel
theorem dX11_rule_4 : decode cX11_rule 4 = .ok (.bipush 6, 2) := by decide +kernel
theorem dX11_rule_6 : decode cX11_rule 6 = .ok (.if_icmp .ne 5, 3) := by decide +kernel
theorem dX11_rule_9 : decode cX11_rule 9 = .ok (.iconst (-1), 1) := by decide +kernel
theorem dX11_rule_10 : decode cX11_rule 10 = .ok (.ireturn, 1) := by decide +kernel
theorem dX11_rule_11 : decode cX11_rule 11 = .ok (.aload_n 0, 1) := by decide +kernel
theorem dX11_rule_12 : decode cX11_rule 12 = .ok (.aload_n 0, 1) := by decide +kernel
theorem dX11_rule_13 : decode cX11_rule 13 = .ok (.getfield 311, 3) := by decide +kernel
theorem dX11_rule_16 : decode cX11_rule 16 = .ok (.putfield 195, 3) := by decide +kernel
theorem dX11_rule_19 : decode cX11_rule 19 = .ok (.aload_n 0, 1) := by decide +kernel
theorem dX11_rule_20 : decode cX11_rule 20 = .ok (.invokevirtual 279, 3) := by decide +kernel
theorem dX11_rule_23 : decode cX11_rule 23 = .ok (.iconst 0, 1) := by decide +kernel
theorem dX11_rule_24 : decode cX11_rule 24 = .ok (.istore_n 1, 1) := by decide +kernel
theorem dX11_rule_25 : decode cX11_rule 25 = .ok (.iconst 1, 1) := by decide +kernel
theorem dX11_rule_26 : decode cX11_rule 26 = .ok (.istore_n 2, 1) := by decide +kernel
theorem dX11_rule_27 : decode cX11_rule 27 = .ok (.iload_n 2, 1) := by decide +kernel
theorem dX11_rule_28 : decode cX11_rule 28 = .ok (.ifCond .eq 19, 3) := by decide +kernel
theorem dX11_rule_31 : decode cX11_rule 31 = .ok (.aload_n 0, 1) := by decide +kernel
theorem dX11_rule_32 : decode cX11_rule 32 = .ok (.iload_n 1, 1) := by decide +kernel
theorem dX11_rule_33 : decode cX11_rule 33 = .ok (.invokevirtual 314, 3) := by decide +kernel
theorem dX11_rule_36 : decode cX11_rule 36 = .ok (.iinc 1 1, 3) := by decide +kernel
theorem dX11_rule_39 : decode cX11_rule 39 = .ok (.aload_n 0, 1) := by decide +kernel
theorem dX11_rule_40 : decode cX11_rule 40 = .ok (.invokevirtual 285, 3) := by decide +kernel
theorem dX11_rule_43 : decode cX11_rule 43 = .ok (.istore_n 2, 1) := by decide +kernel
theorem dX11_rule_44 : decode cX11_rule 44 = .ok (.goto (-17), 3) := by decide +kernel
theorem dX11_rule_47 : decode cX11_rule 47 = .ok (.aload_n 0, 1) := by decide +kernel
theorem dX11_rule_48 : decode cX11_rule 48 = .ok (.iconst 0, 1) := by decide +kernel
theorem dX11_rule_49 : decode cX11_rule 49 = .ok (.putfield 138, 3) := by decide +kernel
theorem dX11_rule_52 : decode cX11_rule 52 = .ok (.aload_n 0, 1) := by decide +kernel
theorem dX11_rule_53 : decode cX11_rule 53 = .ok (.getfield 78, 3) := by decide +kernel
theorem dX11_rule_56 : decode cX11_rule 56 = .ok (.aload_n 0, 1) := by decide +kernel
theorem dX11_rule_57 : decode cX11_rule 57 = .ok (.getfield 195, 3) := by decide +kernel
theorem dX11_rule_60 : decode cX11_rule 60 = .ok (.iload_n 1, 1) := by decide +kernel
theorem dX11_rule_61 : decode cX11_rule 61 = .ok (.iastore, 1) := by decide +kernel
theorem dX11_rule_62 : decode cX11_rule 62 = .ok (.aload_n 0, 1) := by decide +kernel
theorem dX11_rule_63 : decode cX11_rule 63 = .ok (.dup, 1) := by decide +kernel
theorem dX11_rule_64 : decode cX11_rule 64 = .ok (.getfield 311, 3) := by decide +kernel
theorem dX11_rule_67 : decode cX11_rule 67 = .ok (.aload_n 0, 1) := by decide +kernel
theorem dX11_rule_68 : decode cX11_rule 68 = .ok (.getfield 165, 3) := by decide +kernel
theorem dX11_rule_71 : decode cX11_rule 71 = .ok (.ifCond .ne 7, 3) := by decide +kernel
theorem dX11_rule_74 : decode cX11_rule 74 = .ok (.iconst 1, 1) := by decide +kernel
theorem dX11_rule_75 : decode cX11_rule 75 = .ok (.goto 4, 3) := by decide +kernel
theorem dX11_rule_78 : decode cX11_rule 78 = .ok (.iconst 0, 1) := by decide +kernel
theorem dX11_rule_79 : decode cX11_rule 79 = .ok (.iadd, 1) := by decide +kernel
theorem dX11_rule_80 : decode cX11_rule 80 = .ok (.putfield 311, 3) := by decide +kernel
theorem dX11_rule_83 : decode cX11_rule 83 = .ok (.aload_n 0, 1) := by decide +kernel
theorem dX11_rule_84 : decode cX11_rule 84 = .ok (.getfield 165, 3) := by decide +kernel
theorem dX11_rule_87 : decode cX11_rule 87 = .ok (.ifCond .le 13, 3) := by decide +kernel
theorem dX11_rule_90 : decode cX11_rule 90 = .ok (.bipush (-2), 2) := by decide +kernel
theorem dX11_rule_92 : decode cX11_rule 92 = .ok (.aload_n 0, 1) := by decide +kernel
theorem dX11_rule_93 : decode cX11_rule 93 = .ok (.getfield 165, 3) := by decide +kernel
theorem dX11_rule_96 : decode cX11_rule 96 = .ok (.isub, 1) := by decide +kernel
theorem dX11_rule_97 : decode cX11_rule 97 = .ok (.goto 9, 3) := by decide +kernel
theorem dX11_rule_100 : decode cX11_rule 100 = .ok (.aload_n 0, 1) := by decide +kernel
theorem dX11_rule_101 : decode cX11_rule 101 = .ok (.getfield 311, 3) := by decide +kernel
theorem dX11_rule_104 : decode cX11_rule 104 = .ok (.iconst 1, 1) := by decide +kernel
theorem dX11_rule_105 : decode cX11_rule 105 = .ok (.isub, 1) := by decide +kernel
theorem dX11_rule_106 : decode cX11_rule 106 = .ok (.ireturn, 1) := by decide +kernel
theorem dX11_force_0 : decode cX11_force 0 = .ok (.iload_n 1, 1) := by decide +kernel
theorem dX11_force_1 : decode cX11_force 1 = .ok (.i2l, 1) := by decide +kernel
theorem dX11_force_2 : decode cX11_force 2 = .ok (.ldc2_w 317, 3) := by decide +kernel
theorem dX11_force_5 : decode cX11_force 5 = .ok (.aload_n 0, 1) := by decide +kernel
theorem dX11_force_6 : decode cX11_force 6 = .ok (.getfield 311, 3) := by decide +kernel
theorem dX11_force_9 : decode cX11_force 9 = .ok (.iconst 1, 1) := by decide +kernel
theorem dX11_force_10 : decode cX11_force 10 = .ok (.isub, 1) := by decide +kernel
theorem dX11_force_11 : decode cX11_force 11 = .ok (.i2l, 1) := by decide +kernel
theorem dX11_force_12 : decode cX11_force 12 = .ok (.invokestatic 134, 3) := by decide +kernel
theorem dX11_force_15 : decode cX11_force 15 = .ok (.ifCond .ne 6, 3) := by decide +kernel
theorem dX11_force_18 : decode cX11_force 18 = .ok (.bipush (-2), 2) := by decide +kernel
theorem dX11_force_20 : decode cX11_force 20 = .ok (.ireturn, 1) := by decide +kernel
theorem dX11_force_21 : decode cX11_force 21 = .ok (.aload_n 0, 1) := by decide +kernel
theorem dX11_force_22 : decode cX11_force 22 = .ok (.getfield 9, 3) := by decide +kernel
theorem dX11_force_25 : decode cX11_force 25 = .ok (.bipush 8, 2) := by decide +kernel
theorem dX11_force_27 : decode cX11_force 27 = .ok (.iaload, 1) := by decide +kernel
theorem dX11_force_28 : decode cX11_force 28 = .ok (.istore_n 2, 1) := by decide +kernel
theorem dX11_force_29 : decode cX11_force 29 = .ok (.aload_n 0, 1) := by decide +kernel
theorem dX11_force_30 : decode cX11_force 30 = .ok (.getfield 9, 3) := by decide +kernel
theorem dX11_force_33 : decode cX11_force 33 = .ok (.bipush 8, 2) := by decide +kernel
theorem dX11_force_35 : decode cX11_force 35 = .ok (.iload_n 1, 1) := by decide +kernel
theorem dX11_force_36 : decode cX11_force 36 = .ok (.iastore, 1) := by decide +kernel
theorem dX11_force_37 : decode cX11_force 37 = .ok (.iload_n 2, 1) := by decide +kernel
theorem dX11_force_38 : decode cX11_force 38 = .ok (.ireturn, 1) := by decide +kernel
theorem dX11_wanted_0 : decode cX11_wanted 0 = .ok (.aload_n 0, 1) := by decide +kernel
theorem dX11_wanted_1 : decode cX11_wanted 1 = .ok (.getfield 9, 3) := by decide +kernel
theorem dX11_wanted_4 : decode cX11_wanted 4 = .ok (.bipush 8, 2) := by decide +kernel
theorem dX11_wanted_6 : decode cX11_wanted 6 = .ok (.iaload, 1) := by decide +kernel
theorem dX11_wanted_7 : decode cX11_wanted 7 = .ok (.istore_n 1, 1) := by decide +kernel
theorem dX11_wanted_8 : decode cX11_wanted 8 = .ok (.bipush 12, 2) := by decide +kernel
theorem dX11_wanted_10 : decode cX11_wanted 10 = .ok (.iload_n 1, 1) := by decide +kernel
theorem dX11_wanted_11 : decode cX11_wanted 11 = .ok (.imul, 1) := by decide +kernel
theorem dX11_wanted_12 : decode cX11_wanted 12 = .ok (.istore_n 2, 1) := by decide +kernel
theorem dX11_wanted_13 : decode cX11_wanted 13 = .ok (.iload_n 2, 1) := by decide +kernel
theorem dX11_wanted_14 : decode cX11_wanted 14 = .ok (.bipush 12, 2) := by decide +kernel
theorem dX11_wanted_16 : decode cX11_wanted 16 = .ok (.iload_n 1, 1) := by decide +kernel
theorem dX11_wanted_17 : decode cX11_wanted 17 = .ok (.imul, 1) := by decide +kernel
theorem dX11_wanted_18 : decode cX11_wanted 18 = .ok (.aload_n 0, 1) := by decide +kernel
theorem dX11_wanted_19 : decode cX11_wanted 19 = .ok (.getfield 78, 3) := by decide +kernel
theorem dX11_wanted_22 : decode cX11_wanted 22 = .ok (.iload_n 1, 1) := by decide +kernel
theorem dX11_wanted_23 : decode cX11_wanted 23 = .ok (.iaload, 1) := by decide +kernel
theorem dX11_wanted_24 : decode cX11_wanted 24 = .ok (.iadd, 1) := by decide +kernel
theorem dX11_wanted_25 : decode cX11_wanted 25 = .ok (.if_icmp .ge 64, 3) := by decide +kernel
theorem dX11_wanted_28 : decode cX11_wanted 28 = .ok (.aload_n 0, 1) := by decide +kernel
theorem dX11_wanted_29 : decode cX11_wanted 29 = .ok (.getfield 84, 3) := by decide +kernel
theorem dX11_wanted_32 : decode cX11_wanted 32 = .ok (.iload_n 2, 1) := by decide +kernel
theorem dX11_wanted_33 : decode cX11_wanted 33 = .ok (.iaload, 1) := by decide +kernel
theorem dX11_wanted_34 : decode cX11_wanted 34 = .ok (.aload_n 0, 1) := by decide +kernel
theorem dX11_wanted_35 : decode cX11_wanted 35 = .ok (.getfield 87, 3) := by decide +kernel
theorem dX11_wanted_38 : decode cX11_wanted 38 = .ok (.iload_n 2, 1) := by decide +kernel
theorem dX11_wanted_39 : decode cX11_wanted 39 = .ok (.iaload, 1) := by decide +kernel
theorem dX11_wanted_40 : decode cX11_wanted 40 = .ok (.if_icmp .eq 25, 3) := by decide +kernel
theorem dX11_wanted_43 : decode cX11_wanted 43 = .ok (.aload_n 0, 1) := by decide +kernel
theorem dX11_wanted_44 : decode cX11_wanted 44 = .ok (.iload_n 1, 1) := by decide +kernel
theorem dX11_wanted_45 : decode cX11_wanted 45 = .ok (.aload_n 0, 1) := by decide +kernel
theorem dX11_wanted_46 : decode cX11_wanted 46 = .ok (.getfield 84, 3) := by decide +kernel
theorem dX11_wanted_49 : decode cX11_wanted 49 = .ok (.iload_n 2, 1) := by decide +kernel
theorem dX11_wanted_50 : decode cX11_wanted 50 = .ok (.iaload, 1) := by decide +kernel
theorem dX11_wanted_51 : decode cX11_wanted 51 = .ok (.aload_n 0, 1) := by decide +kernel
theorem dX11_wanted_52 : decode cX11_wanted 52 = .ok (.getfield 87, 3) := by decide +kernel
theorem dX11_wanted_55 : decode cX11_wanted 55 = .ok (.iload_n 2, 1) := by decide +kernel
theorem dX11_wanted_56 : decode cX11_wanted 56 = .ok (.iaload, 1) := by decide +kernel
theorem dX11_wanted_57 : decode cX11_wanted 57 = .ok (.invokevirtual 319, 3) := by decide +kernel
theorem dX11_wanted_60 : decode cX11_wanted 60 = .ok (.lconst 1, 1) := by decide +kernel
theorem dX11_wanted_61 : decode cX11_wanted 61 = .ok (.lcmp, 1) := by decide +kernel
theorem dX11_wanted_62 : decode cX11_wanted 62 = .ok (.ifCond .ne 21, 3) := by decide +kernel
theorem dX11_wanted_65 : decode cX11_wanted 65 = .ok (.aload_n 0, 1) := by decide +kernel
theorem dX11_wanted_66 : decode cX11_wanted 66 = .ok (.iload_n 1, 1) := by decide +kernel
theorem dX11_wanted_67 : decode cX11_wanted 67 = .ok (.aload_n 0, 1) := by decide +kernel
theorem dX11_wanted_68 : decode cX11_wanted 68 = .ok (.getfield 81, 3) := by decide +kernel
theorem dX11_wanted_71 : decode cX11_wanted 71 = .ok (.iload_n 2, 1) := by decide +kernel
theorem dX11_wanted_72 : decode cX11_wanted 72 = .ok (.iaload, 1) := by decide +kernel
theorem dX11_wanted_73 : decode cX11_wanted 73 = .ok (.aload_n 0, 1) := by decide +kernel
theorem dX11_wanted_74 : decode cX11_wanted 74 = .ok (.getfield 84, 3) := by decide +kernel
theorem dX11_wanted_77 : decode cX11_wanted 77 = .ok (.iload_n 2, 1) := by decide +kernel
theorem dX11_wanted_78 : decode cX11_wanted 78 = .ok (.iaload, 1) := by decide +kernel
theorem dX11_wanted_79 : decode cX11_wanted 79 = .ok (.invokevirtual 319, 3) := by decide +kernel
theorem dX11_wanted_82 : decode cX11_wanted 82 = .ok (.lreturn, 1) := by decide +kernel
theorem dX11_wanted_83 : decode cX11_wanted 83 = .ok (.iinc 2 1, 3) := by decide +kernel
theorem dX11_wanted_86 : decode cX11_wanted 86 = .ok (.goto (-73), 3) := by decide +kernel
theorem dX11_wanted_89 : decode cX11_wanted 89 = .ok (.lconst 0, 1) := by decide +kernel
theorem dX11_wanted_90 : decode cX11_wanted 90 = .ok (.lreturn, 1) := by decide +kernel
theorem dX11_truth_0 : decode cX11_truth 0 = .ok (.iload_n 0, 1) := by decide +kernel
theorem dX11_truth_1 : decode cX11_truth 1 = .ok (.ifCond .eq 7, 3) := by decide +kernel
theorem dX11_truth_4 : decode cX11_truth 4 = .ok (.lconst 1, 1) := by decide +kernel
theorem dX11_truth_5 : decode cX11_truth 5 = .ok (.goto 4, 3) := by decide +kernel
theorem dX11_truth_8 : decode cX11_truth 8 = .ok (.lconst 0, 1) := by decide +kernel
theorem dX11_truth_9 : decode cX11_truth 9 = .ok (.lreturn, 1) := by decide +kernel
theorem dX11_both_0 : decode cX11_both 0 = .ok (.iload_n 0, 1) := by decide +kernel
theorem dX11_both_1 : decode cX11_both 1 = .ok (.tableswitch 190 2 15 #[71, 75, 111, 126, 141, 156, 171, 190, 186, 190, 190, 79, 83, 97], 71) := by decide +kernel
theorem dX11_both_72 : decode cX11_both 72 = .ok (.lload_n 1, 1) := by decide +kernel
theorem dX11_both_73 : decode cX11_both 73 = .ok (.lload_n 3, 1) := by decide +kernel
theorem dX11_both_74 : decode cX11_both 74 = .ok (.ladd, 1) := by decide +kernel
theorem dX11_both_75 : decode cX11_both 75 = .ok (.lreturn, 1) := by decide +kernel
theorem dX11_both_76 : decode cX11_both 76 = .ok (.lload_n 1, 1) := by decide +kernel
theorem dX11_both_77 : decode cX11_both 77 = .ok (.lload_n 3, 1) := by decide +kernel
theorem dX11_both_78 : decode cX11_both 78 = .ok (.lsub, 1) := by decide +kernel
theorem dX11_both_79 : decode cX11_both 79 = .ok (.lreturn, 1) := by decide +kernel
theorem dX11_both_80 : decode cX11_both 80 = .ok (.lload_n 1, 1) := by decide +kernel
theorem dX11_both_81 : decode cX11_both 81 = .ok (.lload_n 3, 1) := by decide +kernel
theorem dX11_both_82 : decode cX11_both 82 = .ok (.lmul, 1) := by decide +kernel
theorem dX11_both_83 : decode cX11_both 83 = .ok (.lreturn, 1) := by decide +kernel
theorem dX11_both_84 : decode cX11_both 84 = .ok (.lload_n 3, 1) := by decide +kernel
theorem dX11_both_85 : decode cX11_both 85 = .ok (.lconst 0, 1) := by decide +kernel
theorem dX11_both_86 : decode cX11_both 86 = .ok (.lcmp, 1) := by decide +kernel
theorem dX11_both_87 : decode cX11_both 87 = .ok (.ifCond .ne 7, 3) := by decide +kernel
theorem dX11_both_90 : decode cX11_both 90 = .ok (.lconst 0, 1) := by decide +kernel
theorem dX11_both_91 : decode cX11_both 91 = .ok (.goto 6, 3) := by decide +kernel
theorem dX11_both_94 : decode cX11_both 94 = .ok (.lload_n 1, 1) := by decide +kernel
theorem dX11_both_95 : decode cX11_both 95 = .ok (.lload_n 3, 1) := by decide +kernel
theorem dX11_both_96 : decode cX11_both 96 = .ok (.ldiv, 1) := by decide +kernel
theorem dX11_both_97 : decode cX11_both 97 = .ok (.lreturn, 1) := by decide +kernel
theorem dX11_both_98 : decode cX11_both 98 = .ok (.lload_n 3, 1) := by decide +kernel
theorem dX11_both_99 : decode cX11_both 99 = .ok (.lconst 0, 1) := by decide +kernel
theorem dX11_both_100 : decode cX11_both 100 = .ok (.lcmp, 1) := by decide +kernel
theorem dX11_both_101 : decode cX11_both 101 = .ok (.ifCond .ne 7, 3) := by decide +kernel
theorem dX11_both_104 : decode cX11_both 104 = .ok (.lconst 0, 1) := by decide +kernel
theorem dX11_both_105 : decode cX11_both 105 = .ok (.goto 6, 3) := by decide +kernel
theorem dX11_both_108 : decode cX11_both 108 = .ok (.lload_n 1, 1) := by decide +kernel
theorem dX11_both_109 : decode cX11_both 109 = .ok (.lload_n 3, 1) := by decide +kernel
theorem dX11_both_110 : decode cX11_both 110 = .ok (.lrem, 1) := by decide +kernel
theorem dX11_both_111 : decode cX11_both 111 = .ok (.lreturn, 1) := by decide +kernel
theorem dX11_both_112 : decode cX11_both 112 = .ok (.lload_n 1, 1) := by decide +kernel
theorem dX11_both_113 : decode cX11_both 113 = .ok (.lload_n 3, 1) := by decide +kernel
theorem dX11_both_114 : decode cX11_both 114 = .ok (.lcmp, 1) := by decide +kernel
theorem dX11_both_115 : decode cX11_both 115 = .ok (.ifCond .ge 7, 3) := by decide +kernel
theorem dX11_both_118 : decode cX11_both 118 = .ok (.iconst 1, 1) := by decide +kernel
theorem dX11_both_119 : decode cX11_both 119 = .ok (.goto 4, 3) := by decide +kernel
theorem dX11_both_122 : decode cX11_both 122 = .ok (.iconst 0, 1) := by decide +kernel
theorem dX11_both_123 : decode cX11_both 123 = .ok (.invokestatic 323, 3) := by decide +kernel
theorem dX11_both_126 : decode cX11_both 126 = .ok (.lreturn, 1) := by decide +kernel
theorem dX11_both_127 : decode cX11_both 127 = .ok (.lload_n 1, 1) := by decide +kernel
theorem dX11_both_128 : decode cX11_both 128 = .ok (.lload_n 3, 1) := by decide +kernel
theorem dX11_both_129 : decode cX11_both 129 = .ok (.lcmp, 1) := by decide +kernel
theorem dX11_both_130 : decode cX11_both 130 = .ok (.ifCond .gt 7, 3) := by decide +kernel
theorem dX11_both_133 : decode cX11_both 133 = .ok (.iconst 1, 1) := by decide +kernel
theorem dX11_both_134 : decode cX11_both 134 = .ok (.goto 4, 3) := by decide +kernel
theorem dX11_both_137 : decode cX11_both 137 = .ok (.iconst 0, 1) := by decide +kernel
theorem dX11_both_138 : decode cX11_both 138 = .ok (.invokestatic 323, 3) := by decide +kernel
theorem dX11_both_141 : decode cX11_both 141 = .ok (.lreturn, 1) := by decide +kernel
theorem dX11_both_142 : decode cX11_both 142 = .ok (.lload_n 1, 1) := by decide +kernel
theorem dX11_both_143 : decode cX11_both 143 = .ok (.lload_n 3, 1) := by decide +kernel
theorem dX11_both_144 : decode cX11_both 144 = .ok (.lcmp, 1) := by decide +kernel
theorem dX11_both_145 : decode cX11_both 145 = .ok (.ifCond .ne 7, 3) := by decide +kernel
theorem dX11_both_148 : decode cX11_both 148 = .ok (.iconst 1, 1) := by decide +kernel
theorem dX11_both_149 : decode cX11_both 149 = .ok (.goto 4, 3) := by decide +kernel
theorem dX11_both_152 : decode cX11_both 152 = .ok (.iconst 0, 1) := by decide +kernel
theorem dX11_both_153 : decode cX11_both 153 = .ok (.invokestatic 323, 3) := by decide +kernel
theorem dX11_both_156 : decode cX11_both 156 = .ok (.lreturn, 1) := by decide +kernel
theorem dX11_both_157 : decode cX11_both 157 = .ok (.lload_n 1, 1) := by decide +kernel
theorem dX11_both_158 : decode cX11_both 158 = .ok (.lload_n 3, 1) := by decide +kernel
theorem dX11_both_159 : decode cX11_both 159 = .ok (.lcmp, 1) := by decide +kernel
theorem dX11_both_160 : decode cX11_both 160 = .ok (.ifCond .lt 7, 3) := by decide +kernel
theorem dX11_both_163 : decode cX11_both 163 = .ok (.iconst 1, 1) := by decide +kernel
theorem dX11_both_164 : decode cX11_both 164 = .ok (.goto 4, 3) := by decide +kernel
theorem dX11_both_167 : decode cX11_both 167 = .ok (.iconst 0, 1) := by decide +kernel
theorem dX11_both_168 : decode cX11_both 168 = .ok (.invokestatic 323, 3) := by decide +kernel
theorem dX11_both_171 : decode cX11_both 171 = .ok (.lreturn, 1) := by decide +kernel
theorem dX11_both_172 : decode cX11_both 172 = .ok (.lload_n 1, 1) := by decide +kernel
theorem dX11_both_173 : decode cX11_both 173 = .ok (.lload_n 3, 1) := by decide +kernel
theorem dX11_both_174 : decode cX11_both 174 = .ok (.lcmp, 1) := by decide +kernel
theorem dX11_both_175 : decode cX11_both 175 = .ok (.ifCond .le 7, 3) := by decide +kernel
theorem dX11_both_178 : decode cX11_both 178 = .ok (.iconst 1, 1) := by decide +kernel
theorem dX11_both_179 : decode cX11_both 179 = .ok (.goto 4, 3) := by decide +kernel
theorem dX11_both_182 : decode cX11_both 182 = .ok (.iconst 0, 1) := by decide +kernel
theorem dX11_both_183 : decode cX11_both 183 = .ok (.invokestatic 323, 3) := by decide +kernel
theorem dX11_both_186 : decode cX11_both 186 = .ok (.lreturn, 1) := by decide +kernel
theorem dX11_both_187 : decode cX11_both 187 = .ok (.lload_n 1, 1) := by decide +kernel
theorem dX11_both_188 : decode cX11_both 188 = .ok (.lload_n 3, 1) := by decide +kernel
theorem dX11_both_189 : decode cX11_both 189 = .ok (.land, 1) := by decide +kernel
theorem dX11_both_190 : decode cX11_both 190 = .ok (.lreturn, 1) := by decide +kernel
theorem dX11_both_191 : decode cX11_both 191 = .ok (.lload_n 1, 1) := by decide +kernel
theorem dX11_both_192 : decode cX11_both 192 = .ok (.lload_n 3, 1) := by decide +kernel
theorem dX11_both_193 : decode cX11_both 193 = .ok (.lor, 1) := by decide +kernel
theorem dX11_both_194 : decode cX11_both 194 = .ok (.lreturn, 1) := by decide +kernel
theorem dX11_answer_0 : decode cX11_answer 0 = .ok (.iconst 0, 1) := by decide +kernel
theorem dX11_answer_1 : decode cX11_answer 1 = .ok (.istore 4, 2) := by decide +kernel
theorem dX11_answer_3 : decode cX11_answer 3 = .ok (.iload_n 2, 1) := by decide +kernel
theorem dX11_answer_4 : decode cX11_answer 4 = .ok (.istore 5, 2) := by decide +kernel
theorem dX11_answer_6 : decode cX11_answer 6 = .ok (.iload 5, 2) := by decide +kernel
theorem dX11_answer_8 : decode cX11_answer 8 = .ok (.iload_n 3, 1) := by decide +kernel
theorem dX11_answer_9 : decode cX11_answer 9 = .ok (.if_icmp .ge 144, 3) := by decide +kernel
theorem dX11_answer_12 : decode cX11_answer 12 = .ok (.aload_n 0, 1) := by decide +kernel
theorem dX11_answer_13 : decode cX11_answer 13 = .ok (.getfield 72, 3) := by decide +kernel
theorem dX11_answer_16 : decode cX11_answer 16 = .ok (.sipush 300, 3) := by decide +kernel
theorem dX11_answer_19 : decode cX11_answer 19 = .ok (.iload_n 1, 1) := by decide +kernel
theorem dX11_answer_20 : decode cX11_answer 20 = .ok (.imul, 1) := by decide +kernel
theorem dX11_answer_21 : decode cX11_answer 21 = .ok (.iload 5, 2) := by decide +kernel
theorem dX11_answer_23 : decode cX11_answer 23 = .ok (.iadd, 1) := by decide +kernel
theorem dX11_answer_24 : decode cX11_answer 24 = .ok (.iaload, 1) := by decide +kernel
theorem dX11_answer_25 : decode cX11_answer 25 = .ok (.istore 6, 2) := by decide +kernel
theorem dX11_answer_27 : decode cX11_answer 27 = .ok (.aload_n 0, 1) := by decide +kernel
theorem dX11_answer_28 : decode cX11_answer 28 = .ok (.getfield 75, 3) := by decide +kernel
theorem dX11_answer_31 : decode cX11_answer 31 = .ok (.sipush 300, 3) := by decide +kernel
theorem dX11_answer_34 : decode cX11_answer 34 = .ok (.iload_n 1, 1) := by decide +kernel
theorem dX11_answer_35 : decode cX11_answer 35 = .ok (.imul, 1) := by decide +kernel
theorem dX11_answer_36 : decode cX11_answer 36 = .ok (.iload 5, 2) := by decide +kernel
theorem dX11_answer_38 : decode cX11_answer 38 = .ok (.iadd, 1) := by decide +kernel
theorem dX11_answer_39 : decode cX11_answer 39 = .ok (.iaload, 1) := by decide +kernel
theorem dX11_answer_40 : decode cX11_answer 40 = .ok (.istore 7, 2) := by decide +kernel
theorem dX11_answer_42 : decode cX11_answer 42 = .ok (.iload 6, 2) := by decide +kernel
theorem dX11_answer_44 : decode cX11_answer 44 = .ok (.ifCond .eq 9, 3) := by decide +kernel
theorem dX11_answer_47 : decode cX11_answer 47 = .ok (.iload 6, 2) := by decide +kernel
theorem dX11_answer_49 : decode cX11_answer 49 = .ok (.iconst 1, 1) := by decide +kernel
theorem dX11_answer_50 : decode cX11_answer 50 = .ok (.if_icmp .ne 34, 3) := by decide +kernel
theorem dX11_answer_53 : decode cX11_answer 53 = .ok (.aload_n 0, 1) := by decide +kernel
theorem dX11_answer_54 : decode cX11_answer 54 = .ok (.getfield 97, 3) := by decide +kernel
theorem dX11_answer_57 : decode cX11_answer 57 = .ok (.iload 4, 2) := by decide +kernel
theorem dX11_answer_59 : decode cX11_answer 59 = .ok (.iload 6, 2) := by decide +kernel
theorem dX11_answer_61 : decode cX11_answer 61 = .ok (.ifCond .ne 9, 3) := by decide +kernel
theorem dX11_answer_64 : decode cX11_answer 64 = .ok (.iload 7, 2) := by decide +kernel
theorem dX11_answer_66 : decode cX11_answer 66 = .ok (.i2l, 1) := by decide +kernel
theorem dX11_answer_67 : decode cX11_answer 67 = .ok (.goto 10, 3) := by decide +kernel
theorem dX11_answer_70 : decode cX11_answer 70 = .ok (.aload_n 0, 1) := by decide +kernel
theorem dX11_answer_71 : decode cX11_answer 71 = .ok (.getfield 93, 3) := by decide +kernel
theorem dX11_answer_74 : decode cX11_answer 74 = .ok (.iload 7, 2) := by decide +kernel
theorem dX11_answer_76 : decode cX11_answer 76 = .ok (.laload, 1) := by decide +kernel
theorem dX11_answer_77 : decode cX11_answer 77 = .ok (.lastore, 1) := by decide +kernel
theorem dX11_answer_78 : decode cX11_answer 78 = .ok (.iinc 4 1, 3) := by decide +kernel
theorem dX11_answer_81 : decode cX11_answer 81 = .ok (.goto 66, 3) := by decide +kernel
theorem dX11_answer_84 : decode cX11_answer 84 = .ok (.iload 6, 2) := by decide +kernel
theorem dX11_answer_86 : decode cX11_answer 86 = .ok (.bipush 9, 2) := by decide +kernel
theorem dX11_answer_88 : decode cX11_answer 88 = .ok (.if_icmp .ne 26, 3) := by decide +kernel
theorem dX11_answer_91 : decode cX11_answer 91 = .ok (.aload_n 0, 1) := by decide +kernel
theorem dX11_answer_92 : decode cX11_answer 92 = .ok (.getfield 97, 3) := by decide +kernel
theorem dX11_answer_95 : decode cX11_answer 95 = .ok (.iload 4, 2) := by decide +kernel
theorem dX11_answer_97 : decode cX11_answer 97 = .ok (.iconst 1, 1) := by decide +kernel
theorem dX11_answer_98 : decode cX11_answer 98 = .ok (.isub, 1) := by decide +kernel
theorem dX11_answer_99 : decode cX11_answer 99 = .ok (.lconst 1, 1) := by decide +kernel
theorem dX11_answer_100 : decode cX11_answer 100 = .ok (.aload_n 0, 1) := by decide +kernel
theorem dX11_answer_101 : decode cX11_answer 101 = .ok (.getfield 97, 3) := by decide +kernel
theorem dX11_answer_104 : decode cX11_answer 104 = .ok (.iload 4, 2) := by decide +kernel
theorem dX11_answer_106 : decode cX11_answer 106 = .ok (.iconst 1, 1) := by decide +kernel
theorem dX11_answer_107 : decode cX11_answer 107 = .ok (.isub, 1) := by decide +kernel
theorem dX11_answer_108 : decode cX11_answer 108 = .ok (.laload, 1) := by decide +kernel
theorem dX11_answer_109 : decode cX11_answer 109 = .ok (.lsub, 1) := by decide +kernel
theorem dX11_answer_110 : decode cX11_answer 110 = .ok (.lastore, 1) := by decide +kernel
theorem dX11_answer_111 : decode cX11_answer 111 = .ok (.goto 36, 3) := by decide +kernel
theorem dX11_answer_114 : decode cX11_answer 114 = .ok (.iinc 4 (-1), 3) := by decide +kernel
theorem dX11_answer_117 : decode cX11_answer 117 = .ok (.aload_n 0, 1) := by decide +kernel
theorem dX11_answer_118 : decode cX11_answer 118 = .ok (.getfield 97, 3) := by decide +kernel
theorem dX11_answer_121 : decode cX11_answer 121 = .ok (.iload 4, 2) := by decide +kernel
theorem dX11_answer_123 : decode cX11_answer 123 = .ok (.iconst 1, 1) := by decide +kernel
theorem dX11_answer_124 : decode cX11_answer 124 = .ok (.isub, 1) := by decide +kernel
theorem dX11_answer_125 : decode cX11_answer 125 = .ok (.iload 6, 2) := by decide +kernel
theorem dX11_answer_127 : decode cX11_answer 127 = .ok (.aload_n 0, 1) := by decide +kernel
theorem dX11_answer_128 : decode cX11_answer 128 = .ok (.getfield 97, 3) := by decide +kernel
theorem dX11_answer_131 : decode cX11_answer 131 = .ok (.iload 4, 2) := by decide +kernel
theorem dX11_answer_133 : decode cX11_answer 133 = .ok (.iconst 1, 1) := by decide +kernel
theorem dX11_answer_134 : decode cX11_answer 134 = .ok (.isub, 1) := by decide +kernel
theorem dX11_answer_135 : decode cX11_answer 135 = .ok (.laload, 1) := by decide +kernel
theorem dX11_answer_136 : decode cX11_answer 136 = .ok (.aload_n 0, 1) := by decide +kernel
theorem dX11_answer_137 : decode cX11_answer 137 = .ok (.getfield 97, 3) := by decide +kernel
theorem dX11_answer_140 : decode cX11_answer 140 = .ok (.iload 4, 2) := by decide +kernel
theorem dX11_answer_142 : decode cX11_answer 142 = .ok (.laload, 1) := by decide +kernel
theorem dX11_answer_143 : decode cX11_answer 143 = .ok (.invokestatic 327, 3) := by decide +kernel
theorem dX11_answer_146 : decode cX11_answer 146 = .ok (.lastore, 1) := by decide +kernel
theorem dX11_answer_147 : decode cX11_answer 147 = .ok (.iinc 5 1, 3) := by decide +kernel
theorem dX11_answer_150 : decode cX11_answer 150 = .ok (.goto (-144), 3) := by decide +kernel
theorem dX11_answer_153 : decode cX11_answer 153 = .ok (.aload_n 0, 1) := by decide +kernel
theorem dX11_answer_154 : decode cX11_answer 154 = .ok (.getfield 97, 3) := by decide +kernel
theorem dX11_answer_157 : decode cX11_answer 157 = .ok (.iconst 0, 1) := by decide +kernel
theorem dX11_answer_158 : decode cX11_answer 158 = .ok (.laload, 1) := by decide +kernel
theorem dX11_answer_159 : decode cX11_answer 159 = .ok (.lreturn, 1) := by decide +kernel
theorem dX11_canBuy_0 : decode cX11_canBuy 0 = .ok (.iload_n 1, 1) := by decide +kernel
theorem dX11_canBuy_1 : decode cX11_canBuy 1 = .ok (.iload_n 2, 1) := by decide +kernel
theorem dX11_canBuy_2 : decode cX11_canBuy 2 = .ok (.if_icmp .eq 42, 3) := by decide +kernel
theorem dX11_canBuy_5 : decode cX11_canBuy 5 = .ok (.aload_n 0, 1) := by decide +kernel
theorem dX11_canBuy_6 : decode cX11_canBuy 6 = .ok (.getfield 13, 3) := by decide +kernel
theorem dX11_canBuy_9 : decode cX11_canBuy 9 = .ok (.iload_n 1, 1) := by decide +kernel
theorem dX11_canBuy_10 : decode cX11_canBuy 10 = .ok (.iaload, 1) := by decide +kernel
theorem dX11_canBuy_11 : decode cX11_canBuy 11 = .ok (.aload_n 0, 1) := by decide +kernel
theorem dX11_canBuy_12 : decode cX11_canBuy 12 = .ok (.getfield 9, 3) := by decide +kernel
theorem dX11_canBuy_15 : decode cX11_canBuy 15 = .ok (.iconst 3, 1) := by decide +kernel
theorem dX11_canBuy_16 : decode cX11_canBuy 16 = .ok (.iaload, 1) := by decide +kernel
theorem dX11_canBuy_17 : decode cX11_canBuy 17 = .ok (.if_icmp .lt 27, 3) := by decide +kernel
theorem dX11_canBuy_20 : decode cX11_canBuy 20 = .ok (.aload_n 0, 1) := by decide +kernel
theorem dX11_canBuy_21 : decode cX11_canBuy 21 = .ok (.getfield 16, 3) := by decide +kernel
theorem dX11_canBuy_24 : decode cX11_canBuy 24 = .ok (.iload_n 2, 1) := by decide +kernel
theorem dX11_canBuy_25 : decode cX11_canBuy 25 = .ok (.iaload, 1) := by decide +kernel
theorem dX11_canBuy_26 : decode cX11_canBuy 26 = .ok (.ifCond .le 18, 3) := by decide +kernel
theorem dX11_canBuy_29 : decode cX11_canBuy 29 = .ok (.aload_n 0, 1) := by decide +kernel
theorem dX11_canBuy_30 : decode cX11_canBuy 30 = .ok (.getfield 331, 3) := by decide +kernel
theorem dX11_canBuy_33 : decode cX11_canBuy 33 = .ok (.iload_n 2, 1) := by decide +kernel
theorem dX11_canBuy_34 : decode cX11_canBuy 34 = .ok (.invokestatic 334, 3) := by decide +kernel
theorem dX11_canBuy_37 : decode cX11_canBuy 37 = .ok (.ifCond .ne 7, 3) := by decide +kernel
theorem dX11_canBuy_40 : decode cX11_canBuy 40 = .ok (.iconst 1, 1) := by decide +kernel
theorem dX11_canBuy_41 : decode cX11_canBuy 41 = .ok (.goto 4, 3) := by decide +kernel
theorem dX11_canBuy_44 : decode cX11_canBuy 44 = .ok (.iconst 0, 1) := by decide +kernel
theorem dX11_canBuy_45 : decode cX11_canBuy 45 = .ok (.ireturn, 1) := by decide +kernel
theorem dX11_canFrom_0 : decode cX11_canFrom 0 = .ok (.iconst 0, 1) := by decide +kernel
theorem dX11_canFrom_1 : decode cX11_canFrom 1 = .ok (.istore_n 2, 1) := by decide +kernel
theorem dX11_canFrom_2 : decode cX11_canFrom 2 = .ok (.iconst 0, 1) := by decide +kernel
theorem dX11_canFrom_3 : decode cX11_canFrom 3 = .ok (.istore_n 3, 1) := by decide +kernel
theorem dX11_canFrom_4 : decode cX11_canFrom 4 = .ok (.iload_n 3, 1) := by decide +kernel
theorem dX11_canFrom_5 : decode cX11_canFrom 5 = .ok (.aload_n 0, 1) := by decide +kernel
theorem dX11_canFrom_6 : decode cX11_canFrom 6 = .ok (.getfield 9, 3) := by decide +kernel
theorem dX11_canFrom_9 : decode cX11_canFrom 9 = .ok (.iconst 2, 1) := by decide +kernel
theorem dX11_canFrom_10 : decode cX11_canFrom 10 = .ok (.iaload, 1) := by decide +kernel
theorem dX11_canFrom_11 : decode cX11_canFrom 11 = .ok (.if_icmp .ge 28, 3) := by decide +kernel
theorem dX11_canFrom_14 : decode cX11_canFrom 14 = .ok (.iload_n 2, 1) := by decide +kernel
theorem dX11_canFrom_15 : decode cX11_canFrom 15 = .ok (.aload_n 0, 1) := by decide +kernel
theorem dX11_canFrom_16 : decode cX11_canFrom 16 = .ok (.iload_n 1, 1) := by decide +kernel
theorem dX11_canFrom_17 : decode cX11_canFrom 17 = .ok (.iload_n 3, 1) := by decide +kernel
theorem dX11_canFrom_18 : decode cX11_canFrom 18 = .ok (.invokevirtual 337, 3) := by decide +kernel
theorem dX11_canFrom_21 : decode cX11_canFrom 21 = .ok (.ifCond .eq 9, 3) := by decide +kernel
theorem dX11_canFrom_24 : decode cX11_canFrom 24 = .ok (.iconst 1, 1) := by decide +kernel
theorem dX11_canFrom_25 : decode cX11_canFrom 25 = .ok (.iload_n 3, 1) := by decide +kernel
theorem dX11_canFrom_26 : decode cX11_canFrom 26 = .ok (.ishl, 1) := by decide +kernel
theorem dX11_canFrom_27 : decode cX11_canFrom 27 = .ok (.goto 4, 3) := by decide +kernel
theorem dX11_canFrom_30 : decode cX11_canFrom 30 = .ok (.iconst 0, 1) := by decide +kernel
theorem dX11_canFrom_31 : decode cX11_canFrom 31 = .ok (.ior, 1) := by decide +kernel
theorem dX11_canFrom_32 : decode cX11_canFrom 32 = .ok (.istore_n 2, 1) := by decide +kernel
theorem dX11_canFrom_33 : decode cX11_canFrom 33 = .ok (.iinc 3 1, 3) := by decide +kernel
theorem dX11_canFrom_36 : decode cX11_canFrom 36 = .ok (.goto (-32), 3) := by decide +kernel
theorem dX11_canFrom_39 : decode cX11_canFrom 39 = .ok (.iload_n 2, 1) := by decide +kernel
theorem dX11_canFrom_40 : decode cX11_canFrom 40 = .ok (.ireturn, 1) := by decide +kernel
theorem dX11_land_0 : decode cX11_land 0 = .ok (.aload_n 0, 1) := by decide +kernel
theorem dX11_land_1 : decode cX11_land 1 = .ok (.iload_n 1, 1) := by decide +kernel
theorem dX11_land_2 : decode cX11_land 2 = .ok (.invokevirtual 340, 3) := by decide +kernel
theorem dX11_land_5 : decode cX11_land 5 = .ok (.ifCond .ne 6, 3) := by decide +kernel
theorem dX11_land_8 : decode cX11_land 8 = .ok (.bipush (-2), 2) := by decide +kernel
theorem dX11_land_10 : decode cX11_land 10 = .ok (.ireturn, 1) := by decide +kernel
theorem dX11_land_11 : decode cX11_land 11 = .ok (.iload_n 2, 1) := by decide +kernel
theorem dX11_land_12 : decode cX11_land 12 = .ok (.tableswitch 81 0 5 #[40, 47, 54, 61, 68, 74], 40) := by decide +kernel
theorem dX11_land_52 : decode cX11_land 52 = .ok (.aload_n 0, 1) := by decide +kernel
theorem dX11_land_53 : decode cX11_land 53 = .ok (.getfield 13, 3) := by decide +kernel
theorem dX11_land_56 : decode cX11_land 56 = .ok (.iload_n 1, 1) := by decide +kernel
theorem dX11_land_57 : decode cX11_land 57 = .ok (.iaload, 1) := by decide +kernel
theorem dX11_land_58 : decode cX11_land 58 = .ok (.ireturn, 1) := by decide +kernel
theorem dX11_land_59 : decode cX11_land 59 = .ok (.aload_n 0, 1) := by decide +kernel
theorem dX11_land_60 : decode cX11_land 60 = .ok (.getfield 16, 3) := by decide +kernel
theorem dX11_land_63 : decode cX11_land 63 = .ok (.iload_n 1, 1) := by decide +kernel
theorem dX11_land_64 : decode cX11_land 64 = .ok (.iaload, 1) := by decide +kernel
theorem dX11_land_65 : decode cX11_land 65 = .ok (.ireturn, 1) := by decide +kernel
theorem dX11_land_66 : decode cX11_land 66 = .ok (.aload_n 0, 1) := by decide +kernel
theorem dX11_land_67 : decode cX11_land 67 = .ok (.getfield 19, 3) := by decide +kernel
theorem dX11_land_70 : decode cX11_land 70 = .ok (.iload_n 1, 1) := by decide +kernel
theorem dX11_land_71 : decode cX11_land 71 = .ok (.iaload, 1) := by decide +kernel
theorem dX11_land_72 : decode cX11_land 72 = .ok (.ireturn, 1) := by decide +kernel
theorem dX11_land_73 : decode cX11_land 73 = .ok (.aload_n 0, 1) := by decide +kernel
theorem dX11_land_74 : decode cX11_land 74 = .ok (.getfield 22, 3) := by decide +kernel
theorem dX11_land_77 : decode cX11_land 77 = .ok (.iload_n 1, 1) := by decide +kernel
theorem dX11_land_78 : decode cX11_land 78 = .ok (.iaload, 1) := by decide +kernel
theorem dX11_land_79 : decode cX11_land 79 = .ok (.ireturn, 1) := by decide +kernel
theorem dX11_land_80 : decode cX11_land 80 = .ok (.aload_n 0, 1) := by decide +kernel
theorem dX11_land_81 : decode cX11_land 81 = .ok (.iload_n 1, 1) := by decide +kernel
theorem dX11_land_82 : decode cX11_land 82 = .ok (.invokevirtual 344, 3) := by decide +kernel
theorem dX11_land_85 : decode cX11_land 85 = .ok (.ireturn, 1) := by decide +kernel
theorem dX11_land_86 : decode cX11_land 86 = .ok (.aload_n 0, 1) := by decide +kernel
theorem dX11_land_87 : decode cX11_land 87 = .ok (.getfield 25, 3) := by decide +kernel
theorem dX11_land_90 : decode cX11_land 90 = .ok (.iload_n 1, 1) := by decide +kernel
theorem dX11_land_91 : decode cX11_land 91 = .ok (.iaload, 1) := by decide +kernel
theorem dX11_land_92 : decode cX11_land 92 = .ok (.ireturn, 1) := by decide +kernel
theorem dX11_land_93 : decode cX11_land 93 = .ok (.bipush (-2), 2) := by decide +kernel
theorem dX11_land_95 : decode cX11_land 95 = .ok (.ireturn, 1) := by decide +kernel
theorem dX11_told_0 : decode cX11_told 0 = .ok (.aload_n 0, 1) := by decide +kernel
theorem dX11_told_1 : decode cX11_told 1 = .ok (.iload_n 1, 1) := by decide +kernel
theorem dX11_told_2 : decode cX11_told 2 = .ok (.invokevirtual 340, 3) := by decide +kernel
theorem dX11_told_5 : decode cX11_told 5 = .ok (.ifCond .eq 29, 3) := by decide +kernel
theorem dX11_told_8 : decode cX11_told 8 = .ok (.iload_n 2, 1) := by decide +kernel
theorem dX11_told_9 : decode cX11_told 9 = .ok (.i2l, 1) := by decide +kernel
theorem dX11_told_10 : decode cX11_told 10 = .ok (.lconst 0, 1) := by decide +kernel
theorem dX11_told_11 : decode cX11_told 11 = .ok (.ldc2_w 347, 3) := by decide +kernel
theorem dX11_told_14 : decode cX11_told 14 = .ok (.invokestatic 134, 3) := by decide +kernel
theorem dX11_told_17 : decode cX11_told 17 = .ok (.ifCond .eq 17, 3) := by decide +kernel
theorem dX11_told_20 : decode cX11_told 20 = .ok (.aload_n 0, 1) := by decide +kernel
theorem dX11_told_21 : decode cX11_told 21 = .ok (.getfield 28, 3) := by decide +kernel
theorem dX11_told_24 : decode cX11_told 24 = .ok (.bipush 61, 2) := by decide +kernel
theorem dX11_told_26 : decode cX11_told 26 = .ok (.iload_n 1, 1) := by decide +kernel
theorem dX11_told_27 : decode cX11_told 27 = .ok (.imul, 1) := by decide +kernel
theorem dX11_told_28 : decode cX11_told 28 = .ok (.iload_n 2, 1) := by decide +kernel
theorem dX11_told_29 : decode cX11_told 29 = .ok (.iadd, 1) := by decide +kernel
theorem dX11_told_30 : decode cX11_told 30 = .ok (.iaload, 1) := by decide +kernel
theorem dX11_told_31 : decode cX11_told 31 = .ok (.goto 4, 3) := by decide +kernel
theorem dX11_told_34 : decode cX11_told 34 = .ok (.iconst (-1), 1) := by decide +kernel
theorem dX11_told_35 : decode cX11_told 35 = .ok (.ireturn, 1) := by decide +kernel
theorem dX11_upTo_0 : decode cX11_upTo 0 = .ok (.iload_n 0, 1) := by decide +kernel
theorem dX11_upTo_1 : decode cX11_upTo 1 = .ok (.iload_n 1, 1) := by decide +kernel
theorem dX11_upTo_2 : decode cX11_upTo 2 = .ok (.if_icmp .le 7, 3) := by decide +kernel
theorem dX11_upTo_5 : decode cX11_upTo 5 = .ok (.iload_n 1, 1) := by decide +kernel
theorem dX11_upTo_6 : decode cX11_upTo 6 = .ok (.goto 4, 3) := by decide +kernel
theorem dX11_upTo_9 : decode cX11_upTo 9 = .ok (.iload_n 0, 1) := by decide +kernel
theorem dX11_upTo_10 : decode cX11_upTo 10 = .ok (.ireturn, 1) := by decide +kernel
theorem dX11_buys_0 : decode cX11_buys 0 = .ok (.aload_n 0, 1) := by decide +kernel
theorem dX11_buys_1 : decode cX11_buys 1 = .ok (.getfield 13, 3) := by decide +kernel
theorem dX11_buys_4 : decode cX11_buys 4 = .ok (.iload_n 1, 1) := by decide +kernel
theorem dX11_buys_5 : decode cX11_buys 5 = .ok (.dup2, 1) := by decide +kernel
theorem dX11_buys_6 : decode cX11_buys 6 = .ok (.iaload, 1) := by decide +kernel
theorem dX11_buys_7 : decode cX11_buys 7 = .ok (.aload_n 0, 1) := by decide +kernel
theorem dX11_buys_8 : decode cX11_buys 8 = .ok (.getfield 9, 3) := by decide +kernel
theorem dX11_buys_11 : decode cX11_buys 11 = .ok (.iconst 3, 1) := by decide +kernel
theorem dX11_buys_12 : decode cX11_buys 12 = .ok (.iaload, 1) := by decide +kernel
theorem dX11_buys_13 : decode cX11_buys 13 = .ok (.isub, 1) := by decide +kernel
theorem dX11_buys_14 : decode cX11_buys 14 = .ok (.iastore, 1) := by decide +kernel
theorem dX11_buys_15 : decode cX11_buys 15 = .ok (.aload_n 0, 1) := by decide +kernel
theorem dX11_buys_16 : decode cX11_buys 16 = .ok (.getfield 13, 3) := by decide +kernel
theorem dX11_buys_19 : decode cX11_buys 19 = .ok (.iload_n 2, 1) := by decide +kernel
theorem dX11_buys_20 : decode cX11_buys 20 = .ok (.aload_n 0, 1) := by decide +kernel
theorem dX11_buys_21 : decode cX11_buys 21 = .ok (.getfield 13, 3) := by decide +kernel
theorem dX11_buys_24 : decode cX11_buys 24 = .ok (.iload_n 2, 1) := by decide +kernel
theorem dX11_buys_25 : decode cX11_buys 25 = .ok (.iaload, 1) := by decide +kernel
theorem dX11_buys_26 : decode cX11_buys 26 = .ok (.aload_n 0, 1) := by decide +kernel
theorem dX11_buys_27 : decode cX11_buys 27 = .ok (.getfield 9, 3) := by decide +kernel
theorem dX11_buys_30 : decode cX11_buys 30 = .ok (.iconst 3, 1) := by decide +kernel
theorem dX11_buys_31 : decode cX11_buys 31 = .ok (.iaload, 1) := by decide +kernel
theorem dX11_buys_32 : decode cX11_buys 32 = .ok (.iadd, 1) := by decide +kernel
theorem dX11_buys_33 : decode cX11_buys 33 = .ok (.sipush 999, 3) := by decide +kernel
theorem dX11_buys_36 : decode cX11_buys 36 = .ok (.invokestatic 349, 3) := by decide +kernel
theorem dX11_buys_39 : decode cX11_buys 39 = .ok (.iastore, 1) := by decide +kernel
theorem dX11_buys_40 : decode cX11_buys 40 = .ok (.aload_n 0, 1) := by decide +kernel
theorem dX11_buys_41 : decode cX11_buys 41 = .ok (.getfield 16, 3) := by decide +kernel
theorem dX11_buys_44 : decode cX11_buys 44 = .ok (.iload_n 2, 1) := by decide +kernel
theorem dX11_buys_45 : decode cX11_buys 45 = .ok (.dup2, 1) := by decide +kernel
theorem dX11_buys_46 : decode cX11_buys 46 = .ok (.iaload, 1) := by decide +kernel
theorem dX11_buys_47 : decode cX11_buys 47 = .ok (.iconst 1, 1) := by decide +kernel
theorem dX11_buys_48 : decode cX11_buys 48 = .ok (.isub, 1) := by decide +kernel
theorem dX11_buys_49 : decode cX11_buys 49 = .ok (.iastore, 1) := by decide +kernel
theorem dX11_buys_50 : decode cX11_buys 50 = .ok (.aload_n 0, 1) := by decide +kernel
theorem dX11_buys_51 : decode cX11_buys 51 = .ok (.getfield 16, 3) := by decide +kernel
theorem dX11_buys_54 : decode cX11_buys 54 = .ok (.iload_n 1, 1) := by decide +kernel
theorem dX11_buys_55 : decode cX11_buys 55 = .ok (.aload_n 0, 1) := by decide +kernel
theorem dX11_buys_56 : decode cX11_buys 56 = .ok (.getfield 16, 3) := by decide +kernel
theorem dX11_buys_59 : decode cX11_buys 59 = .ok (.iload_n 1, 1) := by decide +kernel
theorem dX11_buys_60 : decode cX11_buys 60 = .ok (.iaload, 1) := by decide +kernel
theorem dX11_buys_61 : decode cX11_buys 61 = .ok (.iconst 1, 1) := by decide +kernel
theorem dX11_buys_62 : decode cX11_buys 62 = .ok (.iadd, 1) := by decide +kernel
theorem dX11_buys_63 : decode cX11_buys 63 = .ok (.bipush 99, 2) := by decide +kernel
theorem dX11_buys_65 : decode cX11_buys 65 = .ok (.invokestatic 349, 3) := by decide +kernel
theorem dX11_buys_68 : decode cX11_buys 68 = .ok (.iastore, 1) := by decide +kernel
theorem dX11_buys_69 : decode cX11_buys 69 = .ok (.aload_n 0, 1) := by decide +kernel
theorem dX11_buys_70 : decode cX11_buys 70 = .ok (.getfield 9, 3) := by decide +kernel
theorem dX11_buys_73 : decode cX11_buys 73 = .ok (.iconst 5, 1) := by decide +kernel
theorem dX11_buys_74 : decode cX11_buys 74 = .ok (.dup2, 1) := by decide +kernel
theorem dX11_buys_75 : decode cX11_buys 75 = .ok (.iaload, 1) := by decide +kernel
theorem dX11_buys_76 : decode cX11_buys 76 = .ok (.iconst 1, 1) := by decide +kernel
theorem dX11_buys_77 : decode cX11_buys 77 = .ok (.iadd, 1) := by decide +kernel
theorem dX11_buys_78 : decode cX11_buys 78 = .ok (.iastore, 1) := by decide +kernel
theorem dX11_buys_79 : decode cX11_buys 79 = .ok (.return_, 1) := by decide +kernel
theorem dX11_soonOf_0 : decode cX11_soonOf 0 = .ok (.aload_n 0, 1) := by decide +kernel
theorem dX11_soonOf_1 : decode cX11_soonOf 1 = .ok (.getfield 9, 3) := by decide +kernel
theorem dX11_soonOf_4 : decode cX11_soonOf 4 = .ok (.iconst 4, 1) := by decide +kernel
theorem dX11_soonOf_5 : decode cX11_soonOf 5 = .ok (.iaload, 1) := by decide +kernel
theorem dX11_soonOf_6 : decode cX11_soonOf 6 = .ok (.iconst 1, 1) := by decide +kernel
theorem dX11_soonOf_7 : decode cX11_soonOf 7 = .ok (.iadd, 1) := by decide +kernel
theorem dX11_soonOf_8 : decode cX11_soonOf 8 = .ok (.istore_n 2, 1) := by decide +kernel
theorem dX11_soonOf_9 : decode cX11_soonOf 9 = .ok (.iload_n 2, 1) := by decide +kernel
theorem dX11_soonOf_10 : decode cX11_soonOf 10 = .ok (.bipush 61, 2) := by decide +kernel
theorem dX11_soonOf_12 : decode cX11_soonOf 12 = .ok (.if_icmp .ge 32, 3) := by decide +kernel
theorem dX11_soonOf_15 : decode cX11_soonOf 15 = .ok (.aload_n 0, 1) := by decide +kernel
theorem dX11_soonOf_16 : decode cX11_soonOf 16 = .ok (.getfield 28, 3) := by decide +kernel
theorem dX11_soonOf_19 : decode cX11_soonOf 19 = .ok (.bipush 61, 2) := by decide +kernel
theorem dX11_soonOf_21 : decode cX11_soonOf 21 = .ok (.iload_n 1, 1) := by decide +kernel
theorem dX11_soonOf_22 : decode cX11_soonOf 22 = .ok (.imul, 1) := by decide +kernel
theorem dX11_soonOf_23 : decode cX11_soonOf 23 = .ok (.iload_n 2, 1) := by decide +kernel
theorem dX11_soonOf_24 : decode cX11_soonOf 24 = .ok (.iadd, 1) := by decide +kernel
theorem dX11_soonOf_25 : decode cX11_soonOf 25 = .ok (.iaload, 1) := by decide +kernel
theorem dX11_soonOf_26 : decode cX11_soonOf 26 = .ok (.ifCond .le 12, 3) := by decide +kernel
theorem dX11_soonOf_29 : decode cX11_soonOf 29 = .ok (.iload_n 2, 1) := by decide +kernel
theorem dX11_soonOf_30 : decode cX11_soonOf 30 = .ok (.aload_n 0, 1) := by decide +kernel
theorem dX11_soonOf_31 : decode cX11_soonOf 31 = .ok (.getfield 9, 3) := by decide +kernel
theorem dX11_soonOf_34 : decode cX11_soonOf 34 = .ok (.iconst 4, 1) := by decide +kernel
theorem dX11_soonOf_35 : decode cX11_soonOf 35 = .ok (.iaload, 1) := by decide +kernel
theorem dX11_soonOf_36 : decode cX11_soonOf 36 = .ok (.isub, 1) := by decide +kernel
theorem dX11_soonOf_37 : decode cX11_soonOf 37 = .ok (.ireturn, 1) := by decide +kernel
theorem dX11_soonOf_38 : decode cX11_soonOf 38 = .ok (.iinc 2 1, 3) := by decide +kernel
theorem dX11_soonOf_41 : decode cX11_soonOf 41 = .ok (.goto (-32), 3) := by decide +kernel
theorem dX11_soonOf_44 : decode cX11_soonOf 44 = .ok (.bipush 99, 2) := by decide +kernel
theorem dX11_soonOf_46 : decode cX11_soonOf 46 = .ok (.ireturn, 1) := by decide +kernel
theorem dX11_sumOf_0 : decode cX11_sumOf 0 = .ok (.aload_n 0, 1) := by decide +kernel
theorem dX11_sumOf_1 : decode cX11_sumOf 1 = .ok (.getfield 93, 3) := by decide +kernel
theorem dX11_sumOf_4 : decode cX11_sumOf 4 = .ok (.iconst 0, 1) := by decide +kernel
theorem dX11_sumOf_5 : decode cX11_sumOf 5 = .ok (.iload_n 1, 1) := by decide +kernel
theorem dX11_sumOf_6 : decode cX11_sumOf 6 = .ok (.i2l, 1) := by decide +kernel
theorem dX11_sumOf_7 : decode cX11_sumOf 7 = .ok (.lastore, 1) := by decide +kernel
theorem dX11_sumOf_8 : decode cX11_sumOf 8 = .ok (.aload_n 0, 1) := by decide +kernel
theorem dX11_sumOf_9 : decode cX11_sumOf 9 = .ok (.getfield 93, 3) := by decide +kernel
theorem dX11_sumOf_12 : decode cX11_sumOf 12 = .ok (.iconst 1, 1) := by decide +kernel
theorem dX11_sumOf_13 : decode cX11_sumOf 13 = .ok (.iload_n 2, 1) := by decide +kernel
theorem dX11_sumOf_14 : decode cX11_sumOf 14 = .ok (.i2l, 1) := by decide +kernel
theorem dX11_sumOf_15 : decode cX11_sumOf 15 = .ok (.lastore, 1) := by decide +kernel
theorem dX11_sumOf_16 : decode cX11_sumOf 16 = .ok (.aload_n 0, 1) := by decide +kernel
theorem dX11_sumOf_17 : decode cX11_sumOf 17 = .ok (.getfield 93, 3) := by decide +kernel
theorem dX11_sumOf_20 : decode cX11_sumOf 20 = .ok (.iconst 2, 1) := by decide +kernel
theorem dX11_sumOf_21 : decode cX11_sumOf 21 = .ok (.aload_n 0, 1) := by decide +kernel
theorem dX11_sumOf_22 : decode cX11_sumOf 22 = .ok (.getfield 13, 3) := by decide +kernel
theorem dX11_sumOf_25 : decode cX11_sumOf 25 = .ok (.iload_n 1, 1) := by decide +kernel
theorem dX11_sumOf_26 : decode cX11_sumOf 26 = .ok (.iaload, 1) := by decide +kernel
theorem dX11_sumOf_27 : decode cX11_sumOf 27 = .ok (.i2l, 1) := by decide +kernel
theorem dX11_sumOf_28 : decode cX11_sumOf 28 = .ok (.lastore, 1) := by decide +kernel
theorem dX11_sumOf_29 : decode cX11_sumOf 29 = .ok (.aload_n 0, 1) := by decide +kernel
theorem dX11_sumOf_30 : decode cX11_sumOf 30 = .ok (.getfield 93, 3) := by decide +kernel
theorem dX11_sumOf_33 : decode cX11_sumOf 33 = .ok (.iconst 3, 1) := by decide +kernel
theorem dX11_sumOf_34 : decode cX11_sumOf 34 = .ok (.aload_n 0, 1) := by decide +kernel
theorem dX11_sumOf_35 : decode cX11_sumOf 35 = .ok (.getfield 16, 3) := by decide +kernel
theorem dX11_sumOf_38 : decode cX11_sumOf 38 = .ok (.iload_n 1, 1) := by decide +kernel
theorem dX11_sumOf_39 : decode cX11_sumOf 39 = .ok (.iaload, 1) := by decide +kernel
theorem dX11_sumOf_40 : decode cX11_sumOf 40 = .ok (.i2l, 1) := by decide +kernel
theorem dX11_sumOf_41 : decode cX11_sumOf 41 = .ok (.lastore, 1) := by decide +kernel
theorem dX11_sumOf_42 : decode cX11_sumOf 42 = .ok (.aload_n 0, 1) := by decide +kernel
theorem dX11_sumOf_43 : decode cX11_sumOf 43 = .ok (.getfield 93, 3) := by decide +kernel
theorem dX11_sumOf_46 : decode cX11_sumOf 46 = .ok (.iconst 4, 1) := by decide +kernel
theorem dX11_sumOf_47 : decode cX11_sumOf 47 = .ok (.aload_n 0, 1) := by decide +kernel
theorem dX11_sumOf_48 : decode cX11_sumOf 48 = .ok (.getfield 19, 3) := by decide +kernel
theorem dX11_sumOf_51 : decode cX11_sumOf 51 = .ok (.iload_n 1, 1) := by decide +kernel
theorem dX11_sumOf_52 : decode cX11_sumOf 52 = .ok (.iaload, 1) := by decide +kernel
theorem dX11_sumOf_53 : decode cX11_sumOf 53 = .ok (.i2l, 1) := by decide +kernel
theorem dX11_sumOf_54 : decode cX11_sumOf 54 = .ok (.lastore, 1) := by decide +kernel
theorem dX11_sumOf_55 : decode cX11_sumOf 55 = .ok (.aload_n 0, 1) := by decide +kernel
theorem dX11_sumOf_56 : decode cX11_sumOf 56 = .ok (.getfield 93, 3) := by decide +kernel
theorem dX11_sumOf_59 : decode cX11_sumOf 59 = .ok (.iconst 5, 1) := by decide +kernel
theorem dX11_sumOf_60 : decode cX11_sumOf 60 = .ok (.aload_n 0, 1) := by decide +kernel
theorem dX11_sumOf_61 : decode cX11_sumOf 61 = .ok (.getfield 22, 3) := by decide +kernel
theorem dX11_sumOf_64 : decode cX11_sumOf 64 = .ok (.iload_n 1, 1) := by decide +kernel
theorem dX11_sumOf_65 : decode cX11_sumOf 65 = .ok (.iaload, 1) := by decide +kernel
theorem dX11_sumOf_66 : decode cX11_sumOf 66 = .ok (.i2l, 1) := by decide +kernel
theorem dX11_sumOf_67 : decode cX11_sumOf 67 = .ok (.lastore, 1) := by decide +kernel
theorem dX11_sumOf_68 : decode cX11_sumOf 68 = .ok (.aload_n 0, 1) := by decide +kernel
theorem dX11_sumOf_69 : decode cX11_sumOf 69 = .ok (.getfield 93, 3) := by decide +kernel
theorem dX11_sumOf_72 : decode cX11_sumOf 72 = .ok (.bipush 6, 2) := by decide +kernel
theorem dX11_sumOf_74 : decode cX11_sumOf 74 = .ok (.aload_n 0, 1) := by decide +kernel
theorem dX11_sumOf_75 : decode cX11_sumOf 75 = .ok (.getfield 13, 3) := by decide +kernel
theorem dX11_sumOf_78 : decode cX11_sumOf 78 = .ok (.iload_n 2, 1) := by decide +kernel
theorem dX11_sumOf_79 : decode cX11_sumOf 79 = .ok (.iaload, 1) := by decide +kernel
theorem dX11_sumOf_80 : decode cX11_sumOf 80 = .ok (.i2l, 1) := by decide +kernel
theorem dX11_sumOf_81 : decode cX11_sumOf 81 = .ok (.lastore, 1) := by decide +kernel
theorem dX11_sumOf_82 : decode cX11_sumOf 82 = .ok (.aload_n 0, 1) := by decide +kernel
theorem dX11_sumOf_83 : decode cX11_sumOf 83 = .ok (.getfield 93, 3) := by decide +kernel
theorem dX11_sumOf_86 : decode cX11_sumOf 86 = .ok (.bipush 7, 2) := by decide +kernel
theorem dX11_sumOf_88 : decode cX11_sumOf 88 = .ok (.aload_n 0, 1) := by decide +kernel
theorem dX11_sumOf_89 : decode cX11_sumOf 89 = .ok (.getfield 16, 3) := by decide +kernel
theorem dX11_sumOf_92 : decode cX11_sumOf 92 = .ok (.iload_n 2, 1) := by decide +kernel
theorem dX11_sumOf_93 : decode cX11_sumOf 93 = .ok (.iaload, 1) := by decide +kernel
theorem dX11_sumOf_94 : decode cX11_sumOf 94 = .ok (.i2l, 1) := by decide +kernel
theorem dX11_sumOf_95 : decode cX11_sumOf 95 = .ok (.lastore, 1) := by decide +kernel
theorem dX11_sumOf_96 : decode cX11_sumOf 96 = .ok (.aload_n 0, 1) := by decide +kernel
theorem dX11_sumOf_97 : decode cX11_sumOf 97 = .ok (.getfield 93, 3) := by decide +kernel
theorem dX11_sumOf_100 : decode cX11_sumOf 100 = .ok (.bipush 8, 2) := by decide +kernel
theorem dX11_sumOf_102 : decode cX11_sumOf 102 = .ok (.aload_n 0, 1) := by decide +kernel
theorem dX11_sumOf_103 : decode cX11_sumOf 103 = .ok (.getfield 19, 3) := by decide +kernel
theorem dX11_sumOf_106 : decode cX11_sumOf 106 = .ok (.iload_n 2, 1) := by decide +kernel
theorem dX11_sumOf_107 : decode cX11_sumOf 107 = .ok (.iaload, 1) := by decide +kernel
theorem dX11_sumOf_108 : decode cX11_sumOf 108 = .ok (.i2l, 1) := by decide +kernel
theorem dX11_sumOf_109 : decode cX11_sumOf 109 = .ok (.lastore, 1) := by decide +kernel
theorem dX11_sumOf_110 : decode cX11_sumOf 110 = .ok (.aload_n 0, 1) := by decide +kernel
theorem dX11_sumOf_111 : decode cX11_sumOf 111 = .ok (.getfield 93, 3) := by decide +kernel
theorem dX11_sumOf_114 : decode cX11_sumOf 114 = .ok (.bipush 9, 2) := by decide +kernel
theorem dX11_sumOf_116 : decode cX11_sumOf 116 = .ok (.aload_n 0, 1) := by decide +kernel
theorem dX11_sumOf_117 : decode cX11_sumOf 117 = .ok (.getfield 9, 3) := by decide +kernel
theorem dX11_sumOf_120 : decode cX11_sumOf 120 = .ok (.iconst 3, 1) := by decide +kernel
theorem dX11_sumOf_121 : decode cX11_sumOf 121 = .ok (.iaload, 1) := by decide +kernel
theorem dX11_sumOf_122 : decode cX11_sumOf 122 = .ok (.i2l, 1) := by decide +kernel
theorem dX11_sumOf_123 : decode cX11_sumOf 123 = .ok (.lastore, 1) := by decide +kernel
theorem dX11_sumOf_124 : decode cX11_sumOf 124 = .ok (.aload_n 0, 1) := by decide +kernel
theorem dX11_sumOf_125 : decode cX11_sumOf 125 = .ok (.getfield 93, 3) := by decide +kernel
theorem dX11_sumOf_128 : decode cX11_sumOf 128 = .ok (.bipush 10, 2) := by decide +kernel
theorem dX11_sumOf_130 : decode cX11_sumOf 130 = .ok (.aload_n 0, 1) := by decide +kernel
theorem dX11_sumOf_131 : decode cX11_sumOf 131 = .ok (.iload_n 1, 1) := by decide +kernel
theorem dX11_sumOf_132 : decode cX11_sumOf 132 = .ok (.invokevirtual 352, 3) := by decide +kernel
theorem dX11_sumOf_135 : decode cX11_sumOf 135 = .ok (.i2l, 1) := by decide +kernel
theorem dX11_sumOf_136 : decode cX11_sumOf 136 = .ok (.lastore, 1) := by decide +kernel
theorem dX11_sumOf_137 : decode cX11_sumOf 137 = .ok (.aload_n 0, 1) := by decide +kernel
theorem dX11_sumOf_138 : decode cX11_sumOf 138 = .ok (.getfield 93, 3) := by decide +kernel
theorem dX11_sumOf_141 : decode cX11_sumOf 141 = .ok (.bipush 11, 2) := by decide +kernel
theorem dX11_sumOf_143 : decode cX11_sumOf 143 = .ok (.aload_n 0, 1) := by decide +kernel
theorem dX11_sumOf_144 : decode cX11_sumOf 144 = .ok (.getfield 9, 3) := by decide +kernel
theorem dX11_sumOf_147 : decode cX11_sumOf 147 = .ok (.iconst 4, 1) := by decide +kernel
theorem dX11_sumOf_148 : decode cX11_sumOf 148 = .ok (.iaload, 1) := by decide +kernel
theorem dX11_sumOf_149 : decode cX11_sumOf 149 = .ok (.i2l, 1) := by decide +kernel
theorem dX11_sumOf_150 : decode cX11_sumOf 150 = .ok (.lastore, 1) := by decide +kernel
theorem dX11_sumOf_151 : decode cX11_sumOf 151 = .ok (.aload_n 0, 1) := by decide +kernel
theorem dX11_sumOf_152 : decode cX11_sumOf 152 = .ok (.invokevirtual 355, 3) := by decide +kernel
theorem dX11_sumOf_155 : decode cX11_sumOf 155 = .ok (.lreturn, 1) := by decide +kernel
theorem dX11_wants_0 : decode cX11_wants 0 = .ok (.aload_n 0, 1) := by decide +kernel
theorem dX11_wants_1 : decode cX11_wants 1 = .ok (.getfield 9, 3) := by decide +kernel
theorem dX11_wants_4 : decode cX11_wants 4 = .ok (.bipush 8, 2) := by decide +kernel
theorem dX11_wants_6 : decode cX11_wants 6 = .ok (.iaload, 1) := by decide +kernel
theorem dX11_wants_7 : decode cX11_wants 7 = .ok (.iconst (-1), 1) := by decide +kernel
theorem dX11_wants_8 : decode cX11_wants 8 = .ok (.if_icmp .eq 10, 3) := by decide +kernel
theorem dX11_wants_11 : decode cX11_wants 11 = .ok (.aload_n 0, 1) := by decide +kernel
theorem dX11_wants_12 : decode cX11_wants 12 = .ok (.iload_n 1, 1) := by decide +kernel
theorem dX11_wants_13 : decode cX11_wants 13 = .ok (.iload_n 2, 1) := by decide +kernel
theorem dX11_wants_14 : decode cX11_wants 14 = .ok (.invokevirtual 359, 3) := by decide +kernel
theorem dX11_wants_17 : decode cX11_wants 17 = .ok (.lreturn, 1) := by decide +kernel
theorem dX11_wants_18 : decode cX11_wants 18 = .ok (.aload_n 0, 1) := by decide +kernel
theorem dX11_wants_19 : decode cX11_wants 19 = .ok (.getfield 19, 3) := by decide +kernel
theorem dX11_wants_22 : decode cX11_wants 22 = .ok (.iload_n 1, 1) := by decide +kernel
theorem dX11_wants_23 : decode cX11_wants 23 = .ok (.iaload, 1) := by decide +kernel
theorem dX11_wants_24 : decode cX11_wants 24 = .ok (.ifCond .le 22, 3) := by decide +kernel
theorem dX11_wants_27 : decode cX11_wants 27 = .ok (.aload_n 0, 1) := by decide +kernel
theorem dX11_wants_28 : decode cX11_wants 28 = .ok (.getfield 16, 3) := by decide +kernel
theorem dX11_wants_31 : decode cX11_wants 31 = .ok (.iload_n 1, 1) := by decide +kernel
theorem dX11_wants_32 : decode cX11_wants 32 = .ok (.iaload, 1) := by decide +kernel
theorem dX11_wants_33 : decode cX11_wants 33 = .ok (.ifCond .ne 13, 3) := by decide +kernel
theorem dX11_wants_36 : decode cX11_wants 36 = .ok (.aload_n 0, 1) := by decide +kernel
theorem dX11_wants_37 : decode cX11_wants 37 = .ok (.getfield 16, 3) := by decide +kernel
theorem dX11_wants_40 : decode cX11_wants 40 = .ok (.iload_n 2, 1) := by decide +kernel
theorem dX11_wants_41 : decode cX11_wants 41 = .ok (.iaload, 1) := by decide +kernel
theorem dX11_wants_42 : decode cX11_wants 42 = .ok (.i2l, 1) := by decide +kernel
theorem dX11_wants_43 : decode cX11_wants 43 = .ok (.goto 4, 3) := by decide +kernel
theorem dX11_wants_46 : decode cX11_wants 46 = .ok (.lconst 0, 1) := by decide +kernel
theorem dX11_wants_47 : decode cX11_wants 47 = .ok (.lreturn, 1) := by decide +kernel
theorem dX11_choice_0 : decode cX11_choice 0 = .ok (.aload_n 0, 1) := by decide +kernel
theorem dX11_choice_1 : decode cX11_choice 1 = .ok (.getfield 363, 3) := by decide +kernel
theorem dX11_choice_4 : decode cX11_choice 4 = .ok (.iload_n 1, 1) := by decide +kernel
theorem dX11_choice_5 : decode cX11_choice 5 = .ok (.invokestatic 334, 3) := by decide +kernel
theorem dX11_choice_8 : decode cX11_choice 8 = .ok (.ifCond .eq 5, 3) := by decide +kernel
theorem dX11_choice_11 : decode cX11_choice 11 = .ok (.iconst (-1), 1) := by decide +kernel
theorem dX11_choice_12 : decode cX11_choice 12 = .ok (.ireturn, 1) := by decide +kernel
theorem dX11_choice_13 : decode cX11_choice 13 = .ok (.iload_n 1, 1) := by decide +kernel
theorem dX11_choice_14 : decode cX11_choice 14 = .ok (.aload_n 0, 1) := by decide +kernel
theorem dX11_choice_15 : decode cX11_choice 15 = .ok (.getfield 100, 3) := by decide +kernel
theorem dX11_choice_18 : decode cX11_choice 18 = .ok (.if_icmp .ne 55, 3) := by decide +kernel
theorem dX11_choice_21 : decode cX11_choice 21 = .ok (.aload_n 0, 1) := by decide +kernel
theorem dX11_choice_22 : decode cX11_choice 22 = .ok (.aload_n 0, 1) := by decide +kernel
theorem dX11_choice_23 : decode cX11_choice 23 = .ok (.getfield 366, 3) := by decide +kernel
theorem dX11_choice_26 : decode cX11_choice 26 = .ok (.ifCond .eq 27, 3) := by decide +kernel
theorem dX11_choice_29 : decode cX11_choice 29 = .ok (.aload_n 0, 1) := by decide +kernel
theorem dX11_choice_30 : decode cX11_choice 30 = .ok (.getfield 370, 3) := by decide +kernel
theorem dX11_choice_33 : decode cX11_choice 33 = .ok (.iconst (-1), 1) := by decide +kernel
theorem dX11_choice_34 : decode cX11_choice 34 = .ok (.if_icmp .eq 15, 3) := by decide +kernel
theorem dX11_choice_37 : decode cX11_choice 37 = .ok (.aload_n 0, 1) := by decide +kernel
theorem dX11_choice_38 : decode cX11_choice 38 = .ok (.iload_n 1, 1) := by decide +kernel
theorem dX11_choice_39 : decode cX11_choice 39 = .ok (.aload_n 0, 1) := by decide +kernel
theorem dX11_choice_40 : decode cX11_choice 40 = .ok (.getfield 370, 3) := by decide +kernel
theorem dX11_choice_43 : decode cX11_choice 43 = .ok (.invokevirtual 337, 3) := by decide +kernel
theorem dX11_choice_46 : decode cX11_choice 46 = .ok (.ifCond .eq 7, 3) := by decide +kernel
theorem dX11_choice_49 : decode cX11_choice 49 = .ok (.iconst 1, 1) := by decide +kernel
theorem dX11_choice_50 : decode cX11_choice 50 = .ok (.goto 4, 3) := by decide +kernel
theorem dX11_choice_53 : decode cX11_choice 53 = .ok (.iconst 0, 1) := by decide +kernel
theorem dX11_choice_54 : decode cX11_choice 54 = .ok (.putfield 366, 3) := by decide +kernel
theorem dX11_choice_57 : decode cX11_choice 57 = .ok (.aload_n 0, 1) := by decide +kernel
theorem dX11_choice_58 : decode cX11_choice 58 = .ok (.getfield 366, 3) := by decide +kernel
theorem dX11_choice_61 : decode cX11_choice 61 = .ok (.ifCond .eq 10, 3) := by decide +kernel
theorem dX11_choice_64 : decode cX11_choice 64 = .ok (.aload_n 0, 1) := by decide +kernel
theorem dX11_choice_65 : decode cX11_choice 65 = .ok (.getfield 370, 3) := by decide +kernel
theorem dX11_choice_68 : decode cX11_choice 68 = .ok (.goto 4, 3) := by decide +kernel
theorem dX11_choice_71 : decode cX11_choice 71 = .ok (.iconst (-1), 1) := by decide +kernel
theorem dX11_choice_72 : decode cX11_choice 72 = .ok (.ireturn, 1) := by decide +kernel
theorem dX11_choice_73 : decode cX11_choice 73 = .ok (.iconst (-1), 1) := by decide +kernel
theorem dX11_choice_74 : decode cX11_choice 74 = .ok (.istore_n 2, 1) := by decide +kernel
theorem dX11_choice_75 : decode cX11_choice 75 = .ok (.lconst 0, 1) := by decide +kernel
theorem dX11_choice_76 : decode cX11_choice 76 = .ok (.lstore_n 3, 1) := by decide +kernel
theorem dX11_choice_77 : decode cX11_choice 77 = .ok (.iconst 0, 1) := by decide +kernel
theorem dX11_choice_78 : decode cX11_choice 78 = .ok (.istore 5, 2) := by decide +kernel
theorem dX11_choice_80 : decode cX11_choice 80 = .ok (.iload 5, 2) := by decide +kernel
theorem dX11_choice_82 : decode cX11_choice 82 = .ok (.aload_n 0, 1) := by decide +kernel
theorem dX11_choice_83 : decode cX11_choice 83 = .ok (.getfield 9, 3) := by decide +kernel
theorem dX11_choice_86 : decode cX11_choice 86 = .ok (.iconst 2, 1) := by decide +kernel
theorem dX11_choice_87 : decode cX11_choice 87 = .ok (.iaload, 1) := by decide +kernel
theorem dX11_choice_88 : decode cX11_choice 88 = .ok (.if_icmp .ge 41, 3) := by decide +kernel
theorem dX11_choice_91 : decode cX11_choice 91 = .ok (.aload_n 0, 1) := by decide +kernel
theorem dX11_choice_92 : decode cX11_choice 92 = .ok (.iload_n 1, 1) := by decide +kernel
theorem dX11_choice_93 : decode cX11_choice 93 = .ok (.iload 5, 2) := by decide +kernel
theorem dX11_choice_95 : decode cX11_choice 95 = .ok (.invokevirtual 337, 3) := by decide +kernel
theorem dX11_choice_98 : decode cX11_choice 98 = .ok (.ifCond .eq 25, 3) := by decide +kernel
theorem dX11_choice_101 : decode cX11_choice 101 = .ok (.aload_n 0, 1) := by decide +kernel
theorem dX11_choice_102 : decode cX11_choice 102 = .ok (.iload_n 1, 1) := by decide +kernel
theorem dX11_choice_103 : decode cX11_choice 103 = .ok (.iload 5, 2) := by decide +kernel
theorem dX11_choice_105 : decode cX11_choice 105 = .ok (.invokevirtual 373, 3) := by decide +kernel
theorem dX11_choice_108 : decode cX11_choice 108 = .ok (.lstore 6, 2) := by decide +kernel
theorem dX11_choice_110 : decode cX11_choice 110 = .ok (.lload 6, 2) := by decide +kernel
theorem dX11_choice_112 : decode cX11_choice 112 = .ok (.lload_n 3, 1) := by decide +kernel
theorem dX11_choice_113 : decode cX11_choice 113 = .ok (.lcmp, 1) := by decide +kernel
theorem dX11_choice_114 : decode cX11_choice 114 = .ok (.ifCond .le 9, 3) := by decide +kernel
theorem dX11_choice_117 : decode cX11_choice 117 = .ok (.iload 5, 2) := by decide +kernel
theorem dX11_choice_119 : decode cX11_choice 119 = .ok (.istore_n 2, 1) := by decide +kernel
theorem dX11_choice_120 : decode cX11_choice 120 = .ok (.lload 6, 2) := by decide +kernel
theorem dX11_choice_122 : decode cX11_choice 122 = .ok (.lstore_n 3, 1) := by decide +kernel
theorem dX11_choice_123 : decode cX11_choice 123 = .ok (.iinc 5 1, 3) := by decide +kernel
theorem dX11_choice_126 : decode cX11_choice 126 = .ok (.goto (-46), 3) := by decide +kernel
theorem dX11_choice_129 : decode cX11_choice 129 = .ok (.iload_n 2, 1) := by decide +kernel
theorem dX11_choice_130 : decode cX11_choice 130 = .ok (.ireturn, 1) := by decide +kernel
theorem dX11_reaps_0 : decode cX11_reaps 0 = .ok (.aload_n 0, 1) := by decide +kernel
theorem dX11_reaps_1 : decode cX11_reaps 1 = .ok (.getfield 19, 3) := by decide +kernel
theorem dX11_reaps_4 : decode cX11_reaps 4 = .ok (.iload_n 1, 1) := by decide +kernel
theorem dX11_reaps_5 : decode cX11_reaps 5 = .ok (.iaload, 1) := by decide +kernel
theorem dX11_reaps_6 : decode cX11_reaps 6 = .ok (.ifCond .ne 4, 3) := by decide +kernel
theorem dX11_reaps_9 : decode cX11_reaps 9 = .ok (.return_, 1) := by decide +kernel
theorem dX11_reaps_10 : decode cX11_reaps 10 = .ok (.aload_n 0, 1) := by decide +kernel
theorem dX11_reaps_11 : decode cX11_reaps 11 = .ok (.getfield 16, 3) := by decide +kernel
theorem dX11_reaps_14 : decode cX11_reaps 14 = .ok (.iload_n 1, 1) := by decide +kernel
theorem dX11_reaps_15 : decode cX11_reaps 15 = .ok (.iaload, 1) := by decide +kernel
theorem dX11_reaps_16 : decode cX11_reaps 16 = .ok (.ifCond .ne 14, 3) := by decide +kernel
theorem dX11_reaps_19 : decode cX11_reaps 19 = .ok (.aload_n 0, 1) := by decide +kernel
theorem dX11_reaps_20 : decode cX11_reaps 20 = .ok (.getfield 19, 3) := by decide +kernel
theorem dX11_reaps_23 : decode cX11_reaps 23 = .ok (.iload_n 1, 1) := by decide +kernel
theorem dX11_reaps_24 : decode cX11_reaps 24 = .ok (.dup2, 1) := by decide +kernel
theorem dX11_reaps_25 : decode cX11_reaps 25 = .ok (.iaload, 1) := by decide +kernel
theorem dX11_reaps_26 : decode cX11_reaps 26 = .ok (.iconst 1, 1) := by decide +kernel
theorem dX11_reaps_27 : decode cX11_reaps 27 = .ok (.isub, 1) := by decide +kernel
theorem dX11_reaps_28 : decode cX11_reaps 28 = .ok (.iastore, 1) := by decide +kernel
theorem dX11_reaps_29 : decode cX11_reaps 29 = .ok (.return_, 1) := by decide +kernel
theorem dX11_reaps_30 : decode cX11_reaps 30 = .ok (.aload_n 0, 1) := by decide +kernel
theorem dX11_reaps_31 : decode cX11_reaps 31 = .ok (.getfield 13, 3) := by decide +kernel
theorem dX11_reaps_34 : decode cX11_reaps 34 = .ok (.iload_n 1, 1) := by decide +kernel
theorem dX11_reaps_35 : decode cX11_reaps 35 = .ok (.iaload, 1) := by decide +kernel
theorem dX11_reaps_36 : decode cX11_reaps 36 = .ok (.aload_n 0, 1) := by decide +kernel
theorem dX11_reaps_37 : decode cX11_reaps 37 = .ok (.getfield 19, 3) := by decide +kernel
theorem dX11_reaps_40 : decode cX11_reaps 40 = .ok (.iload_n 1, 1) := by decide +kernel
theorem dX11_reaps_41 : decode cX11_reaps 41 = .ok (.iaload, 1) := by decide +kernel
theorem dX11_reaps_42 : decode cX11_reaps 42 = .ok (.if_icmp .ge 12, 3) := by decide +kernel
theorem dX11_reaps_45 : decode cX11_reaps 45 = .ok (.aload_n 0, 1) := by decide +kernel
theorem dX11_reaps_46 : decode cX11_reaps 46 = .ok (.getfield 13, 3) := by decide +kernel
theorem dX11_reaps_49 : decode cX11_reaps 49 = .ok (.iload_n 1, 1) := by decide +kernel
theorem dX11_reaps_50 : decode cX11_reaps 50 = .ok (.iaload, 1) := by decide +kernel
theorem dX11_reaps_51 : decode cX11_reaps 51 = .ok (.goto 9, 3) := by decide +kernel
theorem dX11_reaps_54 : decode cX11_reaps 54 = .ok (.aload_n 0, 1) := by decide +kernel
theorem dX11_reaps_55 : decode cX11_reaps 55 = .ok (.getfield 19, 3) := by decide +kernel
theorem dX11_reaps_58 : decode cX11_reaps 58 = .ok (.iload_n 1, 1) := by decide +kernel
theorem dX11_reaps_59 : decode cX11_reaps 59 = .ok (.iaload, 1) := by decide +kernel
theorem dX11_reaps_60 : decode cX11_reaps 60 = .ok (.istore_n 2, 1) := by decide +kernel
theorem dX11_reaps_61 : decode cX11_reaps 61 = .ok (.aload_n 0, 1) := by decide +kernel
theorem dX11_reaps_62 : decode cX11_reaps 62 = .ok (.getfield 16, 3) := by decide +kernel
theorem dX11_reaps_65 : decode cX11_reaps 65 = .ok (.iload_n 1, 1) := by decide +kernel
theorem dX11_reaps_66 : decode cX11_reaps 66 = .ok (.dup2, 1) := by decide +kernel
theorem dX11_reaps_67 : decode cX11_reaps 67 = .ok (.iaload, 1) := by decide +kernel
theorem dX11_reaps_68 : decode cX11_reaps 68 = .ok (.iconst 1, 1) := by decide +kernel
theorem dX11_reaps_69 : decode cX11_reaps 69 = .ok (.isub, 1) := by decide +kernel
theorem dX11_reaps_70 : decode cX11_reaps 70 = .ok (.iastore, 1) := by decide +kernel
theorem dX11_reaps_71 : decode cX11_reaps 71 = .ok (.aload_n 0, 1) := by decide +kernel
theorem dX11_reaps_72 : decode cX11_reaps 72 = .ok (.getfield 19, 3) := by decide +kernel
theorem dX11_reaps_75 : decode cX11_reaps 75 = .ok (.iload_n 1, 1) := by decide +kernel
theorem dX11_reaps_76 : decode cX11_reaps 76 = .ok (.dup2, 1) := by decide +kernel
theorem dX11_reaps_77 : decode cX11_reaps 77 = .ok (.iaload, 1) := by decide +kernel
theorem dX11_reaps_78 : decode cX11_reaps 78 = .ok (.iload_n 2, 1) := by decide +kernel
theorem dX11_reaps_79 : decode cX11_reaps 79 = .ok (.isub, 1) := by decide +kernel
theorem dX11_reaps_80 : decode cX11_reaps 80 = .ok (.iastore, 1) := by decide +kernel
theorem dX11_reaps_81 : decode cX11_reaps 81 = .ok (.aload_n 0, 1) := by decide +kernel
theorem dX11_reaps_82 : decode cX11_reaps 82 = .ok (.getfield 22, 3) := by decide +kernel
theorem dX11_reaps_85 : decode cX11_reaps 85 = .ok (.iload_n 1, 1) := by decide +kernel
theorem dX11_reaps_86 : decode cX11_reaps 86 = .ok (.aload_n 0, 1) := by decide +kernel
theorem dX11_reaps_87 : decode cX11_reaps 87 = .ok (.getfield 22, 3) := by decide +kernel
theorem dX11_reaps_90 : decode cX11_reaps 90 = .ok (.iload_n 1, 1) := by decide +kernel
theorem dX11_reaps_91 : decode cX11_reaps 91 = .ok (.iaload, 1) := by decide +kernel
theorem dX11_reaps_92 : decode cX11_reaps 92 = .ok (.iload_n 2, 1) := by decide +kernel
theorem dX11_reaps_93 : decode cX11_reaps 93 = .ok (.iadd, 1) := by decide +kernel
theorem dX11_reaps_94 : decode cX11_reaps 94 = .ok (.sipush 9999, 3) := by decide +kernel
theorem dX11_reaps_97 : decode cX11_reaps 97 = .ok (.invokestatic 349, 3) := by decide +kernel
theorem dX11_reaps_100 : decode cX11_reaps 100 = .ok (.iastore, 1) := by decide +kernel
theorem dX11_reaps_101 : decode cX11_reaps 101 = .ok (.return_, 1) := by decide +kernel
theorem dX11_goes_0 : decode cX11_goes 0 = .ok (.iconst 0, 1) := by decide +kernel
theorem dX11_goes_1 : decode cX11_goes 1 = .ok (.istore_n 1, 1) := by decide +kernel
theorem dX11_goes_2 : decode cX11_goes 2 = .ok (.iload_n 1, 1) := by decide +kernel
theorem dX11_goes_3 : decode cX11_goes 3 = .ok (.aload_n 0, 1) := by decide +kernel
theorem dX11_goes_4 : decode cX11_goes 4 = .ok (.getfield 9, 3) := by decide +kernel
theorem dX11_goes_7 : decode cX11_goes 7 = .ok (.iconst 2, 1) := by decide +kernel
theorem dX11_goes_8 : decode cX11_goes 8 = .ok (.iaload, 1) := by decide +kernel
theorem dX11_goes_9 : decode cX11_goes 9 = .ok (.if_icmp .ge 54, 3) := by decide +kernel
theorem dX11_goes_12 : decode cX11_goes 12 = .ok (.aload_n 0, 1) := by decide +kernel
theorem dX11_goes_13 : decode cX11_goes 13 = .ok (.getfield 9, 3) := by decide +kernel
theorem dX11_goes_16 : decode cX11_goes 16 = .ok (.iconst 4, 1) := by decide +kernel
theorem dX11_goes_17 : decode cX11_goes 17 = .ok (.iaload, 1) := by decide +kernel
theorem dX11_goes_18 : decode cX11_goes 18 = .ok (.bipush 61, 2) := by decide +kernel
theorem dX11_goes_20 : decode cX11_goes 20 = .ok (.if_icmp .ge 43, 3) := by decide +kernel
theorem dX11_goes_23 : decode cX11_goes 23 = .ok (.aload_n 0, 1) := by decide +kernel
theorem dX11_goes_24 : decode cX11_goes 24 = .ok (.getfield 16, 3) := by decide +kernel
theorem dX11_goes_27 : decode cX11_goes 27 = .ok (.iload_n 1, 1) := by decide +kernel
theorem dX11_goes_28 : decode cX11_goes 28 = .ok (.aload_n 0, 1) := by decide +kernel
theorem dX11_goes_29 : decode cX11_goes 29 = .ok (.getfield 16, 3) := by decide +kernel
theorem dX11_goes_32 : decode cX11_goes 32 = .ok (.iload_n 1, 1) := by decide +kernel
theorem dX11_goes_33 : decode cX11_goes 33 = .ok (.iaload, 1) := by decide +kernel
theorem dX11_goes_34 : decode cX11_goes 34 = .ok (.aload_n 0, 1) := by decide +kernel
theorem dX11_goes_35 : decode cX11_goes 35 = .ok (.getfield 28, 3) := by decide +kernel
theorem dX11_goes_38 : decode cX11_goes 38 = .ok (.bipush 61, 2) := by decide +kernel
theorem dX11_goes_40 : decode cX11_goes 40 = .ok (.iload_n 1, 1) := by decide +kernel
theorem dX11_goes_41 : decode cX11_goes 41 = .ok (.imul, 1) := by decide +kernel
theorem dX11_goes_42 : decode cX11_goes 42 = .ok (.aload_n 0, 1) := by decide +kernel
theorem dX11_goes_43 : decode cX11_goes 43 = .ok (.getfield 9, 3) := by decide +kernel
theorem dX11_goes_46 : decode cX11_goes 46 = .ok (.iconst 4, 1) := by decide +kernel
theorem dX11_goes_47 : decode cX11_goes 47 = .ok (.iaload, 1) := by decide +kernel
theorem dX11_goes_48 : decode cX11_goes 48 = .ok (.iadd, 1) := by decide +kernel
theorem dX11_goes_49 : decode cX11_goes 49 = .ok (.iaload, 1) := by decide +kernel
theorem dX11_goes_50 : decode cX11_goes 50 = .ok (.iadd, 1) := by decide +kernel
theorem dX11_goes_51 : decode cX11_goes 51 = .ok (.bipush 99, 2) := by decide +kernel
theorem dX11_goes_53 : decode cX11_goes 53 = .ok (.invokestatic 349, 3) := by decide +kernel
theorem dX11_goes_56 : decode cX11_goes 56 = .ok (.iastore, 1) := by decide +kernel
theorem dX11_goes_57 : decode cX11_goes 57 = .ok (.iinc 1 1, 3) := by decide +kernel
theorem dX11_goes_60 : decode cX11_goes 60 = .ok (.goto (-58), 3) := by decide +kernel
theorem dX11_goes_63 : decode cX11_goes 63 = .ok (.iconst 0, 1) := by decide +kernel
theorem dX11_goes_64 : decode cX11_goes 64 = .ok (.istore_n 1, 1) := by decide +kernel
theorem dX11_goes_65 : decode cX11_goes 65 = .ok (.iconst 0, 1) := by decide +kernel
theorem dX11_goes_66 : decode cX11_goes 66 = .ok (.istore_n 2, 1) := by decide +kernel
theorem dX11_goes_67 : decode cX11_goes 67 = .ok (.iload_n 2, 1) := by decide +kernel
theorem dX11_goes_68 : decode cX11_goes 68 = .ok (.aload_n 0, 1) := by decide +kernel
theorem dX11_goes_69 : decode cX11_goes 69 = .ok (.getfield 9, 3) := by decide +kernel
theorem dX11_goes_72 : decode cX11_goes 72 = .ok (.iconst 2, 1) := by decide +kernel
theorem dX11_goes_73 : decode cX11_goes 73 = .ok (.iaload, 1) := by decide +kernel
theorem dX11_goes_74 : decode cX11_goes 74 = .ok (.if_icmp .ge 44, 3) := by decide +kernel
theorem dX11_goes_77 : decode cX11_goes 77 = .ok (.aload_n 0, 1) := by decide +kernel
theorem dX11_goes_78 : decode cX11_goes 78 = .ok (.getfield 25, 3) := by decide +kernel
theorem dX11_goes_81 : decode cX11_goes 81 = .ok (.iload_n 2, 1) := by decide +kernel
theorem dX11_goes_82 : decode cX11_goes 82 = .ok (.aload_n 0, 1) := by decide +kernel
theorem dX11_goes_83 : decode cX11_goes 83 = .ok (.iload_n 2, 1) := by decide +kernel
theorem dX11_goes_84 : decode cX11_goes 84 = .ok (.invokevirtual 376, 3) := by decide +kernel
theorem dX11_goes_87 : decode cX11_goes 87 = .ok (.iastore, 1) := by decide +kernel
theorem dX11_goes_88 : decode cX11_goes 88 = .ok (.aload_n 0, 1) := by decide +kernel
theorem dX11_goes_89 : decode cX11_goes 89 = .ok (.getfield 25, 3) := by decide +kernel
theorem dX11_goes_92 : decode cX11_goes 92 = .ok (.iload_n 2, 1) := by decide +kernel
theorem dX11_goes_93 : decode cX11_goes 93 = .ok (.iaload, 1) := by decide +kernel
theorem dX11_goes_94 : decode cX11_goes 94 = .ok (.iconst (-1), 1) := by decide +kernel
theorem dX11_goes_95 : decode cX11_goes 95 = .ok (.if_icmp .eq 17, 3) := by decide +kernel
theorem dX11_goes_98 : decode cX11_goes 98 = .ok (.aload_n 0, 1) := by decide +kernel
theorem dX11_goes_99 : decode cX11_goes 99 = .ok (.iload_n 2, 1) := by decide +kernel
theorem dX11_goes_100 : decode cX11_goes 100 = .ok (.aload_n 0, 1) := by decide +kernel
theorem dX11_goes_101 : decode cX11_goes 101 = .ok (.getfield 25, 3) := by decide +kernel
theorem dX11_goes_104 : decode cX11_goes 104 = .ok (.iload_n 2, 1) := by decide +kernel
theorem dX11_goes_105 : decode cX11_goes 105 = .ok (.iaload, 1) := by decide +kernel
theorem dX11_goes_106 : decode cX11_goes 106 = .ok (.invokevirtual 379, 3) := by decide +kernel
theorem dX11_goes_109 : decode cX11_goes 109 = .ok (.iinc 1 1, 3) := by decide +kernel
theorem dX11_goes_112 : decode cX11_goes 112 = .ok (.iinc 2 1, 3) := by decide +kernel
theorem dX11_goes_115 : decode cX11_goes 115 = .ok (.goto (-48), 3) := by decide +kernel
theorem dX11_goes_118 : decode cX11_goes 118 = .ok (.iconst 0, 1) := by decide +kernel
theorem dX11_goes_119 : decode cX11_goes 119 = .ok (.istore_n 2, 1) := by decide +kernel
theorem dX11_goes_120 : decode cX11_goes 120 = .ok (.iload_n 2, 1) := by decide +kernel
theorem dX11_goes_121 : decode cX11_goes 121 = .ok (.aload_n 0, 1) := by decide +kernel
theorem dX11_goes_122 : decode cX11_goes 122 = .ok (.getfield 9, 3) := by decide +kernel
theorem dX11_goes_125 : decode cX11_goes 125 = .ok (.iconst 2, 1) := by decide +kernel
theorem dX11_goes_126 : decode cX11_goes 126 = .ok (.iaload, 1) := by decide +kernel
theorem dX11_goes_127 : decode cX11_goes 127 = .ok (.if_icmp .ge 35, 3) := by decide +kernel
theorem dX11_goes_130 : decode cX11_goes 130 = .ok (.aload_n 0, 1) := by decide +kernel
theorem dX11_goes_131 : decode cX11_goes 131 = .ok (.iload_n 2, 1) := by decide +kernel
theorem dX11_goes_132 : decode cX11_goes 132 = .ok (.invokevirtual 382, 3) := by decide +kernel
theorem dX11_goes_135 : decode cX11_goes 135 = .ok (.aload_n 0, 1) := by decide +kernel
theorem dX11_goes_136 : decode cX11_goes 136 = .ok (.getfield 16, 3) := by decide +kernel
theorem dX11_goes_139 : decode cX11_goes 139 = .ok (.iload_n 2, 1) := by decide +kernel
theorem dX11_goes_140 : decode cX11_goes 140 = .ok (.aload_n 0, 1) := by decide +kernel
theorem dX11_goes_141 : decode cX11_goes 141 = .ok (.getfield 16, 3) := by decide +kernel
theorem dX11_goes_144 : decode cX11_goes 144 = .ok (.iload_n 2, 1) := by decide +kernel
theorem dX11_goes_145 : decode cX11_goes 145 = .ok (.iaload, 1) := by decide +kernel
theorem dX11_goes_146 : decode cX11_goes 146 = .ok (.aload_n 0, 1) := by decide +kernel
theorem dX11_goes_147 : decode cX11_goes 147 = .ok (.getfield 9, 3) := by decide +kernel
theorem dX11_goes_150 : decode cX11_goes 150 = .ok (.iconst 1, 1) := by decide +kernel
theorem dX11_goes_151 : decode cX11_goes 151 = .ok (.iaload, 1) := by decide +kernel
theorem dX11_goes_152 : decode cX11_goes 152 = .ok (.invokestatic 349, 3) := by decide +kernel
theorem dX11_goes_155 : decode cX11_goes 155 = .ok (.iastore, 1) := by decide +kernel
theorem dX11_goes_156 : decode cX11_goes 156 = .ok (.iinc 2 1, 3) := by decide +kernel
theorem dX11_goes_159 : decode cX11_goes 159 = .ok (.goto (-39), 3) := by decide +kernel
theorem dX11_goes_162 : decode cX11_goes 162 = .ok (.aload_n 0, 1) := by decide +kernel
theorem dX11_goes_163 : decode cX11_goes 163 = .ok (.getfield 9, 3) := by decide +kernel
theorem dX11_goes_166 : decode cX11_goes 166 = .ok (.iconst 4, 1) := by decide +kernel
theorem dX11_goes_167 : decode cX11_goes 167 = .ok (.dup2, 1) := by decide +kernel
theorem dX11_goes_168 : decode cX11_goes 168 = .ok (.iaload, 1) := by decide +kernel
theorem dX11_goes_169 : decode cX11_goes 169 = .ok (.iconst 1, 1) := by decide +kernel
theorem dX11_goes_170 : decode cX11_goes 170 = .ok (.iadd, 1) := by decide +kernel
theorem dX11_goes_171 : decode cX11_goes 171 = .ok (.iastore, 1) := by decide +kernel
theorem dX11_goes_172 : decode cX11_goes 172 = .ok (.iload_n 1, 1) := by decide +kernel
theorem dX11_goes_173 : decode cX11_goes 173 = .ok (.ireturn, 1) := by decide +kernel
theorem dX11_goFor_0 : decode cX11_goFor 0 = .ok (.iconst 0, 1) := by decide +kernel
theorem dX11_goFor_1 : decode cX11_goFor 1 = .ok (.istore_n 2, 1) := by decide +kernel
theorem dX11_goFor_2 : decode cX11_goFor 2 = .ok (.iload_n 2, 1) := by decide +kernel
theorem dX11_goFor_3 : decode cX11_goFor 3 = .ok (.iload_n 1, 1) := by decide +kernel
theorem dX11_goFor_4 : decode cX11_goFor 4 = .ok (.if_icmp .ge 14, 3) := by decide +kernel
theorem dX11_goFor_7 : decode cX11_goFor 7 = .ok (.aload_n 0, 1) := by decide +kernel
theorem dX11_goFor_8 : decode cX11_goFor 8 = .ok (.invokevirtual 385, 3) := by decide +kernel
theorem dX11_goFor_11 : decode cX11_goFor 11 = .ok (.pop, 1) := by decide +kernel
theorem dX11_goFor_12 : decode cX11_goFor 12 = .ok (.iinc 2 1, 3) := by decide +kernel
theorem dX11_goFor_15 : decode cX11_goFor 15 = .ok (.goto (-13), 3) := by decide +kernel
theorem dX11_goFor_18 : decode cX11_goFor 18 = .ok (.return_, 1) := by decide +kernel
theorem dX11_moves_0 : decode cX11_moves 0 = .ok (.aload_n 0, 1) := by decide +kernel
theorem dX11_moves_1 : decode cX11_moves 1 = .ok (.getfield 388, 3) := by decide +kernel
theorem dX11_moves_4 : decode cX11_moves 4 = .ok (.ifCond .eq 15, 3) := by decide +kernel
theorem dX11_moves_7 : decode cX11_moves 7 = .ok (.aload_n 0, 1) := by decide +kernel
theorem dX11_moves_8 : decode cX11_moves 8 = .ok (.getfield 103, 3) := by decide +kernel
theorem dX11_moves_11 : decode cX11_moves 11 = .ok (.aload_n 0, 1) := by decide +kernel
theorem dX11_moves_12 : decode cX11_moves 12 = .ok (.getfield 391, 3) := by decide +kernel
theorem dX11_moves_15 : decode cX11_moves 15 = .ok (.iaload, 1) := by decide +kernel
theorem dX11_moves_16 : decode cX11_moves 16 = .ok (.goto 4, 3) := by decide +kernel
theorem dX11_moves_19 : decode cX11_moves 19 = .ok (.iload_n 1, 1) := by decide +kernel
theorem dX11_moves_20 : decode cX11_moves 20 = .ok (.istore_n 2, 1) := by decide +kernel
theorem dX11_moves_21 : decode cX11_moves 21 = .ok (.aload_n 0, 1) := by decide +kernel
theorem dX11_moves_22 : decode cX11_moves 22 = .ok (.getfield 103, 3) := by decide +kernel
theorem dX11_moves_25 : decode cX11_moves 25 = .ok (.aload_n 0, 1) := by decide +kernel
theorem dX11_moves_26 : decode cX11_moves 26 = .ok (.getfield 391, 3) := by decide +kernel
theorem dX11_moves_29 : decode cX11_moves 29 = .ok (.iload_n 2, 1) := by decide +kernel
theorem dX11_moves_30 : decode cX11_moves 30 = .ok (.iastore, 1) := by decide +kernel
theorem dX11_moves_31 : decode cX11_moves 31 = .ok (.aload_n 0, 1) := by decide +kernel
theorem dX11_moves_32 : decode cX11_moves 32 = .ok (.dup, 1) := by decide +kernel
theorem dX11_moves_33 : decode cX11_moves 33 = .ok (.getfield 391, 3) := by decide +kernel
theorem dX11_moves_36 : decode cX11_moves 36 = .ok (.iconst 1, 1) := by decide +kernel
theorem dX11_moves_37 : decode cX11_moves 37 = .ok (.iadd, 1) := by decide +kernel
theorem dX11_moves_38 : decode cX11_moves 38 = .ok (.putfield 391, 3) := by decide +kernel
theorem dX11_moves_41 : decode cX11_moves 41 = .ok (.iload_n 2, 1) := by decide +kernel
theorem dX11_moves_42 : decode cX11_moves 42 = .ok (.ireturn, 1) := by decide +kernel
theorem dX11_movesRow_0 : decode cX11_movesRow 0 = .ok (.iconst 0, 1) := by decide +kernel
theorem dX11_movesRow_1 : decode cX11_movesRow 1 = .ok (.istore_n 2, 1) := by decide +kernel
theorem dX11_movesRow_2 : decode cX11_movesRow 2 = .ok (.iload_n 2, 1) := by decide +kernel
theorem dX11_movesRow_3 : decode cX11_movesRow 3 = .ok (.aload_n 1, 1) := by decide +kernel
theorem dX11_movesRow_4 : decode cX11_movesRow 4 = .ok (.arraylength, 1) := by decide +kernel
theorem dX11_movesRow_5 : decode cX11_movesRow 5 = .ok (.if_icmp .ge 19, 3) := by decide +kernel
theorem dX11_movesRow_8 : decode cX11_movesRow 8 = .ok (.aload_n 1, 1) := by decide +kernel
theorem dX11_movesRow_9 : decode cX11_movesRow 9 = .ok (.iload_n 2, 1) := by decide +kernel
theorem dX11_movesRow_10 : decode cX11_movesRow 10 = .ok (.aload_n 0, 1) := by decide +kernel
theorem dX11_movesRow_11 : decode cX11_movesRow 11 = .ok (.aload_n 1, 1) := by decide +kernel
theorem dX11_movesRow_12 : decode cX11_movesRow 12 = .ok (.iload_n 2, 1) := by decide +kernel
theorem dX11_movesRow_13 : decode cX11_movesRow 13 = .ok (.iaload, 1) := by decide +kernel
theorem dX11_movesRow_14 : decode cX11_movesRow 14 = .ok (.invokevirtual 394, 3) := by decide +kernel
theorem dX11_movesRow_17 : decode cX11_movesRow 17 = .ok (.iastore, 1) := by decide +kernel
theorem dX11_movesRow_18 : decode cX11_movesRow 18 = .ok (.iinc 2 1, 3) := by decide +kernel
theorem dX11_movesRow_21 : decode cX11_movesRow 21 = .ok (.goto (-19), 3) := by decide +kernel
theorem dX11_movesRow_24 : decode cX11_movesRow 24 = .ok (.return_, 1) := by decide +kernel
theorem dX11_movesAll_0 : decode cX11_movesAll 0 = .ok (.aload_n 0, 1) := by decide +kernel
theorem dX11_movesAll_1 : decode cX11_movesAll 1 = .ok (.bipush 28, 2) := by decide +kernel
theorem dX11_movesAll_3 : decode cX11_movesAll 3 = .ok (.iload_n 1, 1) := by decide +kernel
theorem dX11_movesAll_4 : decode cX11_movesAll 4 = .ok (.imul, 1) := by decide +kernel
theorem dX11_movesAll_5 : decode cX11_movesAll 5 = .ok (.putfield 391, 3) := by decide +kernel
theorem dX11_movesAll_8 : decode cX11_movesAll 8 = .ok (.aload_n 0, 1) := by decide +kernel
theorem dX11_movesAll_9 : decode cX11_movesAll 9 = .ok (.iload_n 2, 1) := by decide +kernel
theorem dX11_movesAll_10 : decode cX11_movesAll 10 = .ok (.putfield 388, 3) := by decide +kernel
theorem dX11_movesAll_13 : decode cX11_movesAll 13 = .ok (.iconst 3, 1) := by decide +kernel
theorem dX11_movesAll_14 : decode cX11_movesAll 14 = .ok (.istore_n 3, 1) := by decide +kernel
theorem dX11_movesAll_15 : decode cX11_movesAll 15 = .ok (.iload_n 3, 1) := by decide +kernel
theorem dX11_movesAll_16 : decode cX11_movesAll 16 = .ok (.bipush 6, 2) := by decide +kernel
theorem dX11_movesAll_18 : decode cX11_movesAll 18 = .ok (.if_icmp .ge 25, 3) := by decide +kernel
theorem dX11_movesAll_21 : decode cX11_movesAll 21 = .ok (.aload_n 0, 1) := by decide +kernel
theorem dX11_movesAll_22 : decode cX11_movesAll 22 = .ok (.getfield 9, 3) := by decide +kernel
theorem dX11_movesAll_25 : decode cX11_movesAll 25 = .ok (.iload_n 3, 1) := by decide +kernel
theorem dX11_movesAll_26 : decode cX11_movesAll 26 = .ok (.aload_n 0, 1) := by decide +kernel
theorem dX11_movesAll_27 : decode cX11_movesAll 27 = .ok (.aload_n 0, 1) := by decide +kernel
theorem dX11_movesAll_28 : decode cX11_movesAll 28 = .ok (.getfield 9, 3) := by decide +kernel
theorem dX11_movesAll_31 : decode cX11_movesAll 31 = .ok (.iload_n 3, 1) := by decide +kernel
theorem dX11_movesAll_32 : decode cX11_movesAll 32 = .ok (.iaload, 1) := by decide +kernel
theorem dX11_movesAll_33 : decode cX11_movesAll 33 = .ok (.invokevirtual 394, 3) := by decide +kernel
theorem dX11_movesAll_36 : decode cX11_movesAll 36 = .ok (.iastore, 1) := by decide +kernel
theorem dX11_movesAll_37 : decode cX11_movesAll 37 = .ok (.iinc 3 1, 3) := by decide +kernel
theorem dX11_movesAll_40 : decode cX11_movesAll 40 = .ok (.goto (-25), 3) := by decide +kernel
theorem dX11_movesAll_43 : decode cX11_movesAll 43 = .ok (.aload_n 0, 1) := by decide +kernel
theorem dX11_movesAll_44 : decode cX11_movesAll 44 = .ok (.aload_n 0, 1) := by decide +kernel
theorem dX11_movesAll_45 : decode cX11_movesAll 45 = .ok (.getfield 13, 3) := by decide +kernel
theorem dX11_movesAll_48 : decode cX11_movesAll 48 = .ok (.invokevirtual 397, 3) := by decide +kernel
theorem dX11_movesAll_51 : decode cX11_movesAll 51 = .ok (.aload_n 0, 1) := by decide +kernel
theorem dX11_movesAll_52 : decode cX11_movesAll 52 = .ok (.aload_n 0, 1) := by decide +kernel
theorem dX11_movesAll_53 : decode cX11_movesAll 53 = .ok (.getfield 16, 3) := by decide +kernel
theorem dX11_movesAll_56 : decode cX11_movesAll 56 = .ok (.invokevirtual 397, 3) := by decide +kernel
theorem dX11_movesAll_59 : decode cX11_movesAll 59 = .ok (.aload_n 0, 1) := by decide +kernel
theorem dX11_movesAll_60 : decode cX11_movesAll 60 = .ok (.aload_n 0, 1) := by decide +kernel
theorem dX11_movesAll_61 : decode cX11_movesAll 61 = .ok (.getfield 19, 3) := by decide +kernel
theorem dX11_movesAll_64 : decode cX11_movesAll 64 = .ok (.invokevirtual 397, 3) := by decide +kernel
theorem dX11_movesAll_67 : decode cX11_movesAll 67 = .ok (.aload_n 0, 1) := by decide +kernel
theorem dX11_movesAll_68 : decode cX11_movesAll 68 = .ok (.aload_n 0, 1) := by decide +kernel
theorem dX11_movesAll_69 : decode cX11_movesAll 69 = .ok (.getfield 22, 3) := by decide +kernel
theorem dX11_movesAll_72 : decode cX11_movesAll 72 = .ok (.invokevirtual 397, 3) := by decide +kernel
theorem dX11_movesAll_75 : decode cX11_movesAll 75 = .ok (.aload_n 0, 1) := by decide +kernel
theorem dX11_movesAll_76 : decode cX11_movesAll 76 = .ok (.aload_n 0, 1) := by decide +kernel
theorem dX11_movesAll_77 : decode cX11_movesAll 77 = .ok (.getfield 25, 3) := by decide +kernel
theorem dX11_movesAll_80 : decode cX11_movesAll 80 = .ok (.invokevirtual 397, 3) := by decide +kernel
theorem dX11_movesAll_83 : decode cX11_movesAll 83 = .ok (.return_, 1) := by decide +kernel
theorem dX11_keepsAct_0 : decode cX11_keepsAct 0 = .ok (.aload_n 0, 1) := by decide +kernel
theorem dX11_keepsAct_1 : decode cX11_keepsAct 1 = .ok (.getfield 298, 3) := by decide +kernel
theorem dX11_keepsAct_4 : decode cX11_keepsAct 4 = .ok (.bipush 20, 2) := by decide +kernel
theorem dX11_keepsAct_6 : decode cX11_keepsAct 6 = .ok (.if_icmp .ne 44, 3) := by decide +kernel
theorem dX11_keepsAct_9 : decode cX11_keepsAct 9 = .ok (.bipush 28, 2) := by decide +kernel
theorem dX11_keepsAct_11 : decode cX11_keepsAct 11 = .ok (.istore_n 1, 1) := by decide +kernel
theorem dX11_keepsAct_12 : decode cX11_keepsAct 12 = .ok (.iload_n 1, 1) := by decide +kernel
theorem dX11_keepsAct_13 : decode cX11_keepsAct 13 = .ok (.sipush 560, 3) := by decide +kernel
theorem dX11_keepsAct_16 : decode cX11_keepsAct 16 = .ok (.if_icmp .ge 24, 3) := by decide +kernel
theorem dX11_keepsAct_19 : decode cX11_keepsAct 19 = .ok (.aload_n 0, 1) := by decide +kernel
theorem dX11_keepsAct_20 : decode cX11_keepsAct 20 = .ok (.getfield 103, 3) := by decide +kernel
theorem dX11_keepsAct_23 : decode cX11_keepsAct 23 = .ok (.iload_n 1, 1) := by decide +kernel
theorem dX11_keepsAct_24 : decode cX11_keepsAct 24 = .ok (.bipush 28, 2) := by decide +kernel
theorem dX11_keepsAct_26 : decode cX11_keepsAct 26 = .ok (.isub, 1) := by decide +kernel
theorem dX11_keepsAct_27 : decode cX11_keepsAct 27 = .ok (.aload_n 0, 1) := by decide +kernel
theorem dX11_keepsAct_28 : decode cX11_keepsAct 28 = .ok (.getfield 103, 3) := by decide +kernel
theorem dX11_keepsAct_31 : decode cX11_keepsAct 31 = .ok (.iload_n 1, 1) := by decide +kernel
theorem dX11_keepsAct_32 : decode cX11_keepsAct 32 = .ok (.iaload, 1) := by decide +kernel
theorem dX11_keepsAct_33 : decode cX11_keepsAct 33 = .ok (.iastore, 1) := by decide +kernel
theorem dX11_keepsAct_34 : decode cX11_keepsAct 34 = .ok (.iinc 1 1, 3) := by decide +kernel
theorem dX11_keepsAct_37 : decode cX11_keepsAct 37 = .ok (.goto (-25), 3) := by decide +kernel
theorem dX11_keepsAct_40 : decode cX11_keepsAct 40 = .ok (.aload_n 0, 1) := by decide +kernel
theorem dX11_keepsAct_41 : decode cX11_keepsAct 41 = .ok (.dup, 1) := by decide +kernel
theorem dX11_keepsAct_42 : decode cX11_keepsAct 42 = .ok (.getfield 298, 3) := by decide +kernel
theorem dX11_keepsAct_45 : decode cX11_keepsAct 45 = .ok (.iconst 1, 1) := by decide +kernel
theorem dX11_keepsAct_46 : decode cX11_keepsAct 46 = .ok (.isub, 1) := by decide +kernel
theorem dX11_keepsAct_47 : decode cX11_keepsAct 47 = .ok (.putfield 298, 3) := by decide +kernel
theorem dX11_keepsAct_50 : decode cX11_keepsAct 50 = .ok (.aload_n 0, 1) := by decide +kernel
theorem dX11_keepsAct_51 : decode cX11_keepsAct 51 = .ok (.aload_n 0, 1) := by decide +kernel
theorem dX11_keepsAct_52 : decode cX11_keepsAct 52 = .ok (.getfield 298, 3) := by decide +kernel
theorem dX11_keepsAct_55 : decode cX11_keepsAct 55 = .ok (.iconst 0, 1) := by decide +kernel
theorem dX11_keepsAct_56 : decode cX11_keepsAct 56 = .ok (.invokevirtual 401, 3) := by decide +kernel
theorem dX11_keepsAct_59 : decode cX11_keepsAct 59 = .ok (.aload_n 0, 1) := by decide +kernel
theorem dX11_keepsAct_60 : decode cX11_keepsAct 60 = .ok (.dup, 1) := by decide +kernel
theorem dX11_keepsAct_61 : decode cX11_keepsAct 61 = .ok (.getfield 298, 3) := by decide +kernel
theorem dX11_keepsAct_64 : decode cX11_keepsAct 64 = .ok (.iconst 1, 1) := by decide +kernel
theorem dX11_keepsAct_65 : decode cX11_keepsAct 65 = .ok (.iadd, 1) := by decide +kernel
theorem dX11_keepsAct_66 : decode cX11_keepsAct 66 = .ok (.putfield 298, 3) := by decide +kernel
theorem dX11_keepsAct_69 : decode cX11_keepsAct 69 = .ok (.return_, 1) := by decide +kernel
theorem dX11_undo_0 : decode cX11_undo 0 = .ok (.aload_n 0, 1) := by decide +kernel
theorem dX11_undo_1 : decode cX11_undo 1 = .ok (.getfield 298, 3) := by decide +kernel
theorem dX11_undo_4 : decode cX11_undo 4 = .ok (.ifCond .ne 6, 3) := by decide +kernel
theorem dX11_undo_7 : decode cX11_undo 7 = .ok (.bipush (-2), 2) := by decide +kernel
theorem dX11_undo_9 : decode cX11_undo 9 = .ok (.ireturn, 1) := by decide +kernel
theorem dX11_undo_10 : decode cX11_undo 10 = .ok (.aload_n 0, 1) := by decide +kernel
theorem dX11_undo_11 : decode cX11_undo 11 = .ok (.dup, 1) := by decide +kernel
theorem dX11_undo_12 : decode cX11_undo 12 = .ok (.getfield 298, 3) := by decide +kernel
theorem dX11_undo_15 : decode cX11_undo 15 = .ok (.iconst 1, 1) := by decide +kernel
theorem dX11_undo_16 : decode cX11_undo 16 = .ok (.isub, 1) := by decide +kernel
theorem dX11_undo_17 : decode cX11_undo 17 = .ok (.putfield 298, 3) := by decide +kernel
theorem dX11_undo_20 : decode cX11_undo 20 = .ok (.aload_n 0, 1) := by decide +kernel
theorem dX11_undo_21 : decode cX11_undo 21 = .ok (.aload_n 0, 1) := by decide +kernel
theorem dX11_undo_22 : decode cX11_undo 22 = .ok (.getfield 298, 3) := by decide +kernel
theorem dX11_undo_25 : decode cX11_undo 25 = .ok (.iconst 1, 1) := by decide +kernel
theorem dX11_undo_26 : decode cX11_undo 26 = .ok (.invokevirtual 401, 3) := by decide +kernel
theorem dX11_undo_29 : decode cX11_undo 29 = .ok (.aload_n 0, 1) := by decide +kernel
theorem dX11_undo_30 : decode cX11_undo 30 = .ok (.getfield 298, 3) := by decide +kernel
theorem dX11_undo_33 : decode cX11_undo 33 = .ok (.ireturn, 1) := by decide +kernel
theorem dX11_week_0 : decode cX11_week 0 = .ok (.aload_n 0, 1) := by decide +kernel
theorem dX11_week_1 : decode cX11_week 1 = .ok (.invokevirtual 405, 3) := by decide +kernel
theorem dX11_week_4 : decode cX11_week 4 = .ok (.ifCond .eq 15, 3) := by decide +kernel
theorem dX11_week_7 : decode cX11_week 7 = .ok (.aload_n 0, 1) := by decide +kernel
theorem dX11_week_8 : decode cX11_week 8 = .ok (.getfield 9, 3) := by decide +kernel
theorem dX11_week_11 : decode cX11_week 11 = .ok (.iconst 4, 1) := by decide +kernel
theorem dX11_week_12 : decode cX11_week 12 = .ok (.iaload, 1) := by decide +kernel
theorem dX11_week_13 : decode cX11_week 13 = .ok (.sipush 999, 3) := by decide +kernel
theorem dX11_week_16 : decode cX11_week 16 = .ok (.if_icmp .ne 5, 3) := by decide +kernel
theorem dX11_week_19 : decode cX11_week 19 = .ok (.iconst (-1), 1) := by decide +kernel
theorem dX11_week_20 : decode cX11_week 20 = .ok (.ireturn, 1) := by decide +kernel
theorem dX11_week_21 : decode cX11_week 21 = .ok (.aload_n 0, 1) := by decide +kernel
theorem dX11_week_22 : decode cX11_week 22 = .ok (.invokevirtual 408, 3) := by decide +kernel
theorem dX11_week_25 : decode cX11_week 25 = .ok (.aload_n 0, 1) := by decide +kernel
theorem dX11_week_26 : decode cX11_week 26 = .ok (.invokevirtual 385, 3) := by decide +kernel
theorem dX11_week_29 : decode cX11_week 29 = .ok (.ireturn, 1) := by decide +kernel
theorem dX11_swap_0 : decode cX11_swap 0 = .ok (.aload_n 0, 1) := by decide +kernel
theorem dX11_swap_1 : decode cX11_swap 1 = .ok (.iload_n 1, 1) := by decide +kernel
theorem dX11_swap_2 : decode cX11_swap 2 = .ok (.invokevirtual 340, 3) := by decide +kernel
theorem dX11_swap_5 : decode cX11_swap 5 = .ok (.ifCond .eq 20, 3) := by decide +kernel
theorem dX11_swap_8 : decode cX11_swap 8 = .ok (.aload_n 0, 1) := by decide +kernel
theorem dX11_swap_9 : decode cX11_swap 9 = .ok (.iload_n 2, 1) := by decide +kernel
theorem dX11_swap_10 : decode cX11_swap 10 = .ok (.invokevirtual 340, 3) := by decide +kernel
theorem dX11_swap_13 : decode cX11_swap 13 = .ok (.ifCond .eq 12, 3) := by decide +kernel
theorem dX11_swap_16 : decode cX11_swap 16 = .ok (.aload_n 0, 1) := by decide +kernel
theorem dX11_swap_17 : decode cX11_swap 17 = .ok (.iload_n 1, 1) := by decide +kernel
theorem dX11_swap_18 : decode cX11_swap 18 = .ok (.iload_n 2, 1) := by decide +kernel
theorem dX11_swap_19 : decode cX11_swap 19 = .ok (.invokevirtual 337, 3) := by decide +kernel
theorem dX11_swap_22 : decode cX11_swap 22 = .ok (.ifCond .ne 5, 3) := by decide +kernel
theorem dX11_swap_25 : decode cX11_swap 25 = .ok (.iconst (-1), 1) := by decide +kernel
theorem dX11_swap_26 : decode cX11_swap 26 = .ok (.ireturn, 1) := by decide +kernel
theorem dX11_swap_27 : decode cX11_swap 27 = .ok (.aload_n 0, 1) := by decide +kernel
theorem dX11_swap_28 : decode cX11_swap 28 = .ok (.invokevirtual 408, 3) := by decide +kernel
theorem dX11_swap_31 : decode cX11_swap 31 = .ok (.aload_n 0, 1) := by decide +kernel
theorem dX11_swap_32 : decode cX11_swap 32 = .ok (.iload_n 1, 1) := by decide +kernel
theorem dX11_swap_33 : decode cX11_swap 33 = .ok (.iload_n 2, 1) := by decide +kernel
theorem dX11_swap_34 : decode cX11_swap 34 = .ok (.invokevirtual 379, 3) := by decide +kernel
theorem dX11_swap_37 : decode cX11_swap 37 = .ok (.aload_n 0, 1) := by decide +kernel
theorem dX11_swap_38 : decode cX11_swap 38 = .ok (.getfield 13, 3) := by decide +kernel
theorem dX11_swap_41 : decode cX11_swap 41 = .ok (.iload_n 1, 1) := by decide +kernel
theorem dX11_swap_42 : decode cX11_swap 42 = .ok (.iaload, 1) := by decide +kernel
theorem dX11_swap_43 : decode cX11_swap 43 = .ok (.ireturn, 1) := by decide +kernel
theorem dX11_give_0 : decode cX11_give 0 = .ok (.aload_n 0, 1) := by decide +kernel
theorem dX11_give_1 : decode cX11_give 1 = .ok (.iload_n 1, 1) := by decide +kernel
theorem dX11_give_2 : decode cX11_give 2 = .ok (.invokevirtual 340, 3) := by decide +kernel
theorem dX11_give_5 : decode cX11_give 5 = .ok (.ifCond .eq 38, 3) := by decide +kernel
theorem dX11_give_8 : decode cX11_give 8 = .ok (.aload_n 0, 1) := by decide +kernel
theorem dX11_give_9 : decode cX11_give 9 = .ok (.iload_n 2, 1) := by decide +kernel
theorem dX11_give_10 : decode cX11_give 10 = .ok (.invokevirtual 340, 3) := by decide +kernel
theorem dX11_give_13 : decode cX11_give 13 = .ok (.ifCond .eq 30, 3) := by decide +kernel
theorem dX11_give_16 : decode cX11_give 16 = .ok (.iload_n 1, 1) := by decide +kernel
theorem dX11_give_17 : decode cX11_give 17 = .ok (.iload_n 2, 1) := by decide +kernel
theorem dX11_give_18 : decode cX11_give 18 = .ok (.if_icmp .eq 25, 3) := by decide +kernel
theorem dX11_give_21 : decode cX11_give 21 = .ok (.iload_n 3, 1) := by decide +kernel
theorem dX11_give_22 : decode cX11_give 22 = .ok (.i2l, 1) := by decide +kernel
theorem dX11_give_23 : decode cX11_give 23 = .ok (.lconst 1, 1) := by decide +kernel
theorem dX11_give_24 : decode cX11_give 24 = .ok (.ldc2_w 411, 3) := by decide +kernel
theorem dX11_give_27 : decode cX11_give 27 = .ok (.invokestatic 134, 3) := by decide +kernel
theorem dX11_give_30 : decode cX11_give 30 = .ok (.ifCond .eq 13, 3) := by decide +kernel
theorem dX11_give_33 : decode cX11_give 33 = .ok (.aload_n 0, 1) := by decide +kernel
theorem dX11_give_34 : decode cX11_give 34 = .ok (.getfield 13, 3) := by decide +kernel
theorem dX11_give_37 : decode cX11_give 37 = .ok (.iload_n 1, 1) := by decide +kernel
theorem dX11_give_38 : decode cX11_give 38 = .ok (.iaload, 1) := by decide +kernel
theorem dX11_give_39 : decode cX11_give 39 = .ok (.iload_n 3, 1) := by decide +kernel
theorem dX11_give_40 : decode cX11_give 40 = .ok (.if_icmp .ge 5, 3) := by decide +kernel
theorem dX11_give_43 : decode cX11_give 43 = .ok (.iconst (-1), 1) := by decide +kernel
theorem dX11_give_44 : decode cX11_give 44 = .ok (.ireturn, 1) := by decide +kernel
theorem dX11_give_45 : decode cX11_give 45 = .ok (.aload_n 0, 1) := by decide +kernel
theorem dX11_give_46 : decode cX11_give 46 = .ok (.invokevirtual 408, 3) := by decide +kernel
theorem dX11_give_49 : decode cX11_give 49 = .ok (.aload_n 0, 1) := by decide +kernel
theorem dX11_give_50 : decode cX11_give 50 = .ok (.getfield 13, 3) := by decide +kernel
theorem dX11_give_53 : decode cX11_give 53 = .ok (.iload_n 1, 1) := by decide +kernel
theorem dX11_give_54 : decode cX11_give 54 = .ok (.dup2, 1) := by decide +kernel
theorem dX11_give_55 : decode cX11_give 55 = .ok (.iaload, 1) := by decide +kernel
theorem dX11_give_56 : decode cX11_give 56 = .ok (.iload_n 3, 1) := by decide +kernel
theorem dX11_give_57 : decode cX11_give 57 = .ok (.isub, 1) := by decide +kernel
theorem dX11_give_58 : decode cX11_give 58 = .ok (.iastore, 1) := by decide +kernel
theorem dX11_give_59 : decode cX11_give 59 = .ok (.aload_n 0, 1) := by decide +kernel
theorem dX11_give_60 : decode cX11_give 60 = .ok (.getfield 13, 3) := by decide +kernel
theorem dX11_give_63 : decode cX11_give 63 = .ok (.iload_n 2, 1) := by decide +kernel
theorem dX11_give_64 : decode cX11_give 64 = .ok (.aload_n 0, 1) := by decide +kernel
theorem dX11_give_65 : decode cX11_give 65 = .ok (.getfield 13, 3) := by decide +kernel
theorem dX11_give_68 : decode cX11_give 68 = .ok (.iload_n 2, 1) := by decide +kernel
