theorem dX2_take_15 : decode cX2_take 15 = .ok (.ireturn, 1) := by decide +kernel
theorem dX2_demand_0 : decode cX2_demand 0 = .ok (.aload_n 0, 1) := by decide +kernel
theorem dX2_demand_1 : decode cX2_demand 1 = .ok (.iload_n 1, 1) := by decide +kernel
theorem dX2_demand_2 : decode cX2_demand 2 = .ok (.invokevirtual 92, 3) := by decide +kernel
theorem dX2_demand_5 : decode cX2_demand 5 = .ok (.ifCond .ne 11, 3) := by decide +kernel
theorem dX2_demand_8 : decode cX2_demand 8 = .ok (.aload_n 0, 1) := by decide +kernel
theorem dX2_demand_9 : decode cX2_demand 9 = .ok (.iconst 0, 1) := by decide +kernel
theorem dX2_demand_10 : decode cX2_demand 10 = .ok (.invokevirtual 95, 3) := by decide +kernel
theorem dX2_demand_13 : decode cX2_demand 13 = .ok (.ifCond .eq 7, 3) := by decide +kernel
theorem dX2_demand_16 : decode cX2_demand 16 = .ok (.iconst 1, 1) := by decide +kernel
theorem dX2_demand_17 : decode cX2_demand 17 = .ok (.goto 4, 3) := by decide +kernel
theorem dX2_demand_20 : decode cX2_demand 20 = .ok (.iconst 0, 1) := by decide +kernel
theorem dX2_demand_21 : decode cX2_demand 21 = .ok (.ireturn, 1) := by decide +kernel
theorem dX2_fail_0 : decode cX2_fail 0 = .ok (.aload_n 0, 1) := by decide +kernel
theorem dX2_fail_1 : decode cX2_fail 1 = .ok (.getfield 34, 3) := by decide +kernel
theorem dX2_fail_4 : decode cX2_fail 4 = .ok (.ifCond .ne 34, 3) := by decide +kernel
theorem dX2_fail_7 : decode cX2_fail 7 = .ok (.aload_n 0, 1) := by decide +kernel
theorem dX2_fail_8 : decode cX2_fail 8 = .ok (.getfield 31, 3) := by decide +kernel
theorem dX2_fail_11 : decode cX2_fail 11 = .ok (.aload_n 0, 1) := by decide +kernel
theorem dX2_fail_12 : decode cX2_fail 12 = .ok (.getfield 28, 3) := by decide +kernel
theorem dX2_fail_15 : decode cX2_fail 15 = .ok (.if_icmp .ge 23, 3) := by decide +kernel
theorem dX2_fail_18 : decode cX2_fail 18 = .ok (.aload_n 0, 1) := by decide +kernel
theorem dX2_fail_19 : decode cX2_fail 19 = .ok (.iconst 1, 1) := by decide +kernel
theorem dX2_fail_20 : decode cX2_fail 20 = .ok (.bipush 8, 2) := by decide +kernel
theorem dX2_fail_22 : decode cX2_fail 22 = .ok (.aload_n 0, 1) := by decide +kernel
theorem dX2_fail_23 : decode cX2_fail 23 = .ok (.getfield 18, 3) := by decide +kernel
theorem dX2_fail_26 : decode cX2_fail 26 = .ok (.aload_n 0, 1) := by decide +kernel
theorem dX2_fail_27 : decode cX2_fail 27 = .ok (.getfield 31, 3) := by decide +kernel
theorem dX2_fail_30 : decode cX2_fail 30 = .ok (.iaload, 1) := by decide +kernel
theorem dX2_fail_31 : decode cX2_fail 31 = .ok (.imul, 1) := by decide +kernel
theorem dX2_fail_32 : decode cX2_fail 32 = .ok (.iadd, 1) := by decide +kernel
theorem dX2_fail_33 : decode cX2_fail 33 = .ok (.iload_n 1, 1) := by decide +kernel
theorem dX2_fail_34 : decode cX2_fail 34 = .ok (.iadd, 1) := by decide +kernel
theorem dX2_fail_35 : decode cX2_fail 35 = .ok (.putfield 34, 3) := by decide +kernel
theorem dX2_fail_38 : decode cX2_fail 38 = .ok (.iconst 0, 1) := by decide +kernel
theorem dX2_fail_39 : decode cX2_fail 39 = .ok (.ireturn, 1) := by decide +kernel
theorem dX2_takeNumber_0 : decode cX2_takeNumber 0 = .ok (.aload_n 0, 1) := by decide +kernel
theorem dX2_takeNumber_1 : decode cX2_takeNumber 1 = .ok (.invokevirtual 86, 3) := by decide +kernel
theorem dX2_takeNumber_4 : decode cX2_takeNumber 4 = .ok (.istore_n 3, 1) := by decide +kernel
theorem dX2_takeNumber_5 : decode cX2_takeNumber 5 = .ok (.iload_n 3, 1) := by decide +kernel
theorem dX2_takeNumber_6 : decode cX2_takeNumber 6 = .ok (.iconst 1, 1) := by decide +kernel
theorem dX2_takeNumber_7 : decode cX2_takeNumber 7 = .ok (.if_icmp .eq 14, 3) := by decide +kernel
theorem dX2_takeNumber_10 : decode cX2_takeNumber 10 = .ok (.iload_n 3, 1) := by decide +kernel
theorem dX2_takeNumber_11 : decode cX2_takeNumber 11 = .ok (.iconst 2, 1) := by decide +kernel
theorem dX2_takeNumber_12 : decode cX2_takeNumber 12 = .ok (.if_icmp .eq 9, 3) := by decide +kernel
theorem dX2_takeNumber_15 : decode cX2_takeNumber 15 = .ok (.aload_n 0, 1) := by decide +kernel
theorem dX2_takeNumber_16 : decode cX2_takeNumber 16 = .ok (.iconst 0, 1) := by decide +kernel
theorem dX2_takeNumber_17 : decode cX2_takeNumber 17 = .ok (.invokevirtual 95, 3) := by decide +kernel
theorem dX2_takeNumber_20 : decode cX2_takeNumber 20 = .ok (.ireturn, 1) := by decide +kernel
theorem dX2_takeNumber_21 : decode cX2_takeNumber 21 = .ok (.iload_n 3, 1) := by decide +kernel
theorem dX2_takeNumber_22 : decode cX2_takeNumber 22 = .ok (.iconst 2, 1) := by decide +kernel
theorem dX2_takeNumber_23 : decode cX2_takeNumber 23 = .ok (.if_icmp .eq 15, 3) := by decide +kernel
theorem dX2_takeNumber_26 : decode cX2_takeNumber 26 = .ok (.aload_n 0, 1) := by decide +kernel
theorem dX2_takeNumber_27 : decode cX2_takeNumber 27 = .ok (.invokevirtual 98, 3) := by decide +kernel
theorem dX2_takeNumber_30 : decode cX2_takeNumber 30 = .ok (.iload_n 1, 1) := by decide +kernel
theorem dX2_takeNumber_31 : decode cX2_takeNumber 31 = .ok (.iload_n 2, 1) := by decide +kernel
theorem dX2_takeNumber_32 : decode cX2_takeNumber 32 = .ok (.invokestatic 101, 3) := by decide +kernel
theorem dX2_takeNumber_35 : decode cX2_takeNumber 35 = .ok (.ifCond .ne 9, 3) := by decide +kernel
theorem dX2_takeNumber_38 : decode cX2_takeNumber 38 = .ok (.aload_n 0, 1) := by decide +kernel
theorem dX2_takeNumber_39 : decode cX2_takeNumber 39 = .ok (.iconst 1, 1) := by decide +kernel
theorem dX2_takeNumber_40 : decode cX2_takeNumber 40 = .ok (.invokevirtual 95, 3) := by decide +kernel
theorem dX2_takeNumber_43 : decode cX2_takeNumber 43 = .ok (.ireturn, 1) := by decide +kernel
theorem dX2_takeNumber_44 : decode cX2_takeNumber 44 = .ok (.aload_n 0, 1) := by decide +kernel
theorem dX2_takeNumber_45 : decode cX2_takeNumber 45 = .ok (.aload_n 0, 1) := by decide +kernel
theorem dX2_takeNumber_46 : decode cX2_takeNumber 46 = .ok (.invokevirtual 98, 3) := by decide +kernel
theorem dX2_takeNumber_49 : decode cX2_takeNumber 49 = .ok (.putfield 104, 3) := by decide +kernel
theorem dX2_takeNumber_52 : decode cX2_takeNumber 52 = .ok (.aload_n 0, 1) := by decide +kernel
theorem dX2_takeNumber_53 : decode cX2_takeNumber 53 = .ok (.invokevirtual 89, 3) := by decide +kernel
theorem dX2_takeNumber_56 : decode cX2_takeNumber 56 = .ok (.iconst 1, 1) := by decide +kernel
theorem dX2_takeNumber_57 : decode cX2_takeNumber 57 = .ok (.ireturn, 1) := by decide +kernel
theorem dX3_init_0 : decode cX3_init 0 = .ok (.aload_n 0, 1) := by decide +kernel
theorem dX3_init_1 : decode cX3_init 1 = .ok (.invokespecial 3, 3) := by decide +kernel
theorem dX3_init_4 : decode cX3_init 4 = .ok (.aload_n 0, 1) := by decide +kernel
theorem dX3_init_5 : decode cX3_init 5 = .ok (.sipush 400, 3) := by decide +kernel
theorem dX3_init_8 : decode cX3_init 8 = .ok (.newarray .int, 2) := by decide +kernel
theorem dX3_init_10 : decode cX3_init 10 = .ok (.putfield 9, 3) := by decide +kernel
theorem dX3_init_13 : decode cX3_init 13 = .ok (.aload_n 0, 1) := by decide +kernel
theorem dX3_init_14 : decode cX3_init 14 = .ok (.sipush 400, 3) := by decide +kernel
theorem dX3_init_17 : decode cX3_init 17 = .ok (.newarray .int, 2) := by decide +kernel
theorem dX3_init_19 : decode cX3_init 19 = .ok (.putfield 15, 3) := by decide +kernel
theorem dX3_init_22 : decode cX3_init 22 = .ok (.aload_n 0, 1) := by decide +kernel
theorem dX3_init_23 : decode cX3_init 23 = .ok (.bipush 12, 2) := by decide +kernel
theorem dX3_init_25 : decode cX3_init 25 = .ok (.newarray .int, 2) := by decide +kernel
theorem dX3_init_27 : decode cX3_init 27 = .ok (.putfield 18, 3) := by decide +kernel
theorem dX3_init_30 : decode cX3_init 30 = .ok (.aload_n 0, 1) := by decide +kernel
theorem dX3_init_31 : decode cX3_init 31 = .ok (.bipush 12, 2) := by decide +kernel
theorem dX3_init_33 : decode cX3_init 33 = .ok (.newarray .int, 2) := by decide +kernel
theorem dX3_init_35 : decode cX3_init 35 = .ok (.putfield 21, 3) := by decide +kernel
theorem dX3_init_38 : decode cX3_init 38 = .ok (.aload_n 0, 1) := by decide +kernel
theorem dX3_init_39 : decode cX3_init 39 = .ok (.bipush 12, 2) := by decide +kernel
theorem dX3_init_41 : decode cX3_init 41 = .ok (.newarray .int, 2) := by decide +kernel
theorem dX3_init_43 : decode cX3_init 43 = .ok (.putfield 24, 3) := by decide +kernel
theorem dX3_init_46 : decode cX3_init 46 = .ok (.aload_n 0, 1) := by decide +kernel
theorem dX3_init_47 : decode cX3_init 47 = .ok (.bipush 64, 2) := by decide +kernel
theorem dX3_init_49 : decode cX3_init 49 = .ok (.newarray .long, 2) := by decide +kernel
theorem dX3_init_51 : decode cX3_init 51 = .ok (.putfield 27, 3) := by decide +kernel
theorem dX3_init_54 : decode cX3_init 54 = .ok (.return_, 1) := by decide +kernel
theorem dX3_clear_0 : decode cX3_clear 0 = .ok (.aload_n 0, 1) := by decide +kernel
theorem dX3_clear_1 : decode cX3_clear 1 = .ok (.iconst 0, 1) := by decide +kernel
theorem dX3_clear_2 : decode cX3_clear 2 = .ok (.putfield 31, 3) := by decide +kernel
theorem dX3_clear_5 : decode cX3_clear 5 = .ok (.aload_n 0, 1) := by decide +kernel
theorem dX3_clear_6 : decode cX3_clear 6 = .ok (.iconst 0, 1) := by decide +kernel
theorem dX3_clear_7 : decode cX3_clear 7 = .ok (.putfield 35, 3) := by decide +kernel
theorem dX3_clear_10 : decode cX3_clear 10 = .ok (.return_, 1) := by decide +kernel
theorem dX3_add_0 : decode cX3_add 0 = .ok (.aload_n 0, 1) := by decide +kernel
theorem dX3_add_1 : decode cX3_add 1 = .ok (.getfield 31, 3) := by decide +kernel
theorem dX3_add_4 : decode cX3_add 4 = .ok (.sipush 400, 3) := by decide +kernel
theorem dX3_add_7 : decode cX3_add 7 = .ok (.if_icmp .ge 33, 3) := by decide +kernel
theorem dX3_add_10 : decode cX3_add 10 = .ok (.aload_n 0, 1) := by decide +kernel
theorem dX3_add_11 : decode cX3_add 11 = .ok (.getfield 9, 3) := by decide +kernel
theorem dX3_add_14 : decode cX3_add 14 = .ok (.aload_n 0, 1) := by decide +kernel
theorem dX3_add_15 : decode cX3_add 15 = .ok (.getfield 31, 3) := by decide +kernel
theorem dX3_add_18 : decode cX3_add 18 = .ok (.iload_n 1, 1) := by decide +kernel
theorem dX3_add_19 : decode cX3_add 19 = .ok (.iastore, 1) := by decide +kernel
theorem dX3_add_20 : decode cX3_add 20 = .ok (.aload_n 0, 1) := by decide +kernel
theorem dX3_add_21 : decode cX3_add 21 = .ok (.getfield 15, 3) := by decide +kernel
theorem dX3_add_24 : decode cX3_add 24 = .ok (.aload_n 0, 1) := by decide +kernel
theorem dX3_add_25 : decode cX3_add 25 = .ok (.getfield 31, 3) := by decide +kernel
theorem dX3_add_28 : decode cX3_add 28 = .ok (.iload_n 2, 1) := by decide +kernel
theorem dX3_add_29 : decode cX3_add 29 = .ok (.iastore, 1) := by decide +kernel
theorem dX3_add_30 : decode cX3_add 30 = .ok (.aload_n 0, 1) := by decide +kernel
theorem dX3_add_31 : decode cX3_add 31 = .ok (.dup, 1) := by decide +kernel
theorem dX3_add_32 : decode cX3_add 32 = .ok (.getfield 31, 3) := by decide +kernel
theorem dX3_add_35 : decode cX3_add 35 = .ok (.iconst 1, 1) := by decide +kernel
theorem dX3_add_36 : decode cX3_add 36 = .ok (.iadd, 1) := by decide +kernel
theorem dX3_add_37 : decode cX3_add 37 = .ok (.putfield 31, 3) := by decide +kernel
theorem dX3_add_40 : decode cX3_add 40 = .ok (.return_, 1) := by decide +kernel
theorem dX3_addClause_0 : decode cX3_addClause 0 = .ok (.aload_n 0, 1) := by decide +kernel
theorem dX3_addClause_1 : decode cX3_addClause 1 = .ok (.getfield 35, 3) := by decide +kernel
theorem dX3_addClause_4 : decode cX3_addClause 4 = .ok (.bipush 12, 2) := by decide +kernel
theorem dX3_addClause_6 : decode cX3_addClause 6 = .ok (.if_icmp .ge 46, 3) := by decide +kernel
theorem dX3_addClause_9 : decode cX3_addClause 9 = .ok (.aload_n 0, 1) := by decide +kernel
theorem dX3_addClause_10 : decode cX3_addClause 10 = .ok (.getfield 18, 3) := by decide +kernel
theorem dX3_addClause_13 : decode cX3_addClause 13 = .ok (.aload_n 0, 1) := by decide +kernel
theorem dX3_addClause_14 : decode cX3_addClause 14 = .ok (.getfield 35, 3) := by decide +kernel
theorem dX3_addClause_17 : decode cX3_addClause 17 = .ok (.iload_n 1, 1) := by decide +kernel
theorem dX3_addClause_18 : decode cX3_addClause 18 = .ok (.iastore, 1) := by decide +kernel
theorem dX3_addClause_19 : decode cX3_addClause 19 = .ok (.aload_n 0, 1) := by decide +kernel
theorem dX3_addClause_20 : decode cX3_addClause 20 = .ok (.getfield 21, 3) := by decide +kernel
theorem dX3_addClause_23 : decode cX3_addClause 23 = .ok (.aload_n 0, 1) := by decide +kernel
theorem dX3_addClause_24 : decode cX3_addClause 24 = .ok (.getfield 35, 3) := by decide +kernel
theorem dX3_addClause_27 : decode cX3_addClause 27 = .ok (.iload_n 2, 1) := by decide +kernel
theorem dX3_addClause_28 : decode cX3_addClause 28 = .ok (.iastore, 1) := by decide +kernel
theorem dX3_addClause_29 : decode cX3_addClause 29 = .ok (.aload_n 0, 1) := by decide +kernel
theorem dX3_addClause_30 : decode cX3_addClause 30 = .ok (.getfield 24, 3) := by decide +kernel
theorem dX3_addClause_33 : decode cX3_addClause 33 = .ok (.aload_n 0, 1) := by decide +kernel
theorem dX3_addClause_34 : decode cX3_addClause 34 = .ok (.getfield 35, 3) := by decide +kernel
theorem dX3_addClause_37 : decode cX3_addClause 37 = .ok (.aload_n 0, 1) := by decide +kernel
theorem dX3_addClause_38 : decode cX3_addClause 38 = .ok (.getfield 31, 3) := by decide +kernel
theorem dX3_addClause_41 : decode cX3_addClause 41 = .ok (.iastore, 1) := by decide +kernel
theorem dX3_addClause_42 : decode cX3_addClause 42 = .ok (.aload_n 0, 1) := by decide +kernel
theorem dX3_addClause_43 : decode cX3_addClause 43 = .ok (.dup, 1) := by decide +kernel
theorem dX3_addClause_44 : decode cX3_addClause 44 = .ok (.getfield 35, 3) := by decide +kernel
theorem dX3_addClause_47 : decode cX3_addClause 47 = .ok (.iconst 1, 1) := by decide +kernel
theorem dX3_addClause_48 : decode cX3_addClause 48 = .ok (.iadd, 1) := by decide +kernel
theorem dX3_addClause_49 : decode cX3_addClause 49 = .ok (.putfield 35, 3) := by decide +kernel
theorem dX3_addClause_52 : decode cX3_addClause 52 = .ok (.return_, 1) := by decide +kernel
theorem dX3_sumFor_0 : decode cX3_sumFor 0 = .ok (.iconst 0, 1) := by decide +kernel
theorem dX3_sumFor_1 : decode cX3_sumFor 1 = .ok (.istore_n 2, 1) := by decide +kernel
theorem dX3_sumFor_2 : decode cX3_sumFor 2 = .ok (.iload_n 2, 1) := by decide +kernel
theorem dX3_sumFor_3 : decode cX3_sumFor 3 = .ok (.aload_n 0, 1) := by decide +kernel
theorem dX3_sumFor_4 : decode cX3_sumFor 4 = .ok (.getfield 35, 3) := by decide +kernel
theorem dX3_sumFor_7 : decode cX3_sumFor 7 = .ok (.if_icmp .ge 64, 3) := by decide +kernel
theorem dX3_sumFor_10 : decode cX3_sumFor 10 = .ok (.aload_n 0, 1) := by decide +kernel
theorem dX3_sumFor_11 : decode cX3_sumFor 11 = .ok (.getfield 21, 3) := by decide +kernel
theorem dX3_sumFor_14 : decode cX3_sumFor 14 = .ok (.iload_n 2, 1) := by decide +kernel
theorem dX3_sumFor_15 : decode cX3_sumFor 15 = .ok (.iaload, 1) := by decide +kernel
theorem dX3_sumFor_16 : decode cX3_sumFor 16 = .ok (.aload_n 0, 1) := by decide +kernel
theorem dX3_sumFor_17 : decode cX3_sumFor 17 = .ok (.getfield 24, 3) := by decide +kernel
theorem dX3_sumFor_20 : decode cX3_sumFor 20 = .ok (.iload_n 2, 1) := by decide +kernel
theorem dX3_sumFor_21 : decode cX3_sumFor 21 = .ok (.iaload, 1) := by decide +kernel
theorem dX3_sumFor_22 : decode cX3_sumFor 22 = .ok (.if_icmp .eq 25, 3) := by decide +kernel
theorem dX3_sumFor_25 : decode cX3_sumFor 25 = .ok (.aload_n 0, 1) := by decide +kernel
theorem dX3_sumFor_26 : decode cX3_sumFor 26 = .ok (.aload_n 0, 1) := by decide +kernel
theorem dX3_sumFor_27 : decode cX3_sumFor 27 = .ok (.getfield 21, 3) := by decide +kernel
theorem dX3_sumFor_30 : decode cX3_sumFor 30 = .ok (.iload_n 2, 1) := by decide +kernel
theorem dX3_sumFor_31 : decode cX3_sumFor 31 = .ok (.iaload, 1) := by decide +kernel
theorem dX3_sumFor_32 : decode cX3_sumFor 32 = .ok (.aload_n 0, 1) := by decide +kernel
theorem dX3_sumFor_33 : decode cX3_sumFor 33 = .ok (.getfield 24, 3) := by decide +kernel
theorem dX3_sumFor_36 : decode cX3_sumFor 36 = .ok (.iload_n 2, 1) := by decide +kernel
theorem dX3_sumFor_37 : decode cX3_sumFor 37 = .ok (.iaload, 1) := by decide +kernel
theorem dX3_sumFor_38 : decode cX3_sumFor 38 = .ok (.aload_n 1, 1) := by decide +kernel
theorem dX3_sumFor_39 : decode cX3_sumFor 39 = .ok (.invokevirtual 38, 3) := by decide +kernel
theorem dX3_sumFor_42 : decode cX3_sumFor 42 = .ok (.lconst 0, 1) := by decide +kernel
theorem dX3_sumFor_43 : decode cX3_sumFor 43 = .ok (.lcmp, 1) := by decide +kernel
theorem dX3_sumFor_44 : decode cX3_sumFor 44 = .ok (.ifCond .eq 21, 3) := by decide +kernel
theorem dX3_sumFor_47 : decode cX3_sumFor 47 = .ok (.aload_n 0, 1) := by decide +kernel
theorem dX3_sumFor_48 : decode cX3_sumFor 48 = .ok (.aload_n 0, 1) := by decide +kernel
theorem dX3_sumFor_49 : decode cX3_sumFor 49 = .ok (.getfield 18, 3) := by decide +kernel
theorem dX3_sumFor_52 : decode cX3_sumFor 52 = .ok (.iload_n 2, 1) := by decide +kernel
theorem dX3_sumFor_53 : decode cX3_sumFor 53 = .ok (.iaload, 1) := by decide +kernel
theorem dX3_sumFor_54 : decode cX3_sumFor 54 = .ok (.aload_n 0, 1) := by decide +kernel
theorem dX3_sumFor_55 : decode cX3_sumFor 55 = .ok (.getfield 21, 3) := by decide +kernel
theorem dX3_sumFor_58 : decode cX3_sumFor 58 = .ok (.iload_n 2, 1) := by decide +kernel
theorem dX3_sumFor_59 : decode cX3_sumFor 59 = .ok (.iaload, 1) := by decide +kernel
theorem dX3_sumFor_60 : decode cX3_sumFor 60 = .ok (.aload_n 1, 1) := by decide +kernel
theorem dX3_sumFor_61 : decode cX3_sumFor 61 = .ok (.invokevirtual 38, 3) := by decide +kernel
theorem dX3_sumFor_64 : decode cX3_sumFor 64 = .ok (.lreturn, 1) := by decide +kernel
theorem dX3_sumFor_65 : decode cX3_sumFor 65 = .ok (.iinc 2 1, 3) := by decide +kernel
theorem dX3_sumFor_68 : decode cX3_sumFor 68 = .ok (.goto (-66), 3) := by decide +kernel
theorem dX3_sumFor_71 : decode cX3_sumFor 71 = .ok (.lconst 0, 1) := by decide +kernel
theorem dX3_sumFor_72 : decode cX3_sumFor 72 = .ok (.lreturn, 1) := by decide +kernel
theorem dX3_valueOf_0 : decode cX3_valueOf 0 = .ok (.iconst 0, 1) := by decide +kernel
theorem dX3_valueOf_1 : decode cX3_valueOf 1 = .ok (.istore 4, 2) := by decide +kernel
theorem dX3_valueOf_3 : decode cX3_valueOf 3 = .ok (.iload_n 1, 1) := by decide +kernel
theorem dX3_valueOf_4 : decode cX3_valueOf 4 = .ok (.istore 5, 2) := by decide +kernel
theorem dX3_valueOf_6 : decode cX3_valueOf 6 = .ok (.iload 5, 2) := by decide +kernel
theorem dX3_valueOf_8 : decode cX3_valueOf 8 = .ok (.iload_n 2, 1) := by decide +kernel
theorem dX3_valueOf_9 : decode cX3_valueOf 9 = .ok (.if_icmp .ge 174, 3) := by decide +kernel
theorem dX3_valueOf_12 : decode cX3_valueOf 12 = .ok (.aload_n 0, 1) := by decide +kernel
theorem dX3_valueOf_13 : decode cX3_valueOf 13 = .ok (.getfield 9, 3) := by decide +kernel
theorem dX3_valueOf_16 : decode cX3_valueOf 16 = .ok (.iload 5, 2) := by decide +kernel
theorem dX3_valueOf_18 : decode cX3_valueOf 18 = .ok (.iaload, 1) := by decide +kernel
theorem dX3_valueOf_19 : decode cX3_valueOf 19 = .ok (.istore 6, 2) := by decide +kernel
theorem dX3_valueOf_21 : decode cX3_valueOf 21 = .ok (.iload 6, 2) := by decide +kernel
theorem dX3_valueOf_23 : decode cX3_valueOf 23 = .ok (.iconst 1, 1) := by decide +kernel
theorem dX3_valueOf_24 : decode cX3_valueOf 24 = .ok (.if_icmp .ne 31, 3) := by decide +kernel
theorem dX3_valueOf_27 : decode cX3_valueOf 27 = .ok (.iload 4, 2) := by decide +kernel
theorem dX3_valueOf_29 : decode cX3_valueOf 29 = .ok (.bipush 64, 2) := by decide +kernel
theorem dX3_valueOf_31 : decode cX3_valueOf 31 = .ok (.if_icmp .ge 24, 3) := by decide +kernel
theorem dX3_valueOf_34 : decode cX3_valueOf 34 = .ok (.aload_n 0, 1) := by decide +kernel
theorem dX3_valueOf_35 : decode cX3_valueOf 35 = .ok (.getfield 27, 3) := by decide +kernel
theorem dX3_valueOf_38 : decode cX3_valueOf 38 = .ok (.iload 4, 2) := by decide +kernel
theorem dX3_valueOf_40 : decode cX3_valueOf 40 = .ok (.aload_n 0, 1) := by decide +kernel
theorem dX3_valueOf_41 : decode cX3_valueOf 41 = .ok (.getfield 15, 3) := by decide +kernel
theorem dX3_valueOf_44 : decode cX3_valueOf 44 = .ok (.iload 5, 2) := by decide +kernel
theorem dX3_valueOf_46 : decode cX3_valueOf 46 = .ok (.iaload, 1) := by decide +kernel
theorem dX3_valueOf_47 : decode cX3_valueOf 47 = .ok (.i2l, 1) := by decide +kernel
theorem dX3_valueOf_48 : decode cX3_valueOf 48 = .ok (.lastore, 1) := by decide +kernel
theorem dX3_valueOf_49 : decode cX3_valueOf 49 = .ok (.iinc 4 1, 3) := by decide +kernel
theorem dX3_valueOf_52 : decode cX3_valueOf 52 = .ok (.goto 125, 3) := by decide +kernel
theorem dX3_valueOf_55 : decode cX3_valueOf 55 = .ok (.iload 6, 2) := by decide +kernel
theorem dX3_valueOf_57 : decode cX3_valueOf 57 = .ok (.bipush 20, 2) := by decide +kernel
theorem dX3_valueOf_59 : decode cX3_valueOf 59 = .ok (.if_icmp .ne 44, 3) := by decide +kernel
theorem dX3_valueOf_62 : decode cX3_valueOf 62 = .ok (.iload 4, 2) := by decide +kernel
theorem dX3_valueOf_64 : decode cX3_valueOf 64 = .ok (.bipush 64, 2) := by decide +kernel
theorem dX3_valueOf_66 : decode cX3_valueOf 66 = .ok (.if_icmp .ge 37, 3) := by decide +kernel
theorem dX3_valueOf_69 : decode cX3_valueOf 69 = .ok (.aload_n 0, 1) := by decide +kernel
theorem dX3_valueOf_70 : decode cX3_valueOf 70 = .ok (.getfield 15, 3) := by decide +kernel
theorem dX3_valueOf_73 : decode cX3_valueOf 73 = .ok (.iload 5, 2) := by decide +kernel
theorem dX3_valueOf_75 : decode cX3_valueOf 75 = .ok (.iaload, 1) := by decide +kernel
theorem dX3_valueOf_76 : decode cX3_valueOf 76 = .ok (.aload_n 3, 1) := by decide +kernel
theorem dX3_valueOf_77 : decode cX3_valueOf 77 = .ok (.arraylength, 1) := by decide +kernel
theorem dX3_valueOf_78 : decode cX3_valueOf 78 = .ok (.if_icmp .ge 25, 3) := by decide +kernel
theorem dX3_valueOf_81 : decode cX3_valueOf 81 = .ok (.aload_n 0, 1) := by decide +kernel
theorem dX3_valueOf_82 : decode cX3_valueOf 82 = .ok (.getfield 27, 3) := by decide +kernel
theorem dX3_valueOf_85 : decode cX3_valueOf 85 = .ok (.iload 4, 2) := by decide +kernel
theorem dX3_valueOf_87 : decode cX3_valueOf 87 = .ok (.aload_n 3, 1) := by decide +kernel
theorem dX3_valueOf_88 : decode cX3_valueOf 88 = .ok (.aload_n 0, 1) := by decide +kernel
theorem dX3_valueOf_89 : decode cX3_valueOf 89 = .ok (.getfield 15, 3) := by decide +kernel
theorem dX3_valueOf_92 : decode cX3_valueOf 92 = .ok (.iload 5, 2) := by decide +kernel
theorem dX3_valueOf_94 : decode cX3_valueOf 94 = .ok (.iaload, 1) := by decide +kernel
theorem dX3_valueOf_95 : decode cX3_valueOf 95 = .ok (.laload, 1) := by decide +kernel
theorem dX3_valueOf_96 : decode cX3_valueOf 96 = .ok (.lastore, 1) := by decide +kernel
theorem dX3_valueOf_97 : decode cX3_valueOf 97 = .ok (.iinc 4 1, 3) := by decide +kernel
theorem dX3_valueOf_100 : decode cX3_valueOf 100 = .ok (.goto 77, 3) := by decide +kernel
theorem dX3_valueOf_103 : decode cX3_valueOf 103 = .ok (.iload 6, 2) := by decide +kernel
theorem dX3_valueOf_105 : decode cX3_valueOf 105 = .ok (.bipush 35, 2) := by decide +kernel
theorem dX3_valueOf_107 : decode cX3_valueOf 107 = .ok (.if_icmp .ne 31, 3) := by decide +kernel
theorem dX3_valueOf_110 : decode cX3_valueOf 110 = .ok (.iload 4, 2) := by decide +kernel
theorem dX3_valueOf_112 : decode cX3_valueOf 112 = .ok (.ifCond .le 26, 3) := by decide +kernel
theorem dX3_valueOf_115 : decode cX3_valueOf 115 = .ok (.aload_n 0, 1) := by decide +kernel
theorem dX3_valueOf_116 : decode cX3_valueOf 116 = .ok (.getfield 27, 3) := by decide +kernel
theorem dX3_valueOf_119 : decode cX3_valueOf 119 = .ok (.iload 4, 2) := by decide +kernel
theorem dX3_valueOf_121 : decode cX3_valueOf 121 = .ok (.iconst 1, 1) := by decide +kernel
theorem dX3_valueOf_122 : decode cX3_valueOf 122 = .ok (.isub, 1) := by decide +kernel
theorem dX3_valueOf_123 : decode cX3_valueOf 123 = .ok (.lconst 1, 1) := by decide +kernel
theorem dX3_valueOf_124 : decode cX3_valueOf 124 = .ok (.aload_n 0, 1) := by decide +kernel
theorem dX3_valueOf_125 : decode cX3_valueOf 125 = .ok (.getfield 27, 3) := by decide +kernel
theorem dX3_valueOf_128 : decode cX3_valueOf 128 = .ok (.iload 4, 2) := by decide +kernel
theorem dX3_valueOf_130 : decode cX3_valueOf 130 = .ok (.iconst 1, 1) := by decide +kernel
theorem dX3_valueOf_131 : decode cX3_valueOf 131 = .ok (.isub, 1) := by decide +kernel
theorem dX3_valueOf_132 : decode cX3_valueOf 132 = .ok (.laload, 1) := by decide +kernel
theorem dX3_valueOf_133 : decode cX3_valueOf 133 = .ok (.lsub, 1) := by decide +kernel
theorem dX3_valueOf_134 : decode cX3_valueOf 134 = .ok (.lastore, 1) := by decide +kernel
theorem dX3_valueOf_135 : decode cX3_valueOf 135 = .ok (.goto 42, 3) := by decide +kernel
theorem dX3_valueOf_138 : decode cX3_valueOf 138 = .ok (.iload 4, 2) := by decide +kernel
theorem dX3_valueOf_140 : decode cX3_valueOf 140 = .ok (.iconst 1, 1) := by decide +kernel
theorem dX3_valueOf_141 : decode cX3_valueOf 141 = .ok (.if_icmp .le 36, 3) := by decide +kernel
theorem dX3_valueOf_144 : decode cX3_valueOf 144 = .ok (.iinc 4 (-1), 3) := by decide +kernel
theorem dX3_valueOf_147 : decode cX3_valueOf 147 = .ok (.aload_n 0, 1) := by decide +kernel
theorem dX3_valueOf_148 : decode cX3_valueOf 148 = .ok (.getfield 27, 3) := by decide +kernel
theorem dX3_valueOf_151 : decode cX3_valueOf 151 = .ok (.iload 4, 2) := by decide +kernel
theorem dX3_valueOf_153 : decode cX3_valueOf 153 = .ok (.iconst 1, 1) := by decide +kernel
theorem dX3_valueOf_154 : decode cX3_valueOf 154 = .ok (.isub, 1) := by decide +kernel
theorem dX3_valueOf_155 : decode cX3_valueOf 155 = .ok (.iload 6, 2) := by decide +kernel
theorem dX3_valueOf_157 : decode cX3_valueOf 157 = .ok (.aload_n 0, 1) := by decide +kernel
theorem dX3_valueOf_158 : decode cX3_valueOf 158 = .ok (.getfield 27, 3) := by decide +kernel
theorem dX3_valueOf_161 : decode cX3_valueOf 161 = .ok (.iload 4, 2) := by decide +kernel
theorem dX3_valueOf_163 : decode cX3_valueOf 163 = .ok (.iconst 1, 1) := by decide +kernel
theorem dX3_valueOf_164 : decode cX3_valueOf 164 = .ok (.isub, 1) := by decide +kernel
theorem dX3_valueOf_165 : decode cX3_valueOf 165 = .ok (.laload, 1) := by decide +kernel
theorem dX3_valueOf_166 : decode cX3_valueOf 166 = .ok (.aload_n 0, 1) := by decide +kernel
theorem dX3_valueOf_167 : decode cX3_valueOf 167 = .ok (.getfield 27, 3) := by decide +kernel
theorem dX3_valueOf_170 : decode cX3_valueOf 170 = .ok (.iload 4, 2) := by decide +kernel
theorem dX3_valueOf_172 : decode cX3_valueOf 172 = .ok (.laload, 1) := by decide +kernel
theorem dX3_valueOf_173 : decode cX3_valueOf 173 = .ok (.invokestatic 42, 3) := by decide +kernel
theorem dX3_valueOf_176 : decode cX3_valueOf 176 = .ok (.lastore, 1) := by decide +kernel
theorem dX3_valueOf_177 : decode cX3_valueOf 177 = .ok (.iinc 5 1, 3) := by decide +kernel
theorem dX3_valueOf_180 : decode cX3_valueOf 180 = .ok (.goto (-174), 3) := by decide +kernel
theorem dX3_valueOf_183 : decode cX3_valueOf 183 = .ok (.iload 4, 2) := by decide +kernel
theorem dX3_valueOf_185 : decode cX3_valueOf 185 = .ok (.ifCond .le 15, 3) := by decide +kernel
theorem dX3_valueOf_188 : decode cX3_valueOf 188 = .ok (.aload_n 0, 1) := by decide +kernel
theorem dX3_valueOf_189 : decode cX3_valueOf 189 = .ok (.getfield 27, 3) := by decide +kernel
theorem dX3_valueOf_192 : decode cX3_valueOf 192 = .ok (.iload 4, 2) := by decide +kernel
theorem dX3_valueOf_194 : decode cX3_valueOf 194 = .ok (.iconst 1, 1) := by decide +kernel
theorem dX3_valueOf_195 : decode cX3_valueOf 195 = .ok (.isub, 1) := by decide +kernel
theorem dX3_valueOf_196 : decode cX3_valueOf 196 = .ok (.laload, 1) := by decide +kernel
theorem dX3_valueOf_197 : decode cX3_valueOf 197 = .ok (.goto 4, 3) := by decide +kernel
theorem dX3_valueOf_200 : decode cX3_valueOf 200 = .ok (.lconst 0, 1) := by decide +kernel
theorem dX3_valueOf_201 : decode cX3_valueOf 201 = .ok (.lreturn, 1) := by decide +kernel
theorem dX3_joined_0 : decode cX3_joined 0 = .ok (.iload_n 0, 1) := by decide +kernel
theorem dX3_joined_1 : decode cX3_joined 1 = .ok (.tableswitch 247 7 37 #[139, 143, 147, 151, 165, 179, 203, 227, 191, 215, 247, 247, 247, 247, 247, 247, 247, 247, 247, 247, 247, 247, 247, 247, 247, 247, 247, 247, 247, 239, 243], 139) := by decide +kernel
theorem dX3_joined_140 : decode cX3_joined 140 = .ok (.lload_n 1, 1) := by decide +kernel
theorem dX3_joined_141 : decode cX3_joined 141 = .ok (.lload_n 3, 1) := by decide +kernel
theorem dX3_joined_142 : decode cX3_joined 142 = .ok (.ladd, 1) := by decide +kernel
theorem dX3_joined_143 : decode cX3_joined 143 = .ok (.lreturn, 1) := by decide +kernel
theorem dX3_joined_144 : decode cX3_joined 144 = .ok (.lload_n 1, 1) := by decide +kernel
theorem dX3_joined_145 : decode cX3_joined 145 = .ok (.lload_n 3, 1) := by decide +kernel
theorem dX3_joined_146 : decode cX3_joined 146 = .ok (.lsub, 1) := by decide +kernel
theorem dX3_joined_147 : decode cX3_joined 147 = .ok (.lreturn, 1) := by decide +kernel
theorem dX3_joined_148 : decode cX3_joined 148 = .ok (.lload_n 1, 1) := by decide +kernel
theorem dX3_joined_149 : decode cX3_joined 149 = .ok (.lload_n 3, 1) := by decide +kernel
theorem dX3_joined_150 : decode cX3_joined 150 = .ok (.lmul, 1) := by decide +kernel
theorem dX3_joined_151 : decode cX3_joined 151 = .ok (.lreturn, 1) := by decide +kernel
theorem dX3_joined_152 : decode cX3_joined 152 = .ok (.lload_n 3, 1) := by decide +kernel
theorem dX3_joined_153 : decode cX3_joined 153 = .ok (.lconst 0, 1) := by decide +kernel
theorem dX3_joined_154 : decode cX3_joined 154 = .ok (.lcmp, 1) := by decide +kernel
theorem dX3_joined_155 : decode cX3_joined 155 = .ok (.ifCond .ne 7, 3) := by decide +kernel
theorem dX3_joined_158 : decode cX3_joined 158 = .ok (.lconst 0, 1) := by decide +kernel
theorem dX3_joined_159 : decode cX3_joined 159 = .ok (.goto 6, 3) := by decide +kernel
theorem dX3_joined_162 : decode cX3_joined 162 = .ok (.lload_n 1, 1) := by decide +kernel
theorem dX3_joined_163 : decode cX3_joined 163 = .ok (.lload_n 3, 1) := by decide +kernel
theorem dX3_joined_164 : decode cX3_joined 164 = .ok (.ldiv, 1) := by decide +kernel
theorem dX3_joined_165 : decode cX3_joined 165 = .ok (.lreturn, 1) := by decide +kernel
theorem dX3_joined_166 : decode cX3_joined 166 = .ok (.lload_n 3, 1) := by decide +kernel
theorem dX3_joined_167 : decode cX3_joined 167 = .ok (.lconst 0, 1) := by decide +kernel
theorem dX3_joined_168 : decode cX3_joined 168 = .ok (.lcmp, 1) := by decide +kernel
theorem dX3_joined_169 : decode cX3_joined 169 = .ok (.ifCond .ne 7, 3) := by decide +kernel
theorem dX3_joined_172 : decode cX3_joined 172 = .ok (.lconst 0, 1) := by decide +kernel
theorem dX3_joined_173 : decode cX3_joined 173 = .ok (.goto 6, 3) := by decide +kernel
theorem dX3_joined_176 : decode cX3_joined 176 = .ok (.lload_n 1, 1) := by decide +kernel
theorem dX3_joined_177 : decode cX3_joined 177 = .ok (.lload_n 3, 1) := by decide +kernel
theorem dX3_joined_178 : decode cX3_joined 178 = .ok (.lrem, 1) := by decide +kernel
theorem dX3_joined_179 : decode cX3_joined 179 = .ok (.lreturn, 1) := by decide +kernel
theorem dX3_joined_180 : decode cX3_joined 180 = .ok (.lload_n 1, 1) := by decide +kernel
theorem dX3_joined_181 : decode cX3_joined 181 = .ok (.lload_n 3, 1) := by decide +kernel
theorem dX3_joined_182 : decode cX3_joined 182 = .ok (.lcmp, 1) := by decide +kernel
theorem dX3_joined_183 : decode cX3_joined 183 = .ok (.ifCond .ge 7, 3) := by decide +kernel
theorem dX3_joined_186 : decode cX3_joined 186 = .ok (.lconst 1, 1) := by decide +kernel
theorem dX3_joined_187 : decode cX3_joined 187 = .ok (.goto 4, 3) := by decide +kernel
theorem dX3_joined_190 : decode cX3_joined 190 = .ok (.lconst 0, 1) := by decide +kernel
theorem dX3_joined_191 : decode cX3_joined 191 = .ok (.lreturn, 1) := by decide +kernel
theorem dX3_joined_192 : decode cX3_joined 192 = .ok (.lload_n 1, 1) := by decide +kernel
theorem dX3_joined_193 : decode cX3_joined 193 = .ok (.lload_n 3, 1) := by decide +kernel
theorem dX3_joined_194 : decode cX3_joined 194 = .ok (.lcmp, 1) := by decide +kernel
theorem dX3_joined_195 : decode cX3_joined 195 = .ok (.ifCond .gt 7, 3) := by decide +kernel
theorem dX3_joined_198 : decode cX3_joined 198 = .ok (.lconst 1, 1) := by decide +kernel
theorem dX3_joined_199 : decode cX3_joined 199 = .ok (.goto 4, 3) := by decide +kernel
theorem dX3_joined_202 : decode cX3_joined 202 = .ok (.lconst 0, 1) := by decide +kernel
theorem dX3_joined_203 : decode cX3_joined 203 = .ok (.lreturn, 1) := by decide +kernel
theorem dX3_joined_204 : decode cX3_joined 204 = .ok (.lload_n 1, 1) := by decide +kernel
theorem dX3_joined_205 : decode cX3_joined 205 = .ok (.lload_n 3, 1) := by decide +kernel
theorem dX3_joined_206 : decode cX3_joined 206 = .ok (.lcmp, 1) := by decide +kernel
theorem dX3_joined_207 : decode cX3_joined 207 = .ok (.ifCond .ne 7, 3) := by decide +kernel
theorem dX3_joined_210 : decode cX3_joined 210 = .ok (.lconst 1, 1) := by decide +kernel
theorem dX3_joined_211 : decode cX3_joined 211 = .ok (.goto 4, 3) := by decide +kernel
theorem dX3_joined_214 : decode cX3_joined 214 = .ok (.lconst 0, 1) := by decide +kernel
theorem dX3_joined_215 : decode cX3_joined 215 = .ok (.lreturn, 1) := by decide +kernel
theorem dX3_joined_216 : decode cX3_joined 216 = .ok (.lload_n 1, 1) := by decide +kernel
theorem dX3_joined_217 : decode cX3_joined 217 = .ok (.lload_n 3, 1) := by decide +kernel
theorem dX3_joined_218 : decode cX3_joined 218 = .ok (.lcmp, 1) := by decide +kernel
theorem dX3_joined_219 : decode cX3_joined 219 = .ok (.ifCond .lt 7, 3) := by decide +kernel
theorem dX3_joined_222 : decode cX3_joined 222 = .ok (.lconst 1, 1) := by decide +kernel
theorem dX3_joined_223 : decode cX3_joined 223 = .ok (.goto 4, 3) := by decide +kernel
theorem dX3_joined_226 : decode cX3_joined 226 = .ok (.lconst 0, 1) := by decide +kernel
theorem dX3_joined_227 : decode cX3_joined 227 = .ok (.lreturn, 1) := by decide +kernel
theorem dX3_joined_228 : decode cX3_joined 228 = .ok (.lload_n 1, 1) := by decide +kernel
theorem dX3_joined_229 : decode cX3_joined 229 = .ok (.lload_n 3, 1) := by decide +kernel
theorem dX3_joined_230 : decode cX3_joined 230 = .ok (.lcmp, 1) := by decide +kernel
theorem dX3_joined_231 : decode cX3_joined 231 = .ok (.ifCond .le 7, 3) := by decide +kernel
theorem dX3_joined_234 : decode cX3_joined 234 = .ok (.lconst 1, 1) := by decide +kernel
theorem dX3_joined_235 : decode cX3_joined 235 = .ok (.goto 4, 3) := by decide +kernel
theorem dX3_joined_238 : decode cX3_joined 238 = .ok (.lconst 0, 1) := by decide +kernel
theorem dX3_joined_239 : decode cX3_joined 239 = .ok (.lreturn, 1) := by decide +kernel
theorem dX3_joined_240 : decode cX3_joined 240 = .ok (.lload_n 1, 1) := by decide +kernel
theorem dX3_joined_241 : decode cX3_joined 241 = .ok (.lload_n 3, 1) := by decide +kernel
theorem dX3_joined_242 : decode cX3_joined 242 = .ok (.land, 1) := by decide +kernel
theorem dX3_joined_243 : decode cX3_joined 243 = .ok (.lreturn, 1) := by decide +kernel
theorem dX3_joined_244 : decode cX3_joined 244 = .ok (.lload_n 1, 1) := by decide +kernel
theorem dX3_joined_245 : decode cX3_joined 245 = .ok (.lload_n 3, 1) := by decide +kernel
theorem dX3_joined_246 : decode cX3_joined 246 = .ok (.lor, 1) := by decide +kernel
theorem dX3_joined_247 : decode cX3_joined 247 = .ok (.lreturn, 1) := by decide +kernel
theorem dX3_joined_248 : decode cX3_joined 248 = .ok (.lconst 0, 1) := by decide +kernel
theorem dX3_joined_249 : decode cX3_joined 249 = .ok (.lreturn, 1) := by decide +kernel
theorem dX4_init_0 : decode cX4_init 0 = .ok (.aload_n 0, 1) := by decide +kernel
theorem dX4_init_1 : decode cX4_init 1 = .ok (.invokespecial 3, 3) := by decide +kernel
theorem dX4_init_4 : decode cX4_init 4 = .ok (.aload_n 0, 1) := by decide +kernel
theorem dX4_init_5 : decode cX4_init 5 = .ok (.aload_n 1, 1) := by decide +kernel
theorem dX4_init_6 : decode cX4_init 6 = .ok (.putfield 9, 3) := by decide +kernel
theorem dX4_init_9 : decode cX4_init 9 = .ok (.return_, 1) := by decide +kernel
theorem dX4_read_0 : decode cX4_read 0 = .ok (.aload_n 1, 1) := by decide +kernel
theorem dX4_read_1 : decode cX4_read 1 = .ok (.invokevirtual 15, 3) := by decide +kernel
theorem dX4_read_4 : decode cX4_read 4 = .ok (.aload_n 0, 1) := by decide +kernel
theorem dX4_read_5 : decode cX4_read 5 = .ok (.iconst 0, 1) := by decide +kernel
theorem dX4_read_6 : decode cX4_read 6 = .ok (.putfield 20, 3) := by decide +kernel
theorem dX4_read_9 : decode cX4_read 9 = .ok (.iconst 0, 1) := by decide +kernel
theorem dX4_read_10 : decode cX4_read 10 = .ok (.istore_n 2, 1) := by decide +kernel
theorem dX4_read_11 : decode cX4_read 11 = .ok (.iload_n 2, 1) := by decide +kernel
theorem dX4_read_12 : decode cX4_read 12 = .ok (.bipush 12, 2) := by decide +kernel
theorem dX4_read_14 : decode cX4_read 14 = .ok (.if_icmp .gt 119, 3) := by decide +kernel
theorem dX4_read_17 : decode cX4_read 17 = .ok (.aload_n 0, 1) := by decide +kernel
theorem dX4_read_18 : decode cX4_read 18 = .ok (.iload_n 2, 1) := by decide +kernel
theorem dX4_read_19 : decode cX4_read 19 = .ok (.invokevirtual 24, 3) := by decide +kernel
theorem dX4_read_22 : decode cX4_read 22 = .ok (.ifCond .ne 11, 3) := by decide +kernel
theorem dX4_read_25 : decode cX4_read 25 = .ok (.aload_n 0, 1) := by decide +kernel
theorem dX4_read_26 : decode cX4_read 26 = .ok (.getfield 9, 3) := by decide +kernel
theorem dX4_read_29 : decode cX4_read 29 = .ok (.getfield 28, 3) := by decide +kernel
theorem dX4_read_32 : decode cX4_read 32 = .ok (.ireturn, 1) := by decide +kernel
theorem dX4_read_33 : decode cX4_read 33 = .ok (.aload_n 1, 1) := by decide +kernel
theorem dX4_read_34 : decode cX4_read 34 = .ok (.getfield 33, 3) := by decide +kernel
theorem dX4_read_37 : decode cX4_read 37 = .ok (.istore_n 3, 1) := by decide +kernel
theorem dX4_read_38 : decode cX4_read 38 = .ok (.aload_n 0, 1) := by decide +kernel
theorem dX4_read_39 : decode cX4_read 39 = .ok (.aload_n 1, 1) := by decide +kernel
theorem dX4_read_40 : decode cX4_read 40 = .ok (.invokevirtual 36, 3) := by decide +kernel
theorem dX4_read_43 : decode cX4_read 43 = .ok (.ifCond .ne 11, 3) := by decide +kernel
theorem dX4_read_46 : decode cX4_read 46 = .ok (.aload_n 0, 1) := by decide +kernel
theorem dX4_read_47 : decode cX4_read 47 = .ok (.getfield 9, 3) := by decide +kernel
theorem dX4_read_50 : decode cX4_read 50 = .ok (.getfield 28, 3) := by decide +kernel
theorem dX4_read_53 : decode cX4_read 53 = .ok (.ireturn, 1) := by decide +kernel
theorem dX4_read_54 : decode cX4_read 54 = .ok (.aload_n 1, 1) := by decide +kernel
theorem dX4_read_55 : decode cX4_read 55 = .ok (.getfield 33, 3) := by decide +kernel
theorem dX4_read_58 : decode cX4_read 58 = .ok (.istore 4, 2) := by decide +kernel
theorem dX4_read_60 : decode cX4_read 60 = .ok (.aload_n 0, 1) := by decide +kernel
theorem dX4_read_61 : decode cX4_read 61 = .ok (.getfield 9, 3) := by decide +kernel
theorem dX4_read_64 : decode cX4_read 64 = .ok (.bipush 34, 2) := by decide +kernel
theorem dX4_read_66 : decode cX4_read 66 = .ok (.invokevirtual 40, 3) := by decide +kernel
theorem dX4_read_69 : decode cX4_read 69 = .ok (.ifCond .eq 20, 3) := by decide +kernel
theorem dX4_read_72 : decode cX4_read 72 = .ok (.aload_n 0, 1) := by decide +kernel
theorem dX4_read_73 : decode cX4_read 73 = .ok (.aload_n 1, 1) := by decide +kernel
theorem dX4_read_74 : decode cX4_read 74 = .ok (.iconst 0, 1) := by decide +kernel
theorem dX4_read_75 : decode cX4_read 75 = .ok (.invokevirtual 43, 3) := by decide +kernel
theorem dX4_read_78 : decode cX4_read 78 = .ok (.ifCond .ne 11, 3) := by decide +kernel
theorem dX4_read_81 : decode cX4_read 81 = .ok (.aload_n 0, 1) := by decide +kernel
theorem dX4_read_82 : decode cX4_read 82 = .ok (.getfield 9, 3) := by decide +kernel
theorem dX4_read_85 : decode cX4_read 85 = .ok (.getfield 28, 3) := by decide +kernel
theorem dX4_read_88 : decode cX4_read 88 = .ok (.ireturn, 1) := by decide +kernel
theorem dX4_read_89 : decode cX4_read 89 = .ok (.aload_n 1, 1) := by decide +kernel
theorem dX4_read_90 : decode cX4_read 90 = .ok (.iload_n 3, 1) := by decide +kernel
theorem dX4_read_91 : decode cX4_read 91 = .ok (.iload 4, 2) := by decide +kernel
theorem dX4_read_93 : decode cX4_read 93 = .ok (.invokevirtual 47, 3) := by decide +kernel
theorem dX4_read_96 : decode cX4_read 96 = .ok (.aload_n 0, 1) := by decide +kernel
theorem dX4_read_97 : decode cX4_read 97 = .ok (.getfield 9, 3) := by decide +kernel
theorem dX4_read_100 : decode cX4_read 100 = .ok (.invokevirtual 51, 3) := by decide +kernel
theorem dX4_read_103 : decode cX4_read 103 = .ok (.ifCond .ne 5, 3) := by decide +kernel
theorem dX4_read_106 : decode cX4_read 106 = .ok (.iconst 0, 1) := by decide +kernel
theorem dX4_read_107 : decode cX4_read 107 = .ok (.ireturn, 1) := by decide +kernel
theorem dX4_read_108 : decode cX4_read 108 = .ok (.aload_n 0, 1) := by decide +kernel
theorem dX4_read_109 : decode cX4_read 109 = .ok (.getfield 9, 3) := by decide +kernel
theorem dX4_read_112 : decode cX4_read 112 = .ok (.iconst 4, 1) := by decide +kernel
theorem dX4_read_113 : decode cX4_read 113 = .ok (.invokevirtual 55, 3) := by decide +kernel
theorem dX4_read_116 : decode cX4_read 116 = .ok (.ifCond .ne 11, 3) := by decide +kernel
theorem dX4_read_119 : decode cX4_read 119 = .ok (.aload_n 0, 1) := by decide +kernel
theorem dX4_read_120 : decode cX4_read 120 = .ok (.getfield 9, 3) := by decide +kernel
theorem dX4_read_123 : decode cX4_read 123 = .ok (.getfield 28, 3) := by decide +kernel
theorem dX4_read_126 : decode cX4_read 126 = .ok (.ireturn, 1) := by decide +kernel
theorem dX4_read_127 : decode cX4_read 127 = .ok (.iinc 2 1, 3) := by decide +kernel
theorem dX4_read_130 : decode cX4_read 130 = .ok (.goto (-119), 3) := by decide +kernel
theorem dX4_read_133 : decode cX4_read 133 = .ok (.aload_n 0, 1) := by decide +kernel
theorem dX4_read_134 : decode cX4_read 134 = .ok (.getfield 9, 3) := by decide +kernel
theorem dX4_read_137 : decode cX4_read 137 = .ok (.getfield 28, 3) := by decide +kernel
theorem dX4_read_140 : decode cX4_read 140 = .ok (.ireturn, 1) := by decide +kernel
theorem dX4_takeBuy_0 : decode cX4_takeBuy 0 = .ok (.aload_n 0, 1) := by decide +kernel
theorem dX4_takeBuy_1 : decode cX4_takeBuy 1 = .ok (.getfield 9, 3) := by decide +kernel
theorem dX4_takeBuy_4 : decode cX4_takeBuy 4 = .ok (.invokevirtual 51, 3) := by decide +kernel
theorem dX4_takeBuy_7 : decode cX4_takeBuy 7 = .ok (.bipush 33, 2) := by decide +kernel
theorem dX4_takeBuy_9 : decode cX4_takeBuy 9 = .ok (.if_icmp .ne 18, 3) := by decide +kernel
theorem dX4_takeBuy_12 : decode cX4_takeBuy 12 = .ok (.iload_n 1, 1) := by decide +kernel
theorem dX4_takeBuy_13 : decode cX4_takeBuy 13 = .ok (.bipush 12, 2) := by decide +kernel
theorem dX4_takeBuy_15 : decode cX4_takeBuy 15 = .ok (.if_icmp .lt 12, 3) := by decide +kernel
theorem dX4_takeBuy_18 : decode cX4_takeBuy 18 = .ok (.aload_n 0, 1) := by decide +kernel
theorem dX4_takeBuy_19 : decode cX4_takeBuy 19 = .ok (.getfield 9, 3) := by decide +kernel
theorem dX4_takeBuy_22 : decode cX4_takeBuy 22 = .ok (.iconst 4, 1) := by decide +kernel
theorem dX4_takeBuy_23 : decode cX4_takeBuy 23 = .ok (.invokevirtual 58, 3) := by decide +kernel
theorem dX4_takeBuy_26 : decode cX4_takeBuy 26 = .ok (.ireturn, 1) := by decide +kernel
theorem dX4_takeBuy_27 : decode cX4_takeBuy 27 = .ok (.aload_n 0, 1) := by decide +kernel
theorem dX4_takeBuy_28 : decode cX4_takeBuy 28 = .ok (.getfield 9, 3) := by decide +kernel
theorem dX4_takeBuy_31 : decode cX4_takeBuy 31 = .ok (.bipush 33, 2) := by decide +kernel
theorem dX4_takeBuy_33 : decode cX4_takeBuy 33 = .ok (.invokevirtual 55, 3) := by decide +kernel
theorem dX4_takeBuy_36 : decode cX4_takeBuy 36 = .ok (.ireturn, 1) := by decide +kernel
theorem dX4_readTest_0 : decode cX4_readTest 0 = .ok (.aload_n 0, 1) := by decide +kernel
theorem dX4_readTest_1 : decode cX4_readTest 1 = .ok (.aload_n 1, 1) := by decide +kernel
theorem dX4_readTest_2 : decode cX4_readTest 2 = .ok (.iload_n 2, 1) := by decide +kernel
theorem dX4_readTest_3 : decode cX4_readTest 3 = .ok (.invokevirtual 61, 3) := by decide +kernel
theorem dX4_readTest_6 : decode cX4_readTest 6 = .ok (.ifCond .ne 5, 3) := by decide +kernel
theorem dX4_readTest_9 : decode cX4_readTest 9 = .ok (.iconst 0, 1) := by decide +kernel
theorem dX4_readTest_10 : decode cX4_readTest 10 = .ok (.ireturn, 1) := by decide +kernel
theorem dX4_readTest_11 : decode cX4_readTest 11 = .ok (.iconst 0, 1) := by decide +kernel
theorem dX4_readTest_12 : decode cX4_readTest 12 = .ok (.istore_n 3, 1) := by decide +kernel
theorem dX4_readTest_13 : decode cX4_readTest 13 = .ok (.iconst 0, 1) := by decide +kernel
theorem dX4_readTest_14 : decode cX4_readTest 14 = .ok (.istore 4, 2) := by decide +kernel
theorem dX4_readTest_16 : decode cX4_readTest 16 = .ok (.iload 4, 2) := by decide +kernel
theorem dX4_readTest_18 : decode cX4_readTest 18 = .ok (.sipush 400, 3) := by decide +kernel
theorem dX4_readTest_21 : decode cX4_readTest 21 = .ok (.if_icmp .ge 90, 3) := by decide +kernel
theorem dX4_readTest_24 : decode cX4_readTest 24 = .ok (.aload_n 0, 1) := by decide +kernel
theorem dX4_readTest_25 : decode cX4_readTest 25 = .ok (.getfield 9, 3) := by decide +kernel
theorem dX4_readTest_28 : decode cX4_readTest 28 = .ok (.invokevirtual 51, 3) := by decide +kernel
theorem dX4_readTest_31 : decode cX4_readTest 31 = .ok (.istore 5, 2) := by decide +kernel
theorem dX4_readTest_33 : decode cX4_readTest 33 = .ok (.iload 5, 2) := by decide +kernel
theorem dX4_readTest_35 : decode cX4_readTest 35 = .ok (.bipush 36, 2) := by decide +kernel
theorem dX4_readTest_37 : decode cX4_readTest 37 = .ok (.if_icmp .eq 13, 3) := by decide +kernel
theorem dX4_readTest_40 : decode cX4_readTest 40 = .ok (.iload 5, 2) := by decide +kernel
theorem dX4_readTest_42 : decode cX4_readTest 42 = .ok (.bipush 37, 2) := by decide +kernel
theorem dX4_readTest_44 : decode cX4_readTest 44 = .ok (.if_icmp .eq 6, 3) := by decide +kernel
theorem dX4_readTest_47 : decode cX4_readTest 47 = .ok (.goto 64, 3) := by decide +kernel
theorem dX4_readTest_50 : decode cX4_readTest 50 = .ok (.aload_n 0, 1) := by decide +kernel
theorem dX4_readTest_51 : decode cX4_readTest 51 = .ok (.getfield 9, 3) := by decide +kernel
theorem dX4_readTest_54 : decode cX4_readTest 54 = .ok (.invokevirtual 64, 3) := by decide +kernel
theorem dX4_readTest_57 : decode cX4_readTest 57 = .ok (.iload 5, 2) := by decide +kernel
theorem dX4_readTest_59 : decode cX4_readTest 59 = .ok (.bipush 37, 2) := by decide +kernel
theorem dX4_readTest_61 : decode cX4_readTest 61 = .ok (.if_icmp .ne 14, 3) := by decide +kernel
theorem dX4_readTest_64 : decode cX4_readTest 64 = .ok (.iload_n 3, 1) := by decide +kernel
theorem dX4_readTest_65 : decode cX4_readTest 65 = .ok (.ifCond .eq 10, 3) := by decide +kernel
theorem dX4_readTest_68 : decode cX4_readTest 68 = .ok (.aload_n 1, 1) := by decide +kernel
theorem dX4_readTest_69 : decode cX4_readTest 69 = .ok (.bipush 37, 2) := by decide +kernel
theorem dX4_readTest_71 : decode cX4_readTest 71 = .ok (.iconst 0, 1) := by decide +kernel
theorem dX4_readTest_72 : decode cX4_readTest 72 = .ok (.invokevirtual 67, 3) := by decide +kernel
theorem dX4_readTest_75 : decode cX4_readTest 75 = .ok (.aload_n 0, 1) := by decide +kernel
theorem dX4_readTest_76 : decode cX4_readTest 76 = .ok (.aload_n 1, 1) := by decide +kernel
theorem dX4_readTest_77 : decode cX4_readTest 77 = .ok (.iload_n 2, 1) := by decide +kernel
theorem dX4_readTest_78 : decode cX4_readTest 78 = .ok (.invokevirtual 61, 3) := by decide +kernel
theorem dX4_readTest_81 : decode cX4_readTest 81 = .ok (.ifCond .ne 5, 3) := by decide +kernel
theorem dX4_readTest_84 : decode cX4_readTest 84 = .ok (.iconst 0, 1) := by decide +kernel
theorem dX4_readTest_85 : decode cX4_readTest 85 = .ok (.ireturn, 1) := by decide +kernel
theorem dX4_readTest_86 : decode cX4_readTest 86 = .ok (.iload 5, 2) := by decide +kernel
theorem dX4_readTest_88 : decode cX4_readTest 88 = .ok (.bipush 36, 2) := by decide +kernel
theorem dX4_readTest_90 : decode cX4_readTest 90 = .ok (.if_icmp .ne 13, 3) := by decide +kernel
theorem dX4_readTest_93 : decode cX4_readTest 93 = .ok (.aload_n 1, 1) := by decide +kernel
theorem dX4_readTest_94 : decode cX4_readTest 94 = .ok (.bipush 36, 2) := by decide +kernel
theorem dX4_readTest_96 : decode cX4_readTest 96 = .ok (.iconst 0, 1) := by decide +kernel
theorem dX4_readTest_97 : decode cX4_readTest 97 = .ok (.invokevirtual 67, 3) := by decide +kernel
theorem dX4_readTest_100 : decode cX4_readTest 100 = .ok (.goto 5, 3) := by decide +kernel
theorem dX4_readTest_103 : decode cX4_readTest 103 = .ok (.iconst 1, 1) := by decide +kernel
theorem dX4_readTest_104 : decode cX4_readTest 104 = .ok (.istore_n 3, 1) := by decide +kernel
theorem dX4_readTest_105 : decode cX4_readTest 105 = .ok (.iinc 4 1, 3) := by decide +kernel
theorem dX4_readTest_108 : decode cX4_readTest 108 = .ok (.goto (-92), 3) := by decide +kernel
theorem dX4_readTest_111 : decode cX4_readTest 111 = .ok (.iload_n 3, 1) := by decide +kernel
theorem dX4_readTest_112 : decode cX4_readTest 112 = .ok (.ifCond .eq 10, 3) := by decide +kernel
theorem dX4_readTest_115 : decode cX4_readTest 115 = .ok (.aload_n 1, 1) := by decide +kernel
theorem dX4_readTest_116 : decode cX4_readTest 116 = .ok (.bipush 37, 2) := by decide +kernel
theorem dX4_readTest_118 : decode cX4_readTest 118 = .ok (.iconst 0, 1) := by decide +kernel
theorem dX4_readTest_119 : decode cX4_readTest 119 = .ok (.invokevirtual 67, 3) := by decide +kernel
theorem dX4_readTest_122 : decode cX4_readTest 122 = .ok (.iconst 1, 1) := by decide +kernel
theorem dX4_readTest_123 : decode cX4_readTest 123 = .ok (.ireturn, 1) := by decide +kernel
theorem dX4_readFact_0 : decode cX4_readFact 0 = .ok (.aload_n 0, 1) := by decide +kernel
theorem dX4_readFact_1 : decode cX4_readFact 1 = .ok (.getfield 9, 3) := by decide +kernel
theorem dX4_readFact_4 : decode cX4_readFact 4 = .ok (.invokevirtual 51, 3) := by decide +kernel
theorem dX4_readFact_7 : decode cX4_readFact 7 = .ok (.istore_n 3, 1) := by decide +kernel
theorem dX4_readFact_8 : decode cX4_readFact 8 = .ok (.iload_n 3, 1) := by decide +kernel
theorem dX4_readFact_9 : decode cX4_readFact 9 = .ok (.iconst 5, 1) := by decide +kernel
theorem dX4_readFact_10 : decode cX4_readFact 10 = .ok (.if_icmp .eq 15, 3) := by decide +kernel
theorem dX4_readFact_13 : decode cX4_readFact 13 = .ok (.iload_n 3, 1) := by decide +kernel
theorem dX4_readFact_14 : decode cX4_readFact 14 = .ok (.bipush 35, 2) := by decide +kernel
theorem dX4_readFact_16 : decode cX4_readFact 16 = .ok (.if_icmp .eq 9, 3) := by decide +kernel
theorem dX4_readFact_19 : decode cX4_readFact 19 = .ok (.aload_n 0, 1) := by decide +kernel
theorem dX4_readFact_20 : decode cX4_readFact 20 = .ok (.aload_n 1, 1) := by decide +kernel
theorem dX4_readFact_21 : decode cX4_readFact 21 = .ok (.invokevirtual 70, 3) := by decide +kernel
theorem dX4_readFact_24 : decode cX4_readFact 24 = .ok (.ireturn, 1) := by decide +kernel
theorem dX4_readFact_25 : decode cX4_readFact 25 = .ok (.iload_n 2, 1) := by decide +kernel
theorem dX4_readFact_26 : decode cX4_readFact 26 = .ok (.bipush 10, 2) := by decide +kernel
theorem dX4_readFact_28 : decode cX4_readFact 28 = .ok (.if_icmp .lt 12, 3) := by decide +kernel
theorem dX4_readFact_31 : decode cX4_readFact 31 = .ok (.aload_n 0, 1) := by decide +kernel
theorem dX4_readFact_32 : decode cX4_readFact 32 = .ok (.getfield 9, 3) := by decide +kernel
theorem dX4_readFact_35 : decode cX4_readFact 35 = .ok (.iconst 2, 1) := by decide +kernel
theorem dX4_readFact_36 : decode cX4_readFact 36 = .ok (.invokevirtual 58, 3) := by decide +kernel
theorem dX4_readFact_39 : decode cX4_readFact 39 = .ok (.ireturn, 1) := by decide +kernel
theorem dX4_readFact_40 : decode cX4_readFact 40 = .ok (.aload_n 0, 1) := by decide +kernel
theorem dX4_readFact_41 : decode cX4_readFact 41 = .ok (.getfield 9, 3) := by decide +kernel
theorem dX4_readFact_44 : decode cX4_readFact 44 = .ok (.invokevirtual 64, 3) := by decide +kernel
theorem dX4_readFact_47 : decode cX4_readFact 47 = .ok (.iload_n 3, 1) := by decide +kernel
theorem dX4_readFact_48 : decode cX4_readFact 48 = .ok (.iconst 5, 1) := by decide +kernel
theorem dX4_readFact_49 : decode cX4_readFact 49 = .ok (.if_icmp .ne 32, 3) := by decide +kernel
theorem dX4_readFact_52 : decode cX4_readFact 52 = .ok (.aload_n 0, 1) := by decide +kernel
theorem dX4_readFact_53 : decode cX4_readFact 53 = .ok (.aload_n 1, 1) := by decide +kernel
theorem dX4_readFact_54 : decode cX4_readFact 54 = .ok (.iload_n 2, 1) := by decide +kernel
theorem dX4_readFact_55 : decode cX4_readFact 55 = .ok (.iconst 1, 1) := by decide +kernel
theorem dX4_readFact_56 : decode cX4_readFact 56 = .ok (.iadd, 1) := by decide +kernel
theorem dX4_readFact_57 : decode cX4_readFact 57 = .ok (.invokevirtual 43, 3) := by decide +kernel
theorem dX4_readFact_60 : decode cX4_readFact 60 = .ok (.ifCond .eq 19, 3) := by decide +kernel
theorem dX4_readFact_63 : decode cX4_readFact 63 = .ok (.aload_n 0, 1) := by decide +kernel
theorem dX4_readFact_64 : decode cX4_readFact 64 = .ok (.getfield 9, 3) := by decide +kernel
theorem dX4_readFact_67 : decode cX4_readFact 67 = .ok (.bipush 6, 2) := by decide +kernel
theorem dX4_readFact_69 : decode cX4_readFact 69 = .ok (.invokevirtual 55, 3) := by decide +kernel
theorem dX4_readFact_72 : decode cX4_readFact 72 = .ok (.ifCond .eq 7, 3) := by decide +kernel
theorem dX4_readFact_75 : decode cX4_readFact 75 = .ok (.iconst 1, 1) := by decide +kernel
theorem dX4_readFact_76 : decode cX4_readFact 76 = .ok (.goto 4, 3) := by decide +kernel
theorem dX4_readFact_79 : decode cX4_readFact 79 = .ok (.iconst 0, 1) := by decide +kernel
theorem dX4_readFact_80 : decode cX4_readFact 80 = .ok (.ireturn, 1) := by decide +kernel
theorem dX4_readFact_81 : decode cX4_readFact 81 = .ok (.aload_n 0, 1) := by decide +kernel
theorem dX4_readFact_82 : decode cX4_readFact 82 = .ok (.aload_n 1, 1) := by decide +kernel
theorem dX4_readFact_83 : decode cX4_readFact 83 = .ok (.iload_n 2, 1) := by decide +kernel
theorem dX4_readFact_84 : decode cX4_readFact 84 = .ok (.iconst 1, 1) := by decide +kernel
theorem dX4_readFact_85 : decode cX4_readFact 85 = .ok (.iadd, 1) := by decide +kernel
theorem dX4_readFact_86 : decode cX4_readFact 86 = .ok (.invokevirtual 61, 3) := by decide +kernel
theorem dX4_readFact_89 : decode cX4_readFact 89 = .ok (.ifCond .ne 5, 3) := by decide +kernel
theorem dX4_readFact_92 : decode cX4_readFact 92 = .ok (.iconst 0, 1) := by decide +kernel
theorem dX4_readFact_93 : decode cX4_readFact 93 = .ok (.ireturn, 1) := by decide +kernel
theorem dX4_readFact_94 : decode cX4_readFact 94 = .ok (.aload_n 1, 1) := by decide +kernel
theorem dX4_readFact_95 : decode cX4_readFact 95 = .ok (.bipush 35, 2) := by decide +kernel
theorem dX4_readFact_97 : decode cX4_readFact 97 = .ok (.iconst 0, 1) := by decide +kernel
theorem dX4_readFact_98 : decode cX4_readFact 98 = .ok (.invokevirtual 67, 3) := by decide +kernel
theorem dX4_readFact_101 : decode cX4_readFact 101 = .ok (.iconst 1, 1) := by decide +kernel
theorem dX4_readFact_102 : decode cX4_readFact 102 = .ok (.ireturn, 1) := by decide +kernel
theorem dX4_readComparison_0 : decode cX4_readComparison 0 = .ok (.aload_n 0, 1) := by decide +kernel
theorem dX4_readComparison_1 : decode cX4_readComparison 1 = .ok (.aload_n 1, 1) := by decide +kernel
theorem dX4_readComparison_2 : decode cX4_readComparison 2 = .ok (.invokevirtual 36, 3) := by decide +kernel
theorem dX4_readComparison_5 : decode cX4_readComparison 5 = .ok (.ifCond .ne 5, 3) := by decide +kernel
theorem dX4_readComparison_8 : decode cX4_readComparison 8 = .ok (.iconst 0, 1) := by decide +kernel
theorem dX4_readComparison_9 : decode cX4_readComparison 9 = .ok (.ireturn, 1) := by decide +kernel
theorem dX4_readComparison_10 : decode cX4_readComparison 10 = .ok (.aload_n 0, 1) := by decide +kernel
theorem dX4_readComparison_11 : decode cX4_readComparison 11 = .ok (.getfield 9, 3) := by decide +kernel
theorem dX4_readComparison_14 : decode cX4_readComparison 14 = .ok (.invokevirtual 51, 3) := by decide +kernel
theorem dX4_readComparison_17 : decode cX4_readComparison 17 = .ok (.istore_n 2, 1) := by decide +kernel
theorem dX4_readComparison_18 : decode cX4_readComparison 18 = .ok (.iload_n 2, 1) := by decide +kernel
theorem dX4_readComparison_19 : decode cX4_readComparison 19 = .ok (.bipush 12, 2) := by decide +kernel
theorem dX4_readComparison_21 : decode cX4_readComparison 21 = .ok (.if_icmp .lt 9, 3) := by decide +kernel
theorem dX4_readComparison_24 : decode cX4_readComparison 24 = .ok (.iload_n 2, 1) := by decide +kernel
theorem dX4_readComparison_25 : decode cX4_readComparison 25 = .ok (.bipush 16, 2) := by decide +kernel
theorem dX4_readComparison_27 : decode cX4_readComparison 27 = .ok (.if_icmp .le 12, 3) := by decide +kernel
theorem dX4_readComparison_30 : decode cX4_readComparison 30 = .ok (.aload_n 0, 1) := by decide +kernel
theorem dX4_readComparison_31 : decode cX4_readComparison 31 = .ok (.getfield 9, 3) := by decide +kernel
theorem dX4_readComparison_34 : decode cX4_readComparison 34 = .ok (.iconst 0, 1) := by decide +kernel
theorem dX4_readComparison_35 : decode cX4_readComparison 35 = .ok (.invokevirtual 58, 3) := by decide +kernel
theorem dX4_readComparison_38 : decode cX4_readComparison 38 = .ok (.ireturn, 1) := by decide +kernel
theorem dX4_readComparison_39 : decode cX4_readComparison 39 = .ok (.aload_n 0, 1) := by decide +kernel
theorem dX4_readComparison_40 : decode cX4_readComparison 40 = .ok (.getfield 20, 3) := by decide +kernel
theorem dX4_readComparison_43 : decode cX4_readComparison 43 = .ok (.bipush 60, 2) := by decide +kernel
theorem dX4_readComparison_45 : decode cX4_readComparison 45 = .ok (.if_icmp .lt 12, 3) := by decide +kernel
theorem dX4_readComparison_48 : decode cX4_readComparison 48 = .ok (.aload_n 0, 1) := by decide +kernel
theorem dX4_readComparison_49 : decode cX4_readComparison 49 = .ok (.getfield 9, 3) := by decide +kernel
theorem dX4_readComparison_52 : decode cX4_readComparison 52 = .ok (.iconst 3, 1) := by decide +kernel
theorem dX4_readComparison_53 : decode cX4_readComparison 53 = .ok (.invokevirtual 58, 3) := by decide +kernel
theorem dX4_readComparison_56 : decode cX4_readComparison 56 = .ok (.ireturn, 1) := by decide +kernel
theorem dX4_readComparison_57 : decode cX4_readComparison 57 = .ok (.aload_n 0, 1) := by decide +kernel
theorem dX4_readComparison_58 : decode cX4_readComparison 58 = .ok (.dup, 1) := by decide +kernel
theorem dX4_readComparison_59 : decode cX4_readComparison 59 = .ok (.getfield 20, 3) := by decide +kernel
theorem dX4_readComparison_62 : decode cX4_readComparison 62 = .ok (.iconst 1, 1) := by decide +kernel
theorem dX4_readComparison_63 : decode cX4_readComparison 63 = .ok (.iadd, 1) := by decide +kernel
theorem dX4_readComparison_64 : decode cX4_readComparison 64 = .ok (.putfield 20, 3) := by decide +kernel
theorem dX4_readComparison_67 : decode cX4_readComparison 67 = .ok (.aload_n 0, 1) := by decide +kernel
theorem dX4_readComparison_68 : decode cX4_readComparison 68 = .ok (.getfield 9, 3) := by decide +kernel
theorem dX4_readComparison_71 : decode cX4_readComparison 71 = .ok (.invokevirtual 64, 3) := by decide +kernel
theorem dX4_readComparison_74 : decode cX4_readComparison 74 = .ok (.aload_n 0, 1) := by decide +kernel
theorem dX4_readComparison_75 : decode cX4_readComparison 75 = .ok (.aload_n 1, 1) := by decide +kernel
theorem dX4_readComparison_76 : decode cX4_readComparison 76 = .ok (.invokevirtual 36, 3) := by decide +kernel
theorem dX4_readComparison_79 : decode cX4_readComparison 79 = .ok (.ifCond .ne 5, 3) := by decide +kernel
theorem dX4_readComparison_82 : decode cX4_readComparison 82 = .ok (.iconst 0, 1) := by decide +kernel
theorem dX4_readComparison_83 : decode cX4_readComparison 83 = .ok (.ireturn, 1) := by decide +kernel
theorem dX4_readComparison_84 : decode cX4_readComparison 84 = .ok (.aload_n 1, 1) := by decide +kernel
theorem dX4_readComparison_85 : decode cX4_readComparison 85 = .ok (.iload_n 2, 1) := by decide +kernel
theorem dX4_readComparison_86 : decode cX4_readComparison 86 = .ok (.iconst 0, 1) := by decide +kernel
theorem dX4_readComparison_87 : decode cX4_readComparison 87 = .ok (.invokevirtual 67, 3) := by decide +kernel
theorem dX4_readComparison_90 : decode cX4_readComparison 90 = .ok (.iconst 1, 1) := by decide +kernel
theorem dX4_readComparison_91 : decode cX4_readComparison 91 = .ok (.ireturn, 1) := by decide +kernel
theorem dX4_readSum_0 : decode cX4_readSum 0 = .ok (.aload_n 0, 1) := by decide +kernel
theorem dX4_readSum_1 : decode cX4_readSum 1 = .ok (.aload_n 1, 1) := by decide +kernel
theorem dX4_readSum_2 : decode cX4_readSum 2 = .ok (.invokevirtual 73, 3) := by decide +kernel
theorem dX4_readSum_5 : decode cX4_readSum 5 = .ok (.ifCond .ne 5, 3) := by decide +kernel
theorem dX4_readSum_8 : decode cX4_readSum 8 = .ok (.iconst 0, 1) := by decide +kernel
theorem dX4_readSum_9 : decode cX4_readSum 9 = .ok (.ireturn, 1) := by decide +kernel
theorem dX4_readSum_10 : decode cX4_readSum 10 = .ok (.iconst 0, 1) := by decide +kernel
theorem dX4_readSum_11 : decode cX4_readSum 11 = .ok (.istore_n 2, 1) := by decide +kernel
theorem dX4_readSum_12 : decode cX4_readSum 12 = .ok (.iconst 0, 1) := by decide +kernel
theorem dX4_readSum_13 : decode cX4_readSum 13 = .ok (.istore_n 3, 1) := by decide +kernel
theorem dX4_readSum_14 : decode cX4_readSum 14 = .ok (.iload_n 3, 1) := by decide +kernel
theorem dX4_readSum_15 : decode cX4_readSum 15 = .ok (.sipush 400, 3) := by decide +kernel
theorem dX4_readSum_18 : decode cX4_readSum 18 = .ok (.if_icmp .ge 106, 3) := by decide +kernel
theorem dX4_readSum_21 : decode cX4_readSum 21 = .ok (.aload_n 0, 1) := by decide +kernel
theorem dX4_readSum_22 : decode cX4_readSum 22 = .ok (.getfield 9, 3) := by decide +kernel
theorem dX4_readSum_25 : decode cX4_readSum 25 = .ok (.invokevirtual 51, 3) := by decide +kernel
theorem dX4_readSum_28 : decode cX4_readSum 28 = .ok (.istore 4, 2) := by decide +kernel
theorem dX4_readSum_30 : decode cX4_readSum 30 = .ok (.iload 4, 2) := by decide +kernel
theorem dX4_readSum_32 : decode cX4_readSum 32 = .ok (.bipush 7, 2) := by decide +kernel
theorem dX4_readSum_34 : decode cX4_readSum 34 = .ok (.if_icmp .lt 90, 3) := by decide +kernel
theorem dX4_readSum_37 : decode cX4_readSum 37 = .ok (.iload 4, 2) := by decide +kernel
theorem dX4_readSum_39 : decode cX4_readSum 39 = .ok (.bipush 11, 2) := by decide +kernel
theorem dX4_readSum_41 : decode cX4_readSum 41 = .ok (.if_icmp .le 6, 3) := by decide +kernel
theorem dX4_readSum_44 : decode cX4_readSum 44 = .ok (.goto 80, 3) := by decide +kernel
theorem dX4_readSum_47 : decode cX4_readSum 47 = .ok (.aload_n 0, 1) := by decide +kernel
theorem dX4_readSum_48 : decode cX4_readSum 48 = .ok (.getfield 9, 3) := by decide +kernel
theorem dX4_readSum_51 : decode cX4_readSum 51 = .ok (.invokevirtual 64, 3) := by decide +kernel
theorem dX4_readSum_54 : decode cX4_readSum 54 = .ok (.iload 4, 2) := by decide +kernel
theorem dX4_readSum_56 : decode cX4_readSum 56 = .ok (.bipush 7, 2) := by decide +kernel
theorem dX4_readSum_58 : decode cX4_readSum 58 = .ok (.if_icmp .eq 10, 3) := by decide +kernel
theorem dX4_readSum_61 : decode cX4_readSum 61 = .ok (.iload 4, 2) := by decide +kernel
theorem dX4_readSum_63 : decode cX4_readSum 63 = .ok (.bipush 8, 2) := by decide +kernel
theorem dX4_readSum_65 : decode cX4_readSum 65 = .ok (.if_icmp .ne 7, 3) := by decide +kernel
theorem dX4_readSum_68 : decode cX4_readSum 68 = .ok (.iconst 1, 1) := by decide +kernel
theorem dX4_readSum_69 : decode cX4_readSum 69 = .ok (.goto 4, 3) := by decide +kernel
theorem dX4_readSum_72 : decode cX4_readSum 72 = .ok (.iconst 0, 1) := by decide +kernel
theorem dX4_readSum_73 : decode cX4_readSum 73 = .ok (.istore 5, 2) := by decide +kernel
theorem dX4_readSum_75 : decode cX4_readSum 75 = .ok (.iload 5, 2) := by decide +kernel
theorem dX4_readSum_77 : decode cX4_readSum 77 = .ok (.ifCond .eq 13, 3) := by decide +kernel
theorem dX4_readSum_80 : decode cX4_readSum 80 = .ok (.iload_n 2, 1) := by decide +kernel
theorem dX4_readSum_81 : decode cX4_readSum 81 = .ok (.ifCond .eq 9, 3) := by decide +kernel
theorem dX4_readSum_84 : decode cX4_readSum 84 = .ok (.aload_n 1, 1) := by decide +kernel
theorem dX4_readSum_85 : decode cX4_readSum 85 = .ok (.iload_n 2, 1) := by decide +kernel
theorem dX4_readSum_86 : decode cX4_readSum 86 = .ok (.iconst 0, 1) := by decide +kernel
theorem dX4_readSum_87 : decode cX4_readSum 87 = .ok (.invokevirtual 67, 3) := by decide +kernel
theorem dX4_readSum_90 : decode cX4_readSum 90 = .ok (.aload_n 0, 1) := by decide +kernel
theorem dX4_readSum_91 : decode cX4_readSum 91 = .ok (.aload_n 1, 1) := by decide +kernel
theorem dX4_readSum_92 : decode cX4_readSum 92 = .ok (.invokevirtual 73, 3) := by decide +kernel
theorem dX4_readSum_95 : decode cX4_readSum 95 = .ok (.ifCond .ne 5, 3) := by decide +kernel
theorem dX4_readSum_98 : decode cX4_readSum 98 = .ok (.iconst 0, 1) := by decide +kernel
theorem dX4_readSum_99 : decode cX4_readSum 99 = .ok (.ireturn, 1) := by decide +kernel
theorem dX4_readSum_100 : decode cX4_readSum 100 = .ok (.iload 5, 2) := by decide +kernel
theorem dX4_readSum_102 : decode cX4_readSum 102 = .ok (.ifCond .eq 9, 3) := by decide +kernel
theorem dX4_readSum_105 : decode cX4_readSum 105 = .ok (.iload 4, 2) := by decide +kernel
theorem dX4_readSum_107 : decode cX4_readSum 107 = .ok (.istore_n 2, 1) := by decide +kernel
theorem dX4_readSum_108 : decode cX4_readSum 108 = .ok (.goto 10, 3) := by decide +kernel
theorem dX4_readSum_111 : decode cX4_readSum 111 = .ok (.aload_n 1, 1) := by decide +kernel
theorem dX4_readSum_112 : decode cX4_readSum 112 = .ok (.iload 4, 2) := by decide +kernel
theorem dX4_readSum_114 : decode cX4_readSum 114 = .ok (.iconst 0, 1) := by decide +kernel
theorem dX4_readSum_115 : decode cX4_readSum 115 = .ok (.invokevirtual 67, 3) := by decide +kernel
theorem dX4_readSum_118 : decode cX4_readSum 118 = .ok (.iinc 3 1, 3) := by decide +kernel
theorem dX4_readSum_121 : decode cX4_readSum 121 = .ok (.goto (-107), 3) := by decide +kernel
theorem dX4_readSum_124 : decode cX4_readSum 124 = .ok (.iload_n 2, 1) := by decide +kernel
theorem dX4_readSum_125 : decode cX4_readSum 125 = .ok (.ifCond .eq 9, 3) := by decide +kernel
theorem dX4_readSum_128 : decode cX4_readSum 128 = .ok (.aload_n 1, 1) := by decide +kernel
theorem dX4_readSum_129 : decode cX4_readSum 129 = .ok (.iload_n 2, 1) := by decide +kernel
theorem dX4_readSum_130 : decode cX4_readSum 130 = .ok (.iconst 0, 1) := by decide +kernel
theorem dX4_readSum_131 : decode cX4_readSum 131 = .ok (.invokevirtual 67, 3) := by decide +kernel
theorem dX4_readSum_134 : decode cX4_readSum 134 = .ok (.iconst 1, 1) := by decide +kernel
theorem dX4_readSum_135 : decode cX4_readSum 135 = .ok (.ireturn, 1) := by decide +kernel
theorem dX4_readValue_0 : decode cX4_readValue 0 = .ok (.aload_n 0, 1) := by decide +kernel
theorem dX4_readValue_1 : decode cX4_readValue 1 = .ok (.getfield 9, 3) := by decide +kernel
theorem dX4_readValue_4 : decode cX4_readValue 4 = .ok (.invokevirtual 51, 3) := by decide +kernel
theorem dX4_readValue_7 : decode cX4_readValue 7 = .ok (.istore_n 2, 1) := by decide +kernel
theorem dX4_readValue_8 : decode cX4_readValue 8 = .ok (.iload_n 2, 1) := by decide +kernel
theorem dX4_readValue_9 : decode cX4_readValue 9 = .ok (.iconst 2, 1) := by decide +kernel
theorem dX4_readValue_10 : decode cX4_readValue 10 = .ok (.if_icmp .ne 12, 3) := by decide +kernel
theorem dX4_readValue_13 : decode cX4_readValue 13 = .ok (.aload_n 0, 1) := by decide +kernel
theorem dX4_readValue_14 : decode cX4_readValue 14 = .ok (.getfield 9, 3) := by decide +kernel
theorem dX4_readValue_17 : decode cX4_readValue 17 = .ok (.iconst 1, 1) := by decide +kernel
theorem dX4_readValue_18 : decode cX4_readValue 18 = .ok (.invokevirtual 58, 3) := by decide +kernel
theorem dX4_readValue_21 : decode cX4_readValue 21 = .ok (.ireturn, 1) := by decide +kernel
theorem dX4_readValue_22 : decode cX4_readValue 22 = .ok (.iload_n 2, 1) := by decide +kernel
theorem dX4_readValue_23 : decode cX4_readValue 23 = .ok (.bipush 20, 2) := by decide +kernel
theorem dX4_readValue_25 : decode cX4_readValue 25 = .ok (.if_icmp .lt 13, 3) := by decide +kernel
theorem dX4_readValue_28 : decode cX4_readValue 28 = .ok (.iload_n 2, 1) := by decide +kernel
theorem dX4_readValue_29 : decode cX4_readValue 29 = .ok (.bipush 32, 2) := by decide +kernel
theorem dX4_readValue_31 : decode cX4_readValue 31 = .ok (.if_icmp .ge 7, 3) := by decide +kernel
theorem dX4_readValue_34 : decode cX4_readValue 34 = .ok (.iconst 1, 1) := by decide +kernel
theorem dX4_readValue_35 : decode cX4_readValue 35 = .ok (.goto 4, 3) := by decide +kernel
theorem dX4_readValue_38 : decode cX4_readValue 38 = .ok (.iconst 0, 1) := by decide +kernel
theorem dX4_readValue_39 : decode cX4_readValue 39 = .ok (.istore_n 3, 1) := by decide +kernel
theorem dX4_readValue_40 : decode cX4_readValue 40 = .ok (.iload_n 2, 1) := by decide +kernel
theorem dX4_readValue_41 : decode cX4_readValue 41 = .ok (.iconst 1, 1) := by decide +kernel
theorem dX4_readValue_42 : decode cX4_readValue 42 = .ok (.if_icmp .eq 16, 3) := by decide +kernel
theorem dX4_readValue_45 : decode cX4_readValue 45 = .ok (.iload_n 3, 1) := by decide +kernel
theorem dX4_readValue_46 : decode cX4_readValue 46 = .ok (.ifCond .ne 12, 3) := by decide +kernel
theorem dX4_readValue_49 : decode cX4_readValue 49 = .ok (.aload_n 0, 1) := by decide +kernel
theorem dX4_readValue_50 : decode cX4_readValue 50 = .ok (.getfield 9, 3) := by decide +kernel
theorem dX4_readValue_53 : decode cX4_readValue 53 = .ok (.iconst 0, 1) := by decide +kernel
theorem dX4_readValue_54 : decode cX4_readValue 54 = .ok (.invokevirtual 58, 3) := by decide +kernel
theorem dX4_readValue_57 : decode cX4_readValue 57 = .ok (.ireturn, 1) := by decide +kernel
theorem dX4_readValue_58 : decode cX4_readValue 58 = .ok (.aload_n 0, 1) := by decide +kernel
theorem dX4_readValue_59 : decode cX4_readValue 59 = .ok (.getfield 20, 3) := by decide +kernel
theorem dX4_readValue_62 : decode cX4_readValue 62 = .ok (.bipush 60, 2) := by decide +kernel
theorem dX4_readValue_64 : decode cX4_readValue 64 = .ok (.if_icmp .lt 12, 3) := by decide +kernel
theorem dX4_readValue_67 : decode cX4_readValue 67 = .ok (.aload_n 0, 1) := by decide +kernel
theorem dX4_readValue_68 : decode cX4_readValue 68 = .ok (.getfield 9, 3) := by decide +kernel
theorem dX4_readValue_71 : decode cX4_readValue 71 = .ok (.iconst 3, 1) := by decide +kernel
theorem dX4_readValue_72 : decode cX4_readValue 72 = .ok (.invokevirtual 58, 3) := by decide +kernel
theorem dX4_readValue_75 : decode cX4_readValue 75 = .ok (.ireturn, 1) := by decide +kernel
theorem dX4_readValue_76 : decode cX4_readValue 76 = .ok (.aload_n 0, 1) := by decide +kernel
theorem dX4_readValue_77 : decode cX4_readValue 77 = .ok (.dup, 1) := by decide +kernel
theorem dX4_readValue_78 : decode cX4_readValue 78 = .ok (.getfield 20, 3) := by decide +kernel
theorem dX4_readValue_81 : decode cX4_readValue 81 = .ok (.iconst 1, 1) := by decide +kernel
theorem dX4_readValue_82 : decode cX4_readValue 82 = .ok (.iadd, 1) := by decide +kernel
theorem dX4_readValue_83 : decode cX4_readValue 83 = .ok (.putfield 20, 3) := by decide +kernel
theorem dX4_readValue_86 : decode cX4_readValue 86 = .ok (.aload_n 1, 1) := by decide +kernel
theorem dX4_readValue_87 : decode cX4_readValue 87 = .ok (.iload_n 3, 1) := by decide +kernel
theorem dX4_readValue_88 : decode cX4_readValue 88 = .ok (.ifCond .eq 8, 3) := by decide +kernel
theorem dX4_readValue_91 : decode cX4_readValue 91 = .ok (.bipush 20, 2) := by decide +kernel
theorem dX4_readValue_93 : decode cX4_readValue 93 = .ok (.goto 4, 3) := by decide +kernel
theorem dX4_readValue_96 : decode cX4_readValue 96 = .ok (.iconst 1, 1) := by decide +kernel
theorem dX4_readValue_97 : decode cX4_readValue 97 = .ok (.iload_n 3, 1) := by decide +kernel
theorem dX4_readValue_98 : decode cX4_readValue 98 = .ok (.ifCond .eq 10, 3) := by decide +kernel
theorem dX4_readValue_101 : decode cX4_readValue 101 = .ok (.iload_n 2, 1) := by decide +kernel
theorem dX4_readValue_102 : decode cX4_readValue 102 = .ok (.bipush 20, 2) := by decide +kernel
theorem dX4_readValue_104 : decode cX4_readValue 104 = .ok (.isub, 1) := by decide +kernel
theorem dX4_readValue_105 : decode cX4_readValue 105 = .ok (.goto 10, 3) := by decide +kernel
theorem dX4_readValue_108 : decode cX4_readValue 108 = .ok (.aload_n 0, 1) := by decide +kernel
theorem dX4_readValue_109 : decode cX4_readValue 109 = .ok (.getfield 9, 3) := by decide +kernel
theorem dX4_readValue_112 : decode cX4_readValue 112 = .ok (.invokevirtual 76, 3) := by decide +kernel
theorem dX4_readValue_115 : decode cX4_readValue 115 = .ok (.invokevirtual 67, 3) := by decide +kernel
theorem dX4_readValue_118 : decode cX4_readValue 118 = .ok (.aload_n 0, 1) := by decide +kernel
theorem dX4_readValue_119 : decode cX4_readValue 119 = .ok (.getfield 9, 3) := by decide +kernel
theorem dX4_readValue_122 : decode cX4_readValue 122 = .ok (.invokevirtual 64, 3) := by decide +kernel
theorem dX4_readValue_125 : decode cX4_readValue 125 = .ok (.iconst 1, 1) := by decide +kernel
theorem dX4_readValue_126 : decode cX4_readValue 126 = .ok (.ireturn, 1) := by decide +kernel
theorem dX5_init_0 : decode cX5_init 0 = .ok (.aload_n 0, 1) := by decide +kernel
theorem dX5_init_1 : decode cX5_init 1 = .ok (.invokespecial 3, 3) := by decide +kernel
theorem dX5_init_4 : decode cX5_init 4 = .ok (.aload_n 0, 1) := by decide +kernel
theorem dX5_init_5 : decode cX5_init 5 = .ok (.iconst 5, 1) := by decide +kernel
theorem dX5_init_6 : decode cX5_init 6 = .ok (.newarray .int, 2) := by decide +kernel
theorem dX5_init_8 : decode cX5_init 8 = .ok (.putfield 9, 3) := by decide +kernel
theorem dX5_init_11 : decode cX5_init 11 = .ok (.aload_n 0, 1) := by decide +kernel
theorem dX5_init_12 : decode cX5_init 12 = .ok (.iconst 5, 1) := by decide +kernel
theorem dX5_init_13 : decode cX5_init 13 = .ok (.newarray .int, 2) := by decide +kernel
theorem dX5_init_15 : decode cX5_init 15 = .ok (.putfield 15, 3) := by decide +kernel
theorem dX5_init_18 : decode cX5_init 18 = .ok (.aload_n 0, 1) := by decide +kernel
theorem dX5_init_19 : decode cX5_init 19 = .ok (.iconst 5, 1) := by decide +kernel
theorem dX5_init_20 : decode cX5_init 20 = .ok (.newarray .int, 2) := by decide +kernel
theorem dX5_init_22 : decode cX5_init 22 = .ok (.putfield 18, 3) := by decide +kernel
theorem dX5_init_25 : decode cX5_init 25 = .ok (.aload_n 0, 1) := by decide +kernel
theorem dX5_init_26 : decode cX5_init 26 = .ok (.iconst 5, 1) := by decide +kernel
theorem dX5_init_27 : decode cX5_init 27 = .ok (.bipush 61, 2) := by decide +kernel
theorem dX5_init_29 : decode cX5_init 29 = .ok (.multianewarray 21 2, 4) := by decide +kernel
theorem dX5_init_33 : decode cX5_init 33 = .ok (.putfield 23, 3) := by decide +kernel
theorem dX5_init_36 : decode cX5_init 36 = .ok (.aload_n 0, 1) := by decide +kernel
theorem dX5_init_37 : decode cX5_init 37 = .ok (.iconst 5, 1) := by decide +kernel
theorem dX5_init_38 : decode cX5_init 38 = .ok (.bipush 61, 2) := by decide +kernel
theorem dX5_init_40 : decode cX5_init 40 = .ok (.multianewarray 21 2, 4) := by decide +kernel
theorem dX5_init_44 : decode cX5_init 44 = .ok (.putfield 26, 3) := by decide +kernel
theorem dX5_init_47 : decode cX5_init 47 = .ok (.return_, 1) := by decide +kernel
theorem dX5_clear_0 : decode cX5_clear 0 = .ok (.aload_n 0, 1) := by decide +kernel
theorem dX5_clear_1 : decode cX5_clear 1 = .ok (.iconst 0, 1) := by decide +kernel
theorem dX5_clear_2 : decode cX5_clear 2 = .ok (.putfield 29, 3) := by decide +kernel
theorem dX5_clear_5 : decode cX5_clear 5 = .ok (.aload_n 0, 1) := by decide +kernel
theorem dX5_clear_6 : decode cX5_clear 6 = .ok (.iconst 0, 1) := by decide +kernel
theorem dX5_clear_7 : decode cX5_clear 7 = .ok (.putfield 33, 3) := by decide +kernel
theorem dX5_clear_10 : decode cX5_clear 10 = .ok (.aload_n 0, 1) := by decide +kernel
theorem dX5_clear_11 : decode cX5_clear 11 = .ok (.iconst 0, 1) := by decide +kernel
theorem dX5_clear_12 : decode cX5_clear 12 = .ok (.putfield 37, 3) := by decide +kernel
theorem dX5_clear_15 : decode cX5_clear 15 = .ok (.aload_n 0, 1) := by decide +kernel
theorem dX5_clear_16 : decode cX5_clear 16 = .ok (.iconst 0, 1) := by decide +kernel
theorem dX5_clear_17 : decode cX5_clear 17 = .ok (.putfield 40, 3) := by decide +kernel
theorem dX5_clear_20 : decode cX5_clear 20 = .ok (.iconst 0, 1) := by decide +kernel
theorem dX5_clear_21 : decode cX5_clear 21 = .ok (.istore_n 1, 1) := by decide +kernel
theorem dX5_clear_22 : decode cX5_clear 22 = .ok (.iload_n 1, 1) := by decide +kernel
theorem dX5_clear_23 : decode cX5_clear 23 = .ok (.iconst 5, 1) := by decide +kernel
theorem dX5_clear_24 : decode cX5_clear 24 = .ok (.if_icmp .ge 53, 3) := by decide +kernel
theorem dX5_clear_27 : decode cX5_clear 27 = .ok (.aload_n 0, 1) := by decide +kernel
theorem dX5_clear_28 : decode cX5_clear 28 = .ok (.getfield 9, 3) := by decide +kernel
theorem dX5_clear_31 : decode cX5_clear 31 = .ok (.iload_n 1, 1) := by decide +kernel
theorem dX5_clear_32 : decode cX5_clear 32 = .ok (.iconst 0, 1) := by decide +kernel
theorem dX5_clear_33 : decode cX5_clear 33 = .ok (.iastore, 1) := by decide +kernel
theorem dX5_clear_34 : decode cX5_clear 34 = .ok (.aload_n 0, 1) := by decide +kernel
theorem dX5_clear_35 : decode cX5_clear 35 = .ok (.getfield 15, 3) := by decide +kernel
theorem dX5_clear_38 : decode cX5_clear 38 = .ok (.iload_n 1, 1) := by decide +kernel
theorem dX5_clear_39 : decode cX5_clear 39 = .ok (.iconst 0, 1) := by decide +kernel
theorem dX5_clear_40 : decode cX5_clear 40 = .ok (.iastore, 1) := by decide +kernel
theorem dX5_clear_41 : decode cX5_clear 41 = .ok (.aload_n 0, 1) := by decide +kernel
theorem dX5_clear_42 : decode cX5_clear 42 = .ok (.getfield 18, 3) := by decide +kernel
theorem dX5_clear_45 : decode cX5_clear 45 = .ok (.iload_n 1, 1) := by decide +kernel
theorem dX5_clear_46 : decode cX5_clear 46 = .ok (.iconst 0, 1) := by decide +kernel
theorem dX5_clear_47 : decode cX5_clear 47 = .ok (.iastore, 1) := by decide +kernel
theorem dX5_clear_48 : decode cX5_clear 48 = .ok (.iconst 0, 1) := by decide +kernel
theorem dX5_clear_49 : decode cX5_clear 49 = .ok (.istore_n 2, 1) := by decide +kernel
theorem dX5_clear_50 : decode cX5_clear 50 = .ok (.iload_n 2, 1) := by decide +kernel
theorem dX5_clear_51 : decode cX5_clear 51 = .ok (.bipush 60, 2) := by decide +kernel
theorem dX5_clear_53 : decode cX5_clear 53 = .ok (.if_icmp .gt 18, 3) := by decide +kernel
theorem dX5_clear_56 : decode cX5_clear 56 = .ok (.aload_n 0, 1) := by decide +kernel
theorem dX5_clear_57 : decode cX5_clear 57 = .ok (.getfield 23, 3) := by decide +kernel
theorem dX5_clear_60 : decode cX5_clear 60 = .ok (.iload_n 1, 1) := by decide +kernel
theorem dX5_clear_61 : decode cX5_clear 61 = .ok (.aaload, 1) := by decide +kernel
theorem dX5_clear_62 : decode cX5_clear 62 = .ok (.iload_n 2, 1) := by decide +kernel
theorem dX5_clear_63 : decode cX5_clear 63 = .ok (.iconst 0, 1) := by decide +kernel
theorem dX5_clear_64 : decode cX5_clear 64 = .ok (.iastore, 1) := by decide +kernel
theorem dX5_clear_65 : decode cX5_clear 65 = .ok (.iinc 2 1, 3) := by decide +kernel
theorem dX5_clear_68 : decode cX5_clear 68 = .ok (.goto (-18), 3) := by decide +kernel
theorem dX5_clear_71 : decode cX5_clear 71 = .ok (.iinc 1 1, 3) := by decide +kernel
theorem dX5_clear_74 : decode cX5_clear 74 = .ok (.goto (-52), 3) := by decide +kernel
theorem dX5_clear_77 : decode cX5_clear 77 = .ok (.return_, 1) := by decide +kernel
theorem dX5_copyFrom_0 : decode cX5_copyFrom 0 = .ok (.aload_n 0, 1) := by decide +kernel
theorem dX5_copyFrom_1 : decode cX5_copyFrom 1 = .ok (.aload_n 1, 1) := by decide +kernel
theorem dX5_copyFrom_2 : decode cX5_copyFrom 2 = .ok (.getfield 29, 3) := by decide +kernel
theorem dX5_copyFrom_5 : decode cX5_copyFrom 5 = .ok (.putfield 29, 3) := by decide +kernel
theorem dX5_copyFrom_8 : decode cX5_copyFrom 8 = .ok (.aload_n 0, 1) := by decide +kernel
theorem dX5_copyFrom_9 : decode cX5_copyFrom 9 = .ok (.aload_n 1, 1) := by decide +kernel
theorem dX5_copyFrom_10 : decode cX5_copyFrom 10 = .ok (.getfield 33, 3) := by decide +kernel
theorem dX5_copyFrom_13 : decode cX5_copyFrom 13 = .ok (.putfield 33, 3) := by decide +kernel
theorem dX5_copyFrom_16 : decode cX5_copyFrom 16 = .ok (.aload_n 0, 1) := by decide +kernel
theorem dX5_copyFrom_17 : decode cX5_copyFrom 17 = .ok (.aload_n 1, 1) := by decide +kernel
theorem dX5_copyFrom_18 : decode cX5_copyFrom 18 = .ok (.getfield 37, 3) := by decide +kernel
theorem dX5_copyFrom_21 : decode cX5_copyFrom 21 = .ok (.putfield 37, 3) := by decide +kernel
theorem dX5_copyFrom_24 : decode cX5_copyFrom 24 = .ok (.aload_n 0, 1) := by decide +kernel
theorem dX5_copyFrom_25 : decode cX5_copyFrom 25 = .ok (.aload_n 1, 1) := by decide +kernel
theorem dX5_copyFrom_26 : decode cX5_copyFrom 26 = .ok (.getfield 40, 3) := by decide +kernel
theorem dX5_copyFrom_29 : decode cX5_copyFrom 29 = .ok (.putfield 40, 3) := by decide +kernel
theorem dX5_copyFrom_32 : decode cX5_copyFrom 32 = .ok (.aload_n 1, 1) := by decide +kernel
theorem dX5_copyFrom_33 : decode cX5_copyFrom 33 = .ok (.getfield 9, 3) := by decide +kernel
theorem dX5_copyFrom_36 : decode cX5_copyFrom 36 = .ok (.aload_n 0, 1) := by decide +kernel
theorem dX5_copyFrom_37 : decode cX5_copyFrom 37 = .ok (.getfield 9, 3) := by decide +kernel
theorem dX5_copyFrom_40 : decode cX5_copyFrom 40 = .ok (.invokestatic 43, 3) := by decide +kernel
theorem dX5_copyFrom_43 : decode cX5_copyFrom 43 = .ok (.aload_n 1, 1) := by decide +kernel
theorem dX5_copyFrom_44 : decode cX5_copyFrom 44 = .ok (.getfield 15, 3) := by decide +kernel
theorem dX5_copyFrom_47 : decode cX5_copyFrom 47 = .ok (.aload_n 0, 1) := by decide +kernel
theorem dX5_copyFrom_48 : decode cX5_copyFrom 48 = .ok (.getfield 15, 3) := by decide +kernel
theorem dX5_copyFrom_51 : decode cX5_copyFrom 51 = .ok (.invokestatic 43, 3) := by decide +kernel
theorem dX5_copyFrom_54 : decode cX5_copyFrom 54 = .ok (.aload_n 1, 1) := by decide +kernel
theorem dX5_copyFrom_55 : decode cX5_copyFrom 55 = .ok (.getfield 18, 3) := by decide +kernel
theorem dX5_copyFrom_58 : decode cX5_copyFrom 58 = .ok (.aload_n 0, 1) := by decide +kernel
theorem dX5_copyFrom_59 : decode cX5_copyFrom 59 = .ok (.getfield 18, 3) := by decide +kernel
theorem dX5_copyFrom_62 : decode cX5_copyFrom 62 = .ok (.invokestatic 43, 3) := by decide +kernel
theorem dX5_copyFrom_65 : decode cX5_copyFrom 65 = .ok (.iconst 0, 1) := by decide +kernel
theorem dX5_copyFrom_66 : decode cX5_copyFrom 66 = .ok (.istore_n 2, 1) := by decide +kernel
theorem dX5_copyFrom_67 : decode cX5_copyFrom 67 = .ok (.iload_n 2, 1) := by decide +kernel
theorem dX5_copyFrom_68 : decode cX5_copyFrom 68 = .ok (.iconst 5, 1) := by decide +kernel
theorem dX5_copyFrom_69 : decode cX5_copyFrom 69 = .ok (.if_icmp .ge 39, 3) := by decide +kernel
theorem dX5_copyFrom_72 : decode cX5_copyFrom 72 = .ok (.aload_n 1, 1) := by decide +kernel
theorem dX5_copyFrom_73 : decode cX5_copyFrom 73 = .ok (.getfield 23, 3) := by decide +kernel
theorem dX5_copyFrom_76 : decode cX5_copyFrom 76 = .ok (.iload_n 2, 1) := by decide +kernel
theorem dX5_copyFrom_77 : decode cX5_copyFrom 77 = .ok (.aaload, 1) := by decide +kernel
theorem dX5_copyFrom_78 : decode cX5_copyFrom 78 = .ok (.aload_n 0, 1) := by decide +kernel
theorem dX5_copyFrom_79 : decode cX5_copyFrom 79 = .ok (.getfield 23, 3) := by decide +kernel
theorem dX5_copyFrom_82 : decode cX5_copyFrom 82 = .ok (.iload_n 2, 1) := by decide +kernel
theorem dX5_copyFrom_83 : decode cX5_copyFrom 83 = .ok (.aaload, 1) := by decide +kernel
theorem dX5_copyFrom_84 : decode cX5_copyFrom 84 = .ok (.invokestatic 43, 3) := by decide +kernel
theorem dX5_copyFrom_87 : decode cX5_copyFrom 87 = .ok (.aload_n 1, 1) := by decide +kernel
theorem dX5_copyFrom_88 : decode cX5_copyFrom 88 = .ok (.getfield 26, 3) := by decide +kernel
theorem dX5_copyFrom_91 : decode cX5_copyFrom 91 = .ok (.iload_n 2, 1) := by decide +kernel
theorem dX5_copyFrom_92 : decode cX5_copyFrom 92 = .ok (.aaload, 1) := by decide +kernel
theorem dX5_copyFrom_93 : decode cX5_copyFrom 93 = .ok (.aload_n 0, 1) := by decide +kernel
theorem dX5_copyFrom_94 : decode cX5_copyFrom 94 = .ok (.getfield 26, 3) := by decide +kernel
theorem dX5_copyFrom_97 : decode cX5_copyFrom 97 = .ok (.iload_n 2, 1) := by decide +kernel
theorem dX5_copyFrom_98 : decode cX5_copyFrom 98 = .ok (.aaload, 1) := by decide +kernel
theorem dX5_copyFrom_99 : decode cX5_copyFrom 99 = .ok (.invokestatic 43, 3) := by decide +kernel
theorem dX5_copyFrom_102 : decode cX5_copyFrom 102 = .ok (.iinc 2 1, 3) := by decide +kernel
theorem dX5_copyFrom_105 : decode cX5_copyFrom 105 = .ok (.goto (-38), 3) := by decide +kernel
theorem dX5_copyFrom_108 : decode cX5_copyFrom 108 = .ok (.return_, 1) := by decide +kernel
theorem dX5_findSoon_0 : decode cX5_findSoon 0 = .ok (.iconst 0, 1) := by decide +kernel
theorem dX5_findSoon_1 : decode cX5_findSoon 1 = .ok (.istore_n 1, 1) := by decide +kernel
theorem dX5_findSoon_2 : decode cX5_findSoon 2 = .ok (.iload_n 1, 1) := by decide +kernel
theorem dX5_findSoon_3 : decode cX5_findSoon 3 = .ok (.iconst 5, 1) := by decide +kernel
theorem dX5_findSoon_4 : decode cX5_findSoon 4 = .ok (.if_icmp .ge 59, 3) := by decide +kernel
theorem dX5_findSoon_7 : decode cX5_findSoon 7 = .ok (.bipush 99, 2) := by decide +kernel
theorem dX5_findSoon_9 : decode cX5_findSoon 9 = .ok (.istore_n 2, 1) := by decide +kernel
theorem dX5_findSoon_10 : decode cX5_findSoon 10 = .ok (.bipush 60, 2) := by decide +kernel
theorem dX5_findSoon_12 : decode cX5_findSoon 12 = .ok (.istore_n 3, 1) := by decide +kernel
theorem dX5_findSoon_13 : decode cX5_findSoon 13 = .ok (.iload_n 3, 1) := by decide +kernel
theorem dX5_findSoon_14 : decode cX5_findSoon 14 = .ok (.ifCond .lt 43, 3) := by decide +kernel
theorem dX5_findSoon_17 : decode cX5_findSoon 17 = .ok (.aload_n 0, 1) := by decide +kernel
theorem dX5_findSoon_18 : decode cX5_findSoon 18 = .ok (.getfield 26, 3) := by decide +kernel
theorem dX5_findSoon_21 : decode cX5_findSoon 21 = .ok (.iload_n 1, 1) := by decide +kernel
theorem dX5_findSoon_22 : decode cX5_findSoon 22 = .ok (.aaload, 1) := by decide +kernel
theorem dX5_findSoon_23 : decode cX5_findSoon 23 = .ok (.iload_n 3, 1) := by decide +kernel
theorem dX5_findSoon_24 : decode cX5_findSoon 24 = .ok (.iload_n 2, 1) := by decide +kernel
theorem dX5_findSoon_25 : decode cX5_findSoon 25 = .ok (.iastore, 1) := by decide +kernel
theorem dX5_findSoon_26 : decode cX5_findSoon 26 = .ok (.aload_n 0, 1) := by decide +kernel
theorem dX5_findSoon_27 : decode cX5_findSoon 27 = .ok (.getfield 23, 3) := by decide +kernel
theorem dX5_findSoon_30 : decode cX5_findSoon 30 = .ok (.iload_n 1, 1) := by decide +kernel
theorem dX5_findSoon_31 : decode cX5_findSoon 31 = .ok (.aaload, 1) := by decide +kernel
theorem dX5_findSoon_32 : decode cX5_findSoon 32 = .ok (.iload_n 3, 1) := by decide +kernel
theorem dX5_findSoon_33 : decode cX5_findSoon 33 = .ok (.iaload, 1) := by decide +kernel
theorem dX5_findSoon_34 : decode cX5_findSoon 34 = .ok (.ifCond .le 8, 3) := by decide +kernel
theorem dX5_findSoon_37 : decode cX5_findSoon 37 = .ok (.iconst 1, 1) := by decide +kernel
theorem dX5_findSoon_38 : decode cX5_findSoon 38 = .ok (.istore_n 2, 1) := by decide +kernel
theorem dX5_findSoon_39 : decode cX5_findSoon 39 = .ok (.goto 12, 3) := by decide +kernel
theorem dX5_findSoon_42 : decode cX5_findSoon 42 = .ok (.iload_n 2, 1) := by decide +kernel
theorem dX5_findSoon_43 : decode cX5_findSoon 43 = .ok (.bipush 99, 2) := by decide +kernel
theorem dX5_findSoon_45 : decode cX5_findSoon 45 = .ok (.if_icmp .eq 6, 3) := by decide +kernel
theorem dX5_findSoon_48 : decode cX5_findSoon 48 = .ok (.iinc 2 1, 3) := by decide +kernel
theorem dX5_findSoon_51 : decode cX5_findSoon 51 = .ok (.iinc 3 (-1), 3) := by decide +kernel
theorem dX5_findSoon_54 : decode cX5_findSoon 54 = .ok (.goto (-41), 3) := by decide +kernel
theorem dX5_findSoon_57 : decode cX5_findSoon 57 = .ok (.iinc 1 1, 3) := by decide +kernel
theorem dX5_findSoon_60 : decode cX5_findSoon 60 = .ok (.goto (-58), 3) := by decide +kernel
theorem dX5_findSoon_63 : decode cX5_findSoon 63 = .ok (.return_, 1) := by decide +kernel
theorem dX5_soonOf_0 : decode cX5_soonOf 0 = .ok (.iload_n 2, 1) := by decide +kernel
theorem dX5_soonOf_1 : decode cX5_soonOf 1 = .ok (.iconst 0, 1) := by decide +kernel
theorem dX5_soonOf_2 : decode cX5_soonOf 2 = .ok (.bipush 60, 2) := by decide +kernel
theorem dX5_soonOf_4 : decode cX5_soonOf 4 = .ok (.invokestatic 47, 3) := by decide +kernel
theorem dX5_soonOf_7 : decode cX5_soonOf 7 = .ok (.ifCond .eq 14, 3) := by decide +kernel
theorem dX5_soonOf_10 : decode cX5_soonOf 10 = .ok (.aload_n 0, 1) := by decide +kernel
theorem dX5_soonOf_11 : decode cX5_soonOf 11 = .ok (.getfield 26, 3) := by decide +kernel
theorem dX5_soonOf_14 : decode cX5_soonOf 14 = .ok (.iload_n 1, 1) := by decide +kernel
theorem dX5_soonOf_15 : decode cX5_soonOf 15 = .ok (.aaload, 1) := by decide +kernel
theorem dX5_soonOf_16 : decode cX5_soonOf 16 = .ok (.iload_n 2, 1) := by decide +kernel
theorem dX5_soonOf_17 : decode cX5_soonOf 17 = .ok (.iaload, 1) := by decide +kernel
theorem dX5_soonOf_18 : decode cX5_soonOf 18 = .ok (.goto 5, 3) := by decide +kernel
theorem dX5_soonOf_21 : decode cX5_soonOf 21 = .ok (.bipush 99, 2) := by decide +kernel
theorem dX5_soonOf_23 : decode cX5_soonOf 23 = .ok (.ireturn, 1) := by decide +kernel
theorem dX5_toldFor_0 : decode cX5_toldFor 0 = .ok (.iload_n 2, 1) := by decide +kernel
theorem dX5_toldFor_1 : decode cX5_toldFor 1 = .ok (.iconst 0, 1) := by decide +kernel
theorem dX5_toldFor_2 : decode cX5_toldFor 2 = .ok (.bipush 60, 2) := by decide +kernel
theorem dX5_toldFor_4 : decode cX5_toldFor 4 = .ok (.invokestatic 47, 3) := by decide +kernel
theorem dX5_toldFor_7 : decode cX5_toldFor 7 = .ok (.ifCond .eq 14, 3) := by decide +kernel
theorem dX5_toldFor_10 : decode cX5_toldFor 10 = .ok (.aload_n 0, 1) := by decide +kernel
theorem dX5_toldFor_11 : decode cX5_toldFor 11 = .ok (.getfield 23, 3) := by decide +kernel
theorem dX5_toldFor_14 : decode cX5_toldFor 14 = .ok (.iload_n 1, 1) := by decide +kernel
theorem dX5_toldFor_15 : decode cX5_toldFor 15 = .ok (.aaload, 1) := by decide +kernel
theorem dX5_toldFor_16 : decode cX5_toldFor 16 = .ok (.iload_n 2, 1) := by decide +kernel
theorem dX5_toldFor_17 : decode cX5_toldFor 17 = .ok (.iaload, 1) := by decide +kernel
theorem dX5_toldFor_18 : decode cX5_toldFor 18 = .ok (.goto 4, 3) := by decide +kernel
theorem dX5_toldFor_21 : decode cX5_toldFor 21 = .ok (.iconst 0, 1) := by decide +kernel
theorem dX5_toldFor_22 : decode cX5_toldFor 22 = .ok (.ireturn, 1) := by decide +kernel
theorem dX6_init_0 : decode cX6_init 0 = .ok (.aload_n 0, 1) := by decide +kernel
theorem dX6_init_1 : decode cX6_init 1 = .ok (.invokespecial 3, 3) := by decide +kernel
theorem dX6_init_4 : decode cX6_init 4 = .ok (.aload_n 0, 1) := by decide +kernel
theorem dX6_init_5 : decode cX6_init 5 = .ok (.iconst 5, 1) := by decide +kernel
theorem dX6_init_6 : decode cX6_init 6 = .ok (.newarray .int, 2) := by decide +kernel
theorem dX6_init_8 : decode cX6_init 8 = .ok (.putfield 9, 3) := by decide +kernel
theorem dX6_init_11 : decode cX6_init 11 = .ok (.aload_n 0, 1) := by decide +kernel
theorem dX6_init_12 : decode cX6_init 12 = .ok (.iconst 5, 1) := by decide +kernel
theorem dX6_init_13 : decode cX6_init 13 = .ok (.newarray .int, 2) := by decide +kernel
theorem dX6_init_15 : decode cX6_init 15 = .ok (.putfield 15, 3) := by decide +kernel
theorem dX6_init_18 : decode cX6_init 18 = .ok (.aload_n 0, 1) := by decide +kernel
theorem dX6_init_19 : decode cX6_init 19 = .ok (.iconst 5, 1) := by decide +kernel
theorem dX6_init_20 : decode cX6_init 20 = .ok (.newarray .int, 2) := by decide +kernel
theorem dX6_init_22 : decode cX6_init 22 = .ok (.putfield 18, 3) := by decide +kernel
theorem dX6_init_25 : decode cX6_init 25 = .ok (.aload_n 0, 1) := by decide +kernel
theorem dX6_init_26 : decode cX6_init 26 = .ok (.iconst 5, 1) := by decide +kernel
theorem dX6_init_27 : decode cX6_init 27 = .ok (.newarray .int, 2) := by decide +kernel
theorem dX6_init_29 : decode cX6_init 29 = .ok (.putfield 21, 3) := by decide +kernel
theorem dX6_init_32 : decode cX6_init 32 = .ok (.aload_n 0, 1) := by decide +kernel
theorem dX6_init_33 : decode cX6_init 33 = .ok (.iconst 5, 1) := by decide +kernel
theorem dX6_init_34 : decode cX6_init 34 = .ok (.newarray .int, 2) := by decide +kernel
theorem dX6_init_36 : decode cX6_init 36 = .ok (.putfield 24, 3) := by decide +kernel
theorem dX6_init_39 : decode cX6_init 39 = .ok (.return_, 1) := by decide +kernel
theorem dX6_begin_0 : decode cX6_begin 0 = .ok (.aload_n 1, 1) := by decide +kernel
theorem dX6_begin_1 : decode cX6_begin 1 = .ok (.getfield 27, 3) := by decide +kernel
theorem dX6_begin_4 : decode cX6_begin 4 = .ok (.aload_n 0, 1) := by decide +kernel
theorem dX6_begin_5 : decode cX6_begin 5 = .ok (.getfield 9, 3) := by decide +kernel
theorem dX6_begin_8 : decode cX6_begin 8 = .ok (.invokestatic 30, 3) := by decide +kernel
theorem dX6_begin_11 : decode cX6_begin 11 = .ok (.aload_n 1, 1) := by decide +kernel
theorem dX6_begin_12 : decode cX6_begin 12 = .ok (.getfield 34, 3) := by decide +kernel
theorem dX6_begin_15 : decode cX6_begin 15 = .ok (.aload_n 0, 1) := by decide +kernel
theorem dX6_begin_16 : decode cX6_begin 16 = .ok (.getfield 15, 3) := by decide +kernel
theorem dX6_begin_19 : decode cX6_begin 19 = .ok (.invokestatic 30, 3) := by decide +kernel
theorem dX6_begin_22 : decode cX6_begin 22 = .ok (.aload_n 1, 1) := by decide +kernel
theorem dX6_begin_23 : decode cX6_begin 23 = .ok (.getfield 35, 3) := by decide +kernel
theorem dX6_begin_26 : decode cX6_begin 26 = .ok (.aload_n 0, 1) := by decide +kernel
theorem dX6_begin_27 : decode cX6_begin 27 = .ok (.getfield 18, 3) := by decide +kernel
theorem dX6_begin_30 : decode cX6_begin 30 = .ok (.invokestatic 30, 3) := by decide +kernel
theorem dX6_begin_33 : decode cX6_begin 33 = .ok (.iconst 0, 1) := by decide +kernel
theorem dX6_begin_34 : decode cX6_begin 34 = .ok (.istore_n 2, 1) := by decide +kernel
theorem dX6_begin_35 : decode cX6_begin 35 = .ok (.iload_n 2, 1) := by decide +kernel
theorem dX6_begin_36 : decode cX6_begin 36 = .ok (.iconst 5, 1) := by decide +kernel
theorem dX6_begin_37 : decode cX6_begin 37 = .ok (.if_icmp .ge 23, 3) := by decide +kernel
theorem dX6_begin_40 : decode cX6_begin 40 = .ok (.aload_n 0, 1) := by decide +kernel
theorem dX6_begin_41 : decode cX6_begin 41 = .ok (.getfield 21, 3) := by decide +kernel
theorem dX6_begin_44 : decode cX6_begin 44 = .ok (.iload_n 2, 1) := by decide +kernel
theorem dX6_begin_45 : decode cX6_begin 45 = .ok (.iconst 0, 1) := by decide +kernel
theorem dX6_begin_46 : decode cX6_begin 46 = .ok (.iastore, 1) := by decide +kernel
theorem dX6_begin_47 : decode cX6_begin 47 = .ok (.aload_n 0, 1) := by decide +kernel
theorem dX6_begin_48 : decode cX6_begin 48 = .ok (.getfield 24, 3) := by decide +kernel
theorem dX6_begin_51 : decode cX6_begin 51 = .ok (.iload_n 2, 1) := by decide +kernel
theorem dX6_begin_52 : decode cX6_begin 52 = .ok (.iconst (-1), 1) := by decide +kernel
theorem dX6_begin_53 : decode cX6_begin 53 = .ok (.iastore, 1) := by decide +kernel
theorem dX6_begin_54 : decode cX6_begin 54 = .ok (.iinc 2 1, 3) := by decide +kernel
theorem dX6_begin_57 : decode cX6_begin 57 = .ok (.goto (-22), 3) := by decide +kernel
theorem dX6_begin_60 : decode cX6_begin 60 = .ok (.aload_n 0, 1) := by decide +kernel
theorem dX6_begin_61 : decode cX6_begin 61 = .ok (.aload_n 1, 1) := by decide +kernel
theorem dX6_begin_62 : decode cX6_begin 62 = .ok (.getfield 36, 3) := by decide +kernel
theorem dX6_begin_65 : decode cX6_begin 65 = .ok (.putfield 40, 3) := by decide +kernel
theorem dX6_begin_68 : decode cX6_begin 68 = .ok (.aload_n 0, 1) := by decide +kernel
theorem dX6_begin_69 : decode cX6_begin 69 = .ok (.iconst 0, 1) := by decide +kernel
theorem dX6_begin_70 : decode cX6_begin 70 = .ok (.putfield 41, 3) := by decide +kernel
theorem dX6_begin_73 : decode cX6_begin 73 = .ok (.aload_n 0, 1) := by decide +kernel
theorem dX6_begin_74 : decode cX6_begin 74 = .ok (.iconst 0, 1) := by decide +kernel
theorem dX6_begin_75 : decode cX6_begin 75 = .ok (.putfield 44, 3) := by decide +kernel
theorem dX6_begin_78 : decode cX6_begin 78 = .ok (.return_, 1) := by decide +kernel
theorem dX6_copyFrom_0 : decode cX6_copyFrom 0 = .ok (.aload_n 1, 1) := by decide +kernel
theorem dX6_copyFrom_1 : decode cX6_copyFrom 1 = .ok (.getfield 9, 3) := by decide +kernel
theorem dX6_copyFrom_4 : decode cX6_copyFrom 4 = .ok (.aload_n 0, 1) := by decide +kernel
theorem dX6_copyFrom_5 : decode cX6_copyFrom 5 = .ok (.getfield 9, 3) := by decide +kernel
theorem dX6_copyFrom_8 : decode cX6_copyFrom 8 = .ok (.invokestatic 30, 3) := by decide +kernel
theorem dX6_copyFrom_11 : decode cX6_copyFrom 11 = .ok (.aload_n 1, 1) := by decide +kernel
theorem dX6_copyFrom_12 : decode cX6_copyFrom 12 = .ok (.getfield 15, 3) := by decide +kernel
theorem dX6_copyFrom_15 : decode cX6_copyFrom 15 = .ok (.aload_n 0, 1) := by decide +kernel
theorem dX6_copyFrom_16 : decode cX6_copyFrom 16 = .ok (.getfield 15, 3) := by decide +kernel
theorem dX6_copyFrom_19 : decode cX6_copyFrom 19 = .ok (.invokestatic 30, 3) := by decide +kernel
theorem dX6_copyFrom_22 : decode cX6_copyFrom 22 = .ok (.aload_n 1, 1) := by decide +kernel
theorem dX6_copyFrom_23 : decode cX6_copyFrom 23 = .ok (.getfield 18, 3) := by decide +kernel
theorem dX6_copyFrom_26 : decode cX6_copyFrom 26 = .ok (.aload_n 0, 1) := by decide +kernel
theorem dX6_copyFrom_27 : decode cX6_copyFrom 27 = .ok (.getfield 18, 3) := by decide +kernel
theorem dX6_copyFrom_30 : decode cX6_copyFrom 30 = .ok (.invokestatic 30, 3) := by decide +kernel
theorem dX6_copyFrom_33 : decode cX6_copyFrom 33 = .ok (.aload_n 1, 1) := by decide +kernel
theorem dX6_copyFrom_34 : decode cX6_copyFrom 34 = .ok (.getfield 21, 3) := by decide +kernel
theorem dX6_copyFrom_37 : decode cX6_copyFrom 37 = .ok (.aload_n 0, 1) := by decide +kernel
theorem dX6_copyFrom_38 : decode cX6_copyFrom 38 = .ok (.getfield 21, 3) := by decide +kernel
theorem dX6_copyFrom_41 : decode cX6_copyFrom 41 = .ok (.invokestatic 30, 3) := by decide +kernel
theorem dX6_copyFrom_44 : decode cX6_copyFrom 44 = .ok (.aload_n 1, 1) := by decide +kernel
theorem dX6_copyFrom_45 : decode cX6_copyFrom 45 = .ok (.getfield 24, 3) := by decide +kernel
theorem dX6_copyFrom_48 : decode cX6_copyFrom 48 = .ok (.aload_n 0, 1) := by decide +kernel
theorem dX6_copyFrom_49 : decode cX6_copyFrom 49 = .ok (.getfield 24, 3) := by decide +kernel
theorem dX6_copyFrom_52 : decode cX6_copyFrom 52 = .ok (.invokestatic 30, 3) := by decide +kernel
theorem dX6_copyFrom_55 : decode cX6_copyFrom 55 = .ok (.aload_n 0, 1) := by decide +kernel
theorem dX6_copyFrom_56 : decode cX6_copyFrom 56 = .ok (.aload_n 1, 1) := by decide +kernel
theorem dX6_copyFrom_57 : decode cX6_copyFrom 57 = .ok (.getfield 40, 3) := by decide +kernel
theorem dX6_copyFrom_60 : decode cX6_copyFrom 60 = .ok (.putfield 40, 3) := by decide +kernel
theorem dX6_copyFrom_63 : decode cX6_copyFrom 63 = .ok (.aload_n 0, 1) := by decide +kernel
theorem dX6_copyFrom_64 : decode cX6_copyFrom 64 = .ok (.aload_n 1, 1) := by decide +kernel
theorem dX6_copyFrom_65 : decode cX6_copyFrom 65 = .ok (.getfield 41, 3) := by decide +kernel
theorem dX6_copyFrom_68 : decode cX6_copyFrom 68 = .ok (.putfield 41, 3) := by decide +kernel
theorem dX6_copyFrom_71 : decode cX6_copyFrom 71 = .ok (.aload_n 0, 1) := by decide +kernel
theorem dX6_copyFrom_72 : decode cX6_copyFrom 72 = .ok (.aload_n 1, 1) := by decide +kernel
theorem dX6_copyFrom_73 : decode cX6_copyFrom 73 = .ok (.getfield 44, 3) := by decide +kernel
theorem dX6_copyFrom_76 : decode cX6_copyFrom 76 = .ok (.putfield 44, 3) := by decide +kernel
theorem dX6_copyFrom_79 : decode cX6_copyFrom 79 = .ok (.return_, 1) := by decide +kernel
theorem dX6_mayBuy_0 : decode cX6_mayBuy 0 = .ok (.iload_n 1, 1) := by decide +kernel
theorem dX6_mayBuy_1 : decode cX6_mayBuy 1 = .ok (.iload_n 2, 1) := by decide +kernel
theorem dX6_mayBuy_2 : decode cX6_mayBuy 2 = .ok (.if_icmp .eq 29, 3) := by decide +kernel
theorem dX6_mayBuy_5 : decode cX6_mayBuy 5 = .ok (.aload_n 0, 1) := by decide +kernel
theorem dX6_mayBuy_6 : decode cX6_mayBuy 6 = .ok (.getfield 9, 3) := by decide +kernel
theorem dX6_mayBuy_9 : decode cX6_mayBuy 9 = .ok (.iload_n 1, 1) := by decide +kernel
theorem dX6_mayBuy_10 : decode cX6_mayBuy 10 = .ok (.iaload, 1) := by decide +kernel
theorem dX6_mayBuy_11 : decode cX6_mayBuy 11 = .ok (.aload_n 0, 1) := by decide +kernel
theorem dX6_mayBuy_12 : decode cX6_mayBuy 12 = .ok (.getfield 40, 3) := by decide +kernel
theorem dX6_mayBuy_15 : decode cX6_mayBuy 15 = .ok (.if_icmp .lt 16, 3) := by decide +kernel
theorem dX6_mayBuy_18 : decode cX6_mayBuy 18 = .ok (.aload_n 0, 1) := by decide +kernel
theorem dX6_mayBuy_19 : decode cX6_mayBuy 19 = .ok (.getfield 15, 3) := by decide +kernel
theorem dX6_mayBuy_22 : decode cX6_mayBuy 22 = .ok (.iload_n 2, 1) := by decide +kernel
theorem dX6_mayBuy_23 : decode cX6_mayBuy 23 = .ok (.iaload, 1) := by decide +kernel
theorem dX6_mayBuy_24 : decode cX6_mayBuy 24 = .ok (.ifCond .le 7, 3) := by decide +kernel
theorem dX6_mayBuy_27 : decode cX6_mayBuy 27 = .ok (.iconst 1, 1) := by decide +kernel
theorem dX6_mayBuy_28 : decode cX6_mayBuy 28 = .ok (.goto 4, 3) := by decide +kernel
theorem dX6_mayBuy_31 : decode cX6_mayBuy 31 = .ok (.iconst 0, 1) := by decide +kernel
theorem dX6_mayBuy_32 : decode cX6_mayBuy 32 = .ok (.ireturn, 1) := by decide +kernel
theorem dX6_sellers_0 : decode cX6_sellers 0 = .ok (.iconst 0, 1) := by decide +kernel
theorem dX6_sellers_1 : decode cX6_sellers 1 = .ok (.istore_n 2, 1) := by decide +kernel
theorem dX6_sellers_2 : decode cX6_sellers 2 = .ok (.iconst 0, 1) := by decide +kernel
theorem dX6_sellers_3 : decode cX6_sellers 3 = .ok (.istore_n 3, 1) := by decide +kernel
theorem dX6_sellers_4 : decode cX6_sellers 4 = .ok (.iload_n 3, 1) := by decide +kernel
theorem dX6_sellers_5 : decode cX6_sellers 5 = .ok (.iconst 5, 1) := by decide +kernel
theorem dX6_sellers_6 : decode cX6_sellers 6 = .ok (.if_icmp .ge 24, 3) := by decide +kernel
theorem dX6_sellers_9 : decode cX6_sellers 9 = .ok (.aload_n 0, 1) := by decide +kernel
theorem dX6_sellers_10 : decode cX6_sellers 10 = .ok (.iload_n 1, 1) := by decide +kernel
theorem dX6_sellers_11 : decode cX6_sellers 11 = .ok (.iload_n 3, 1) := by decide +kernel
theorem dX6_sellers_12 : decode cX6_sellers 12 = .ok (.invokevirtual 47, 3) := by decide +kernel
theorem dX6_sellers_15 : decode cX6_sellers 15 = .ok (.ifCond .eq 9, 3) := by decide +kernel
theorem dX6_sellers_18 : decode cX6_sellers 18 = .ok (.iload_n 2, 1) := by decide +kernel
theorem dX6_sellers_19 : decode cX6_sellers 19 = .ok (.iconst 1, 1) := by decide +kernel
theorem dX6_sellers_20 : decode cX6_sellers 20 = .ok (.iload_n 3, 1) := by decide +kernel
theorem dX6_sellers_21 : decode cX6_sellers 21 = .ok (.ishl, 1) := by decide +kernel
theorem dX6_sellers_22 : decode cX6_sellers 22 = .ok (.ior, 1) := by decide +kernel
theorem dX6_sellers_23 : decode cX6_sellers 23 = .ok (.istore_n 2, 1) := by decide +kernel
theorem dX6_sellers_24 : decode cX6_sellers 24 = .ok (.iinc 3 1, 3) := by decide +kernel
theorem dX6_sellers_27 : decode cX6_sellers 27 = .ok (.goto (-23), 3) := by decide +kernel
theorem dX6_sellers_30 : decode cX6_sellers 30 = .ok (.iload_n 2, 1) := by decide +kernel
theorem dX6_sellers_31 : decode cX6_sellers 31 = .ok (.ireturn, 1) := by decide +kernel
theorem dX6_buy_0 : decode cX6_buy 0 = .ok (.aload_n 0, 1) := by decide +kernel
theorem dX6_buy_1 : decode cX6_buy 1 = .ok (.iload_n 1, 1) := by decide +kernel
theorem dX6_buy_2 : decode cX6_buy 2 = .ok (.iload_n 2, 1) := by decide +kernel
theorem dX6_buy_3 : decode cX6_buy 3 = .ok (.aload_n 0, 1) := by decide +kernel
theorem dX6_buy_4 : decode cX6_buy 4 = .ok (.getfield 40, 3) := by decide +kernel
theorem dX6_buy_7 : decode cX6_buy 7 = .ok (.invokevirtual 51, 3) := by decide +kernel
theorem dX6_buy_10 : decode cX6_buy 10 = .ok (.aload_n 0, 1) := by decide +kernel
theorem dX6_buy_11 : decode cX6_buy 11 = .ok (.getfield 15, 3) := by decide +kernel
theorem dX6_buy_14 : decode cX6_buy 14 = .ok (.iload_n 2, 1) := by decide +kernel
theorem dX6_buy_15 : decode cX6_buy 15 = .ok (.dup2, 1) := by decide +kernel
theorem dX6_buy_16 : decode cX6_buy 16 = .ok (.iaload, 1) := by decide +kernel
theorem dX6_buy_17 : decode cX6_buy 17 = .ok (.iconst 1, 1) := by decide +kernel
theorem dX6_buy_18 : decode cX6_buy 18 = .ok (.isub, 1) := by decide +kernel
theorem dX6_buy_19 : decode cX6_buy 19 = .ok (.iastore, 1) := by decide +kernel
theorem dX6_buy_20 : decode cX6_buy 20 = .ok (.aload_n 0, 1) := by decide +kernel
theorem dX6_buy_21 : decode cX6_buy 21 = .ok (.iload_n 1, 1) := by decide +kernel
theorem dX6_buy_22 : decode cX6_buy 22 = .ok (.iconst 1, 1) := by decide +kernel
theorem dX6_buy_23 : decode cX6_buy 23 = .ok (.invokevirtual 55, 3) := by decide +kernel
theorem dX6_buy_26 : decode cX6_buy 26 = .ok (.aload_n 0, 1) := by decide +kernel
theorem dX6_buy_27 : decode cX6_buy 27 = .ok (.dup, 1) := by decide +kernel
theorem dX6_buy_28 : decode cX6_buy 28 = .ok (.getfield 44, 3) := by decide +kernel
theorem dX6_buy_31 : decode cX6_buy 31 = .ok (.iconst 1, 1) := by decide +kernel
theorem dX6_buy_32 : decode cX6_buy 32 = .ok (.iadd, 1) := by decide +kernel
theorem dX6_buy_33 : decode cX6_buy 33 = .ok (.putfield 44, 3) := by decide +kernel
theorem dX6_buy_36 : decode cX6_buy 36 = .ok (.return_, 1) := by decide +kernel
theorem dX6_moveMen_0 : decode cX6_moveMen 0 = .ok (.aload_n 0, 1) := by decide +kernel
theorem dX6_moveMen_1 : decode cX6_moveMen 1 = .ok (.getfield 9, 3) := by decide +kernel
theorem dX6_moveMen_4 : decode cX6_moveMen 4 = .ok (.iload_n 1, 1) := by decide +kernel
theorem dX6_moveMen_5 : decode cX6_moveMen 5 = .ok (.dup2, 1) := by decide +kernel
theorem dX6_moveMen_6 : decode cX6_moveMen 6 = .ok (.iaload, 1) := by decide +kernel
theorem dX6_moveMen_7 : decode cX6_moveMen 7 = .ok (.iload_n 3, 1) := by decide +kernel
theorem dX6_moveMen_8 : decode cX6_moveMen 8 = .ok (.isub, 1) := by decide +kernel
theorem dX6_moveMen_9 : decode cX6_moveMen 9 = .ok (.iastore, 1) := by decide +kernel
theorem dX6_moveMen_10 : decode cX6_moveMen 10 = .ok (.aload_n 0, 1) := by decide +kernel
theorem dX6_moveMen_11 : decode cX6_moveMen 11 = .ok (.iload_n 2, 1) := by decide +kernel
theorem dX6_moveMen_12 : decode cX6_moveMen 12 = .ok (.iload_n 3, 1) := by decide +kernel
theorem dX6_moveMen_13 : decode cX6_moveMen 13 = .ok (.invokevirtual 59, 3) := by decide +kernel
theorem dX6_moveMen_16 : decode cX6_moveMen 16 = .ok (.return_, 1) := by decide +kernel
theorem dX6_addMen_0 : decode cX6_addMen 0 = .ok (.aload_n 0, 1) := by decide +kernel
theorem dX6_addMen_1 : decode cX6_addMen 1 = .ok (.getfield 9, 3) := by decide +kernel
theorem dX6_addMen_4 : decode cX6_addMen 4 = .ok (.iload_n 1, 1) := by decide +kernel
theorem dX6_addMen_5 : decode cX6_addMen 5 = .ok (.sipush 999, 3) := by decide +kernel
theorem dX6_addMen_8 : decode cX6_addMen 8 = .ok (.aload_n 0, 1) := by decide +kernel
theorem dX6_addMen_9 : decode cX6_addMen 9 = .ok (.getfield 9, 3) := by decide +kernel
theorem dX6_addMen_12 : decode cX6_addMen 12 = .ok (.iload_n 1, 1) := by decide +kernel
theorem dX6_addMen_13 : decode cX6_addMen 13 = .ok (.iaload, 1) := by decide +kernel
theorem dX6_addMen_14 : decode cX6_addMen 14 = .ok (.iload_n 2, 1) := by decide +kernel
theorem dX6_addMen_15 : decode cX6_addMen 15 = .ok (.iadd, 1) := by decide +kernel
theorem dX6_addMen_16 : decode cX6_addMen 16 = .ok (.invokestatic 62, 3) := by decide +kernel
theorem dX6_addMen_19 : decode cX6_addMen 19 = .ok (.iastore, 1) := by decide +kernel
theorem dX6_addMen_20 : decode cX6_addMen 20 = .ok (.return_, 1) := by decide +kernel
theorem dX6_addSun_0 : decode cX6_addSun 0 = .ok (.aload_n 0, 1) := by decide +kernel
theorem dX6_addSun_1 : decode cX6_addSun 1 = .ok (.getfield 15, 3) := by decide +kernel
theorem dX6_addSun_4 : decode cX6_addSun 4 = .ok (.iload_n 1, 1) := by decide +kernel
theorem dX6_addSun_5 : decode cX6_addSun 5 = .ok (.bipush 99, 2) := by decide +kernel
theorem dX6_addSun_7 : decode cX6_addSun 7 = .ok (.aload_n 0, 1) := by decide +kernel
theorem dX6_addSun_8 : decode cX6_addSun 8 = .ok (.getfield 15, 3) := by decide +kernel
theorem dX6_addSun_11 : decode cX6_addSun 11 = .ok (.iload_n 1, 1) := by decide +kernel
theorem dX6_addSun_12 : decode cX6_addSun 12 = .ok (.iaload, 1) := by decide +kernel
theorem dX6_addSun_13 : decode cX6_addSun 13 = .ok (.iload_n 2, 1) := by decide +kernel
theorem dX6_addSun_14 : decode cX6_addSun 14 = .ok (.iadd, 1) := by decide +kernel
theorem dX6_addSun_15 : decode cX6_addSun 15 = .ok (.invokestatic 62, 3) := by decide +kernel
theorem dX6_addSun_18 : decode cX6_addSun 18 = .ok (.iastore, 1) := by decide +kernel
theorem dX6_addSun_19 : decode cX6_addSun 19 = .ok (.return_, 1) := by decide +kernel
theorem dX6_harvest_0 : decode cX6_harvest 0 = .ok (.aload_n 0, 1) := by decide +kernel
theorem dX6_harvest_1 : decode cX6_harvest 1 = .ok (.getfield 18, 3) := by decide +kernel
theorem dX6_harvest_4 : decode cX6_harvest 4 = .ok (.iload_n 1, 1) := by decide +kernel
theorem dX6_harvest_5 : decode cX6_harvest 5 = .ok (.iaload, 1) := by decide +kernel
theorem dX6_harvest_6 : decode cX6_harvest 6 = .ok (.iconst 1, 1) := by decide +kernel
theorem dX6_harvest_7 : decode cX6_harvest 7 = .ok (.if_icmp .ge 4, 3) := by decide +kernel
theorem dX6_harvest_10 : decode cX6_harvest 10 = .ok (.return_, 1) := by decide +kernel
theorem dX6_harvest_11 : decode cX6_harvest 11 = .ok (.aload_n 0, 1) := by decide +kernel
theorem dX6_harvest_12 : decode cX6_harvest 12 = .ok (.getfield 15, 3) := by decide +kernel
theorem dX6_harvest_15 : decode cX6_harvest 15 = .ok (.iload_n 1, 1) := by decide +kernel
theorem dX6_harvest_16 : decode cX6_harvest 16 = .ok (.iaload, 1) := by decide +kernel
theorem dX6_harvest_17 : decode cX6_harvest 17 = .ok (.iconst 1, 1) := by decide +kernel
theorem dX6_harvest_18 : decode cX6_harvest 18 = .ok (.if_icmp .ge 14, 3) := by decide +kernel
theorem dX6_harvest_21 : decode cX6_harvest 21 = .ok (.aload_n 0, 1) := by decide +kernel
theorem dX6_harvest_22 : decode cX6_harvest 22 = .ok (.getfield 18, 3) := by decide +kernel
theorem dX6_harvest_25 : decode cX6_harvest 25 = .ok (.iload_n 1, 1) := by decide +kernel
theorem dX6_harvest_26 : decode cX6_harvest 26 = .ok (.dup2, 1) := by decide +kernel
theorem dX6_harvest_27 : decode cX6_harvest 27 = .ok (.iaload, 1) := by decide +kernel
theorem dX6_harvest_28 : decode cX6_harvest 28 = .ok (.iconst 1, 1) := by decide +kernel
theorem dX6_harvest_29 : decode cX6_harvest 29 = .ok (.isub, 1) := by decide +kernel
theorem dX6_harvest_30 : decode cX6_harvest 30 = .ok (.iastore, 1) := by decide +kernel
theorem dX6_harvest_31 : decode cX6_harvest 31 = .ok (.return_, 1) := by decide +kernel
theorem dX6_harvest_32 : decode cX6_harvest 32 = .ok (.aload_n 0, 1) := by decide +kernel
theorem dX6_harvest_33 : decode cX6_harvest 33 = .ok (.getfield 15, 3) := by decide +kernel
theorem dX6_harvest_36 : decode cX6_harvest 36 = .ok (.iload_n 1, 1) := by decide +kernel
theorem dX6_harvest_37 : decode cX6_harvest 37 = .ok (.dup2, 1) := by decide +kernel
theorem dX6_harvest_38 : decode cX6_harvest 38 = .ok (.iaload, 1) := by decide +kernel
theorem dX6_harvest_39 : decode cX6_harvest 39 = .ok (.iconst 1, 1) := by decide +kernel
theorem dX6_harvest_40 : decode cX6_harvest 40 = .ok (.isub, 1) := by decide +kernel
theorem dX6_harvest_41 : decode cX6_harvest 41 = .ok (.iastore, 1) := by decide +kernel
theorem dX6_harvest_42 : decode cX6_harvest 42 = .ok (.aload_n 0, 1) := by decide +kernel
theorem dX6_harvest_43 : decode cX6_harvest 43 = .ok (.getfield 9, 3) := by decide +kernel
theorem dX6_harvest_46 : decode cX6_harvest 46 = .ok (.iload_n 1, 1) := by decide +kernel
theorem dX6_harvest_47 : decode cX6_harvest 47 = .ok (.iaload, 1) := by decide +kernel
theorem dX6_harvest_48 : decode cX6_harvest 48 = .ok (.aload_n 0, 1) := by decide +kernel
theorem dX6_harvest_49 : decode cX6_harvest 49 = .ok (.getfield 18, 3) := by decide +kernel
theorem dX6_harvest_52 : decode cX6_harvest 52 = .ok (.iload_n 1, 1) := by decide +kernel
theorem dX6_harvest_53 : decode cX6_harvest 53 = .ok (.iaload, 1) := by decide +kernel
theorem dX6_harvest_54 : decode cX6_harvest 54 = .ok (.invokestatic 62, 3) := by decide +kernel
theorem dX6_harvest_57 : decode cX6_harvest 57 = .ok (.istore_n 2, 1) := by decide +kernel
theorem dX6_harvest_58 : decode cX6_harvest 58 = .ok (.aload_n 0, 1) := by decide +kernel
theorem dX6_harvest_59 : decode cX6_harvest 59 = .ok (.getfield 18, 3) := by decide +kernel
theorem dX6_harvest_62 : decode cX6_harvest 62 = .ok (.iload_n 1, 1) := by decide +kernel
theorem dX6_harvest_63 : decode cX6_harvest 63 = .ok (.dup2, 1) := by decide +kernel
theorem dX6_harvest_64 : decode cX6_harvest 64 = .ok (.iaload, 1) := by decide +kernel
theorem dX6_harvest_65 : decode cX6_harvest 65 = .ok (.iload_n 2, 1) := by decide +kernel
theorem dX6_harvest_66 : decode cX6_harvest 66 = .ok (.isub, 1) := by decide +kernel
theorem dX6_harvest_67 : decode cX6_harvest 67 = .ok (.iastore, 1) := by decide +kernel
theorem dX6_harvest_68 : decode cX6_harvest 68 = .ok (.aload_n 0, 1) := by decide +kernel
theorem dX6_harvest_69 : decode cX6_harvest 69 = .ok (.getfield 21, 3) := by decide +kernel
theorem dX6_harvest_72 : decode cX6_harvest 72 = .ok (.iload_n 1, 1) := by decide +kernel
theorem dX6_harvest_73 : decode cX6_harvest 73 = .ok (.sipush 9999, 3) := by decide +kernel
theorem dX6_harvest_76 : decode cX6_harvest 76 = .ok (.aload_n 0, 1) := by decide +kernel
theorem dX6_harvest_77 : decode cX6_harvest 77 = .ok (.getfield 21, 3) := by decide +kernel
theorem dX6_harvest_80 : decode cX6_harvest 80 = .ok (.iload_n 1, 1) := by decide +kernel
theorem dX6_harvest_81 : decode cX6_harvest 81 = .ok (.iaload, 1) := by decide +kernel
theorem dX6_harvest_82 : decode cX6_harvest 82 = .ok (.iload_n 2, 1) := by decide +kernel
theorem dX6_harvest_83 : decode cX6_harvest 83 = .ok (.iadd, 1) := by decide +kernel
theorem dX6_harvest_84 : decode cX6_harvest 84 = .ok (.invokestatic 62, 3) := by decide +kernel
theorem dX6_harvest_87 : decode cX6_harvest 87 = .ok (.iastore, 1) := by decide +kernel
theorem dX6_harvest_88 : decode cX6_harvest 88 = .ok (.return_, 1) := by decide +kernel
theorem dX6_partOf_0 : decode cX6_partOf 0 = .ok (.aload_n 0, 1) := by decide +kernel
theorem dX6_partOf_1 : decode cX6_partOf 1 = .ok (.getfield 21, 3) := by decide +kernel
theorem dX6_partOf_4 : decode cX6_partOf 4 = .ok (.invokestatic 68, 3) := by decide +kernel
theorem dX6_partOf_7 : decode cX6_partOf 7 = .ok (.istore_n 3, 1) := by decide +kernel
theorem dX6_partOf_8 : decode cX6_partOf 8 = .ok (.iload_n 3, 1) := by decide +kernel
theorem dX6_partOf_9 : decode cX6_partOf 9 = .ok (.iconst 1, 1) := by decide +kernel
theorem dX6_partOf_10 : decode cX6_partOf 10 = .ok (.if_icmp .ge 5, 3) := by decide +kernel
theorem dX6_partOf_13 : decode cX6_partOf 13 = .ok (.iconst 0, 1) := by decide +kernel
theorem dX6_partOf_14 : decode cX6_partOf 14 = .ok (.ireturn, 1) := by decide +kernel
theorem dX6_partOf_15 : decode cX6_partOf 15 = .ok (.iload_n 1, 1) := by decide +kernel
theorem dX6_partOf_16 : decode cX6_partOf 16 = .ok (.istore 4, 2) := by decide +kernel
theorem dX6_partOf_18 : decode cX6_partOf 18 = .ok (.iconst 0, 1) := by decide +kernel
theorem dX6_partOf_19 : decode cX6_partOf 19 = .ok (.istore 5, 2) := by decide +kernel
theorem dX6_partOf_21 : decode cX6_partOf 21 = .ok (.iload_n 1, 1) := by decide +kernel
theorem dX6_partOf_22 : decode cX6_partOf 22 = .ok (.aload_n 0, 1) := by decide +kernel
theorem dX6_partOf_23 : decode cX6_partOf 23 = .ok (.getfield 21, 3) := by decide +kernel
theorem dX6_partOf_26 : decode cX6_partOf 26 = .ok (.iload_n 2, 1) := by decide +kernel
theorem dX6_partOf_27 : decode cX6_partOf 27 = .ok (.iaload, 1) := by decide +kernel
theorem dX6_partOf_28 : decode cX6_partOf 28 = .ok (.imul, 1) := by decide +kernel
theorem dX6_partOf_29 : decode cX6_partOf 29 = .ok (.iload_n 3, 1) := by decide +kernel
theorem dX6_partOf_30 : decode cX6_partOf 30 = .ok (.irem, 1) := by decide +kernel
theorem dX6_partOf_31 : decode cX6_partOf 31 = .ok (.istore 6, 2) := by decide +kernel
theorem dX6_partOf_33 : decode cX6_partOf 33 = .ok (.iconst 0, 1) := by decide +kernel
theorem dX6_partOf_34 : decode cX6_partOf 34 = .ok (.istore 7, 2) := by decide +kernel
theorem dX6_partOf_36 : decode cX6_partOf 36 = .ok (.iload 7, 2) := by decide +kernel
theorem dX6_partOf_38 : decode cX6_partOf 38 = .ok (.iconst 5, 1) := by decide +kernel
theorem dX6_partOf_39 : decode cX6_partOf 39 = .ok (.if_icmp .ge 61, 3) := by decide +kernel
theorem dX6_partOf_42 : decode cX6_partOf 42 = .ok (.iload 4, 2) := by decide +kernel
theorem dX6_partOf_44 : decode cX6_partOf 44 = .ok (.iload_n 1, 1) := by decide +kernel
theorem dX6_partOf_45 : decode cX6_partOf 45 = .ok (.aload_n 0, 1) := by decide +kernel
theorem dX6_partOf_46 : decode cX6_partOf 46 = .ok (.getfield 21, 3) := by decide +kernel
theorem dX6_partOf_49 : decode cX6_partOf 49 = .ok (.iload 7, 2) := by decide +kernel
theorem dX6_partOf_51 : decode cX6_partOf 51 = .ok (.iaload, 1) := by decide +kernel
theorem dX6_partOf_52 : decode cX6_partOf 52 = .ok (.imul, 1) := by decide +kernel
theorem dX6_partOf_53 : decode cX6_partOf 53 = .ok (.iload_n 3, 1) := by decide +kernel
theorem dX6_partOf_54 : decode cX6_partOf 54 = .ok (.idiv, 1) := by decide +kernel
theorem dX6_partOf_55 : decode cX6_partOf 55 = .ok (.isub, 1) := by decide +kernel
theorem dX6_partOf_56 : decode cX6_partOf 56 = .ok (.istore 4, 2) := by decide +kernel
theorem dX6_partOf_58 : decode cX6_partOf 58 = .ok (.iload_n 1, 1) := by decide +kernel
theorem dX6_partOf_59 : decode cX6_partOf 59 = .ok (.aload_n 0, 1) := by decide +kernel
theorem dX6_partOf_60 : decode cX6_partOf 60 = .ok (.getfield 21, 3) := by decide +kernel
theorem dX6_partOf_63 : decode cX6_partOf 63 = .ok (.iload 7, 2) := by decide +kernel
theorem dX6_partOf_65 : decode cX6_partOf 65 = .ok (.iaload, 1) := by decide +kernel
theorem dX6_partOf_66 : decode cX6_partOf 66 = .ok (.imul, 1) := by decide +kernel
theorem dX6_partOf_67 : decode cX6_partOf 67 = .ok (.iload_n 3, 1) := by decide +kernel
theorem dX6_partOf_68 : decode cX6_partOf 68 = .ok (.irem, 1) := by decide +kernel
theorem dX6_partOf_69 : decode cX6_partOf 69 = .ok (.istore 8, 2) := by decide +kernel
theorem dX6_partOf_71 : decode cX6_partOf 71 = .ok (.iload 8, 2) := by decide +kernel
theorem dX6_partOf_73 : decode cX6_partOf 73 = .ok (.iload 6, 2) := by decide +kernel
theorem dX6_partOf_75 : decode cX6_partOf 75 = .ok (.if_icmp .gt 16, 3) := by decide +kernel
theorem dX6_partOf_78 : decode cX6_partOf 78 = .ok (.iload 8, 2) := by decide +kernel
theorem dX6_partOf_80 : decode cX6_partOf 80 = .ok (.iload 6, 2) := by decide +kernel
theorem dX6_partOf_82 : decode cX6_partOf 82 = .ok (.if_icmp .ne 12, 3) := by decide +kernel
theorem dX6_partOf_85 : decode cX6_partOf 85 = .ok (.iload 7, 2) := by decide +kernel
theorem dX6_partOf_87 : decode cX6_partOf 87 = .ok (.iload_n 2, 1) := by decide +kernel
theorem dX6_partOf_88 : decode cX6_partOf 88 = .ok (.if_icmp .ge 6, 3) := by decide +kernel
theorem dX6_partOf_91 : decode cX6_partOf 91 = .ok (.iinc 5 1, 3) := by decide +kernel
theorem dX6_partOf_94 : decode cX6_partOf 94 = .ok (.iinc 7 1, 3) := by decide +kernel
theorem dX6_partOf_97 : decode cX6_partOf 97 = .ok (.goto (-61), 3) := by decide +kernel
theorem dX6_partOf_100 : decode cX6_partOf 100 = .ok (.iload_n 1, 1) := by decide +kernel
theorem dX6_partOf_101 : decode cX6_partOf 101 = .ok (.aload_n 0, 1) := by decide +kernel
theorem dX6_partOf_102 : decode cX6_partOf 102 = .ok (.getfield 21, 3) := by decide +kernel
theorem dX6_partOf_105 : decode cX6_partOf 105 = .ok (.iload_n 2, 1) := by decide +kernel
theorem dX6_partOf_106 : decode cX6_partOf 106 = .ok (.iaload, 1) := by decide +kernel
theorem dX6_partOf_107 : decode cX6_partOf 107 = .ok (.imul, 1) := by decide +kernel
theorem dX6_partOf_108 : decode cX6_partOf 108 = .ok (.iload_n 3, 1) := by decide +kernel
theorem dX6_partOf_109 : decode cX6_partOf 109 = .ok (.idiv, 1) := by decide +kernel
theorem dX6_partOf_110 : decode cX6_partOf 110 = .ok (.iload 5, 2) := by decide +kernel
theorem dX6_partOf_112 : decode cX6_partOf 112 = .ok (.iload 4, 2) := by decide +kernel
theorem dX6_partOf_114 : decode cX6_partOf 114 = .ok (.if_icmp .ge 7, 3) := by decide +kernel
theorem dX6_partOf_117 : decode cX6_partOf 117 = .ok (.iconst 1, 1) := by decide +kernel
theorem dX6_partOf_118 : decode cX6_partOf 118 = .ok (.goto 4, 3) := by decide +kernel
theorem dX6_partOf_121 : decode cX6_partOf 121 = .ok (.iconst 0, 1) := by decide +kernel
theorem dX6_partOf_122 : decode cX6_partOf 122 = .ok (.iadd, 1) := by decide +kernel
theorem dX6_partOf_123 : decode cX6_partOf 123 = .ok (.ireturn, 1) := by decide +kernel
theorem dX7_init_0 : decode cX7_init 0 = .ok (.aload_n 0, 1) := by decide +kernel
theorem dX7_init_1 : decode cX7_init 1 = .ok (.invokespecial 3, 3) := by decide +kernel
theorem dX7_init_4 : decode cX7_init 4 = .ok (.aload_n 0, 1) := by decide +kernel
theorem dX7_init_5 : decode cX7_init 5 = .ok (.aload_n 1, 1) := by decide +kernel
theorem dX7_init_6 : decode cX7_init 6 = .ok (.putfield 9, 3) := by decide +kernel
theorem dX7_init_9 : decode cX7_init 9 = .ok (.return_, 1) := by decide +kernel
theorem dX7_read_0 : decode cX7_read 0 = .ok (.aload_n 1, 1) := by decide +kernel
theorem dX7_read_1 : decode cX7_read 1 = .ok (.invokevirtual 15, 3) := by decide +kernel
theorem dX7_read_4 : decode cX7_read 4 = .ok (.iconst 0, 1) := by decide +kernel
theorem dX7_read_5 : decode cX7_read 5 = .ok (.istore_n 2, 1) := by decide +kernel
theorem dX7_read_6 : decode cX7_read 6 = .ok (.iload_n 2, 1) := by decide +kernel
theorem dX7_read_7 : decode cX7_read 7 = .ok (.bipush 40, 2) := by decide +kernel
theorem dX7_read_9 : decode cX7_read 9 = .ok (.if_icmp .gt 62, 3) := by decide +kernel
theorem dX7_read_12 : decode cX7_read 12 = .ok (.aload_n 0, 1) := by decide +kernel
theorem dX7_read_13 : decode cX7_read 13 = .ok (.aload_n 1, 1) := by decide +kernel
theorem dX7_read_14 : decode cX7_read 14 = .ok (.iload_n 2, 1) := by decide +kernel
theorem dX7_read_15 : decode cX7_read 15 = .ok (.invokevirtual 20, 3) := by decide +kernel
theorem dX7_read_18 : decode cX7_read 18 = .ok (.ifCond .ne 11, 3) := by decide +kernel
theorem dX7_read_21 : decode cX7_read 21 = .ok (.aload_n 0, 1) := by decide +kernel
theorem dX7_read_22 : decode cX7_read 22 = .ok (.getfield 9, 3) := by decide +kernel
theorem dX7_read_25 : decode cX7_read 25 = .ok (.getfield 24, 3) := by decide +kernel
theorem dX7_read_28 : decode cX7_read 28 = .ok (.ireturn, 1) := by decide +kernel
theorem dX7_read_29 : decode cX7_read 29 = .ok (.aload_n 0, 1) := by decide +kernel
theorem dX7_read_30 : decode cX7_read 30 = .ok (.getfield 9, 3) := by decide +kernel
theorem dX7_read_33 : decode cX7_read 33 = .ok (.invokevirtual 30, 3) := by decide +kernel
theorem dX7_read_36 : decode cX7_read 36 = .ok (.ifCond .ne 10, 3) := by decide +kernel
theorem dX7_read_39 : decode cX7_read 39 = .ok (.aload_n 1, 1) := by decide +kernel
theorem dX7_read_40 : decode cX7_read 40 = .ok (.iconst 1, 1) := by decide +kernel
theorem dX7_read_41 : decode cX7_read 41 = .ok (.putfield 34, 3) := by decide +kernel
theorem dX7_read_44 : decode cX7_read 44 = .ok (.iconst 0, 1) := by decide +kernel
theorem dX7_read_45 : decode cX7_read 45 = .ok (.ireturn, 1) := by decide +kernel
theorem dX7_read_46 : decode cX7_read 46 = .ok (.aload_n 0, 1) := by decide +kernel
theorem dX7_read_47 : decode cX7_read 47 = .ok (.getfield 9, 3) := by decide +kernel
theorem dX7_read_50 : decode cX7_read 50 = .ok (.iconst 4, 1) := by decide +kernel
theorem dX7_read_51 : decode cX7_read 51 = .ok (.invokevirtual 38, 3) := by decide +kernel
theorem dX7_read_54 : decode cX7_read 54 = .ok (.ifCond .ne 11, 3) := by decide +kernel
theorem dX7_read_57 : decode cX7_read 57 = .ok (.aload_n 0, 1) := by decide +kernel
theorem dX7_read_58 : decode cX7_read 58 = .ok (.getfield 9, 3) := by decide +kernel
theorem dX7_read_61 : decode cX7_read 61 = .ok (.getfield 24, 3) := by decide +kernel
theorem dX7_read_64 : decode cX7_read 64 = .ok (.ireturn, 1) := by decide +kernel
theorem dX7_read_65 : decode cX7_read 65 = .ok (.iinc 2 1, 3) := by decide +kernel
theorem dX7_read_68 : decode cX7_read 68 = .ok (.goto (-62), 3) := by decide +kernel
theorem dX7_read_71 : decode cX7_read 71 = .ok (.aload_n 0, 1) := by decide +kernel
theorem dX7_read_72 : decode cX7_read 72 = .ok (.getfield 9, 3) := by decide +kernel
theorem dX7_read_75 : decode cX7_read 75 = .ok (.getfield 24, 3) := by decide +kernel
theorem dX7_read_78 : decode cX7_read 78 = .ok (.ireturn, 1) := by decide +kernel
theorem dX7_readClause_0 : decode cX7_readClause 0 = .ok (.aload_n 0, 1) := by decide +kernel
theorem dX7_readClause_1 : decode cX7_readClause 1 = .ok (.getfield 9, 3) := by decide +kernel
theorem dX7_readClause_4 : decode cX7_readClause 4 = .ok (.invokevirtual 30, 3) := by decide +kernel
theorem dX7_readClause_7 : decode cX7_readClause 7 = .ok (.istore_n 3, 1) := by decide +kernel
theorem dX7_readClause_8 : decode cX7_readClause 8 = .ok (.iload_n 3, 1) := by decide +kernel
theorem dX7_readClause_9 : decode cX7_readClause 9 = .ok (.bipush 32, 2) := by decide +kernel
theorem dX7_readClause_11 : decode cX7_readClause 11 = .ok (.if_icmp .eq 24, 3) := by decide +kernel
theorem dX7_readClause_14 : decode cX7_readClause 14 = .ok (.iload_n 3, 1) := by decide +kernel
theorem dX7_readClause_15 : decode cX7_readClause 15 = .ok (.bipush 20, 2) := by decide +kernel
theorem dX7_readClause_17 : decode cX7_readClause 17 = .ok (.if_icmp .eq 18, 3) := by decide +kernel
theorem dX7_readClause_20 : decode cX7_readClause 20 = .ok (.iload_n 3, 1) := by decide +kernel
theorem dX7_readClause_21 : decode cX7_readClause 21 = .ok (.bipush 23, 2) := by decide +kernel
theorem dX7_readClause_23 : decode cX7_readClause 23 = .ok (.if_icmp .eq 12, 3) := by decide +kernel
theorem dX7_readClause_26 : decode cX7_readClause 26 = .ok (.aload_n 0, 1) := by decide +kernel
theorem dX7_readClause_27 : decode cX7_readClause 27 = .ok (.getfield 9, 3) := by decide +kernel
theorem dX7_readClause_30 : decode cX7_readClause 30 = .ok (.iconst 0, 1) := by decide +kernel
theorem dX7_readClause_31 : decode cX7_readClause 31 = .ok (.invokevirtual 42, 3) := by decide +kernel
theorem dX7_readClause_34 : decode cX7_readClause 34 = .ok (.ireturn, 1) := by decide +kernel
theorem dX7_readClause_35 : decode cX7_readClause 35 = .ok (.iload_n 3, 1) := by decide +kernel
theorem dX7_readClause_36 : decode cX7_readClause 36 = .ok (.bipush 20, 2) := by decide +kernel
theorem dX7_readClause_38 : decode cX7_readClause 38 = .ok (.if_icmp .ne 15, 3) := by decide +kernel
theorem dX7_readClause_41 : decode cX7_readClause 41 = .ok (.aload_n 1, 1) := by decide +kernel
theorem dX7_readClause_42 : decode cX7_readClause 42 = .ok (.getfield 45, 3) := by decide +kernel
theorem dX7_readClause_45 : decode cX7_readClause 45 = .ok (.iconst 5, 1) := by decide +kernel
theorem dX7_readClause_46 : decode cX7_readClause 46 = .ok (.if_icmp .lt 7, 3) := by decide +kernel
theorem dX7_readClause_49 : decode cX7_readClause 49 = .ok (.iconst 1, 1) := by decide +kernel
theorem dX7_readClause_50 : decode cX7_readClause 50 = .ok (.goto 4, 3) := by decide +kernel
theorem dX7_readClause_53 : decode cX7_readClause 53 = .ok (.iconst 0, 1) := by decide +kernel
theorem dX7_readClause_54 : decode cX7_readClause 54 = .ok (.istore 4, 2) := by decide +kernel
theorem dX7_readClause_56 : decode cX7_readClause 56 = .ok (.iload_n 2, 1) := by decide +kernel
theorem dX7_readClause_57 : decode cX7_readClause 57 = .ok (.bipush 40, 2) := by decide +kernel
theorem dX7_readClause_59 : decode cX7_readClause 59 = .ok (.if_icmp .ge 31, 3) := by decide +kernel
theorem dX7_readClause_62 : decode cX7_readClause 62 = .ok (.iload_n 3, 1) := by decide +kernel
theorem dX7_readClause_63 : decode cX7_readClause 63 = .ok (.bipush 32, 2) := by decide +kernel
theorem dX7_readClause_65 : decode cX7_readClause 65 = .ok (.if_icmp .ne 7, 3) := by decide +kernel
theorem dX7_readClause_68 : decode cX7_readClause 68 = .ok (.iconst 1, 1) := by decide +kernel
theorem dX7_readClause_69 : decode cX7_readClause 69 = .ok (.goto 4, 3) := by decide +kernel
theorem dX7_readClause_72 : decode cX7_readClause 72 = .ok (.iconst 0, 1) := by decide +kernel
theorem dX7_readClause_73 : decode cX7_readClause 73 = .ok (.iload_n 2, 1) := by decide +kernel
theorem dX7_readClause_74 : decode cX7_readClause 74 = .ok (.ifCond .ne 7, 3) := by decide +kernel
theorem dX7_readClause_77 : decode cX7_readClause 77 = .ok (.iconst 1, 1) := by decide +kernel
theorem dX7_readClause_78 : decode cX7_readClause 78 = .ok (.goto 4, 3) := by decide +kernel
theorem dX7_readClause_81 : decode cX7_readClause 81 = .ok (.iconst 0, 1) := by decide +kernel
theorem dX7_readClause_82 : decode cX7_readClause 82 = .ok (.if_icmp .ne 8, 3) := by decide +kernel
theorem dX7_readClause_85 : decode cX7_readClause 85 = .ok (.iload 4, 2) := by decide +kernel
theorem dX7_readClause_87 : decode cX7_readClause 87 = .ok (.ifCond .eq 12, 3) := by decide +kernel
theorem dX7_readClause_90 : decode cX7_readClause 90 = .ok (.aload_n 0, 1) := by decide +kernel
theorem dX7_readClause_91 : decode cX7_readClause 91 = .ok (.getfield 9, 3) := by decide +kernel
theorem dX7_readClause_94 : decode cX7_readClause 94 = .ok (.iconst 4, 1) := by decide +kernel
theorem dX7_readClause_95 : decode cX7_readClause 95 = .ok (.invokevirtual 42, 3) := by decide +kernel
theorem dX7_readClause_98 : decode cX7_readClause 98 = .ok (.ireturn, 1) := by decide +kernel
theorem dX7_readClause_99 : decode cX7_readClause 99 = .ok (.aload_n 0, 1) := by decide +kernel
theorem dX7_readClause_100 : decode cX7_readClause 100 = .ok (.getfield 9, 3) := by decide +kernel
theorem dX7_readClause_103 : decode cX7_readClause 103 = .ok (.invokevirtual 48, 3) := by decide +kernel
theorem dX7_readClause_106 : decode cX7_readClause 106 = .ok (.iload_n 3, 1) := by decide +kernel
theorem dX7_readClause_107 : decode cX7_readClause 107 = .ok (.bipush 32, 2) := by decide +kernel
theorem dX7_readClause_109 : decode cX7_readClause 109 = .ok (.if_icmp .ne 9, 3) := by decide +kernel
theorem dX7_readClause_112 : decode cX7_readClause 112 = .ok (.aload_n 0, 1) := by decide +kernel
theorem dX7_readClause_113 : decode cX7_readClause 113 = .ok (.aload_n 1, 1) := by decide +kernel
theorem dX7_readClause_114 : decode cX7_readClause 114 = .ok (.invokevirtual 51, 3) := by decide +kernel
theorem dX7_readClause_117 : decode cX7_readClause 117 = .ok (.ireturn, 1) := by decide +kernel
theorem dX7_readClause_118 : decode cX7_readClause 118 = .ok (.iload_n 3, 1) := by decide +kernel
theorem dX7_readClause_119 : decode cX7_readClause 119 = .ok (.bipush 20, 2) := by decide +kernel
theorem dX7_readClause_121 : decode cX7_readClause 121 = .ok (.if_icmp .ne 11, 3) := by decide +kernel
theorem dX7_readClause_124 : decode cX7_readClause 124 = .ok (.aload_n 0, 1) := by decide +kernel
theorem dX7_readClause_125 : decode cX7_readClause 125 = .ok (.aload_n 1, 1) := by decide +kernel
theorem dX7_readClause_126 : decode cX7_readClause 126 = .ok (.invokevirtual 55, 3) := by decide +kernel
theorem dX7_readClause_129 : decode cX7_readClause 129 = .ok (.goto 8, 3) := by decide +kernel
theorem dX7_readClause_132 : decode cX7_readClause 132 = .ok (.aload_n 0, 1) := by decide +kernel
theorem dX7_readClause_133 : decode cX7_readClause 133 = .ok (.aload_n 1, 1) := by decide +kernel
theorem dX7_readClause_134 : decode cX7_readClause 134 = .ok (.invokevirtual 58, 3) := by decide +kernel
theorem dX7_readClause_137 : decode cX7_readClause 137 = .ok (.ireturn, 1) := by decide +kernel
theorem dX7_readRates_0 : decode cX7_readRates 0 = .ok (.aload_n 0, 1) := by decide +kernel
theorem dX7_readRates_1 : decode cX7_readRates 1 = .ok (.getfield 9, 3) := by decide +kernel
theorem dX7_readRates_4 : decode cX7_readRates 4 = .ok (.iconst 1, 1) := by decide +kernel
theorem dX7_readRates_5 : decode cX7_readRates 5 = .ok (.bipush 9, 2) := by decide +kernel
theorem dX7_readRates_7 : decode cX7_readRates 7 = .ok (.invokevirtual 61, 3) := by decide +kernel
theorem dX7_readRates_10 : decode cX7_readRates 10 = .ok (.ifCond .ne 5, 3) := by decide +kernel
theorem dX7_readRates_13 : decode cX7_readRates 13 = .ok (.iconst 0, 1) := by decide +kernel
theorem dX7_readRates_14 : decode cX7_readRates 14 = .ok (.ireturn, 1) := by decide +kernel
theorem dX7_readRates_15 : decode cX7_readRates 15 = .ok (.aload_n 1, 1) := by decide +kernel
theorem dX7_readRates_16 : decode cX7_readRates 16 = .ok (.aload_n 0, 1) := by decide +kernel
theorem dX7_readRates_17 : decode cX7_readRates 17 = .ok (.getfield 9, 3) := by decide +kernel
theorem dX7_readRates_20 : decode cX7_readRates 20 = .ok (.getfield 65, 3) := by decide +kernel
theorem dX7_readRates_23 : decode cX7_readRates 23 = .ok (.putfield 68, 3) := by decide +kernel
theorem dX7_readRates_26 : decode cX7_readRates 26 = .ok (.aload_n 0, 1) := by decide +kernel
theorem dX7_readRates_27 : decode cX7_readRates 27 = .ok (.getfield 9, 3) := by decide +kernel
theorem dX7_readRates_30 : decode cX7_readRates 30 = .ok (.iconst 0, 1) := by decide +kernel
theorem dX7_readRates_31 : decode cX7_readRates 31 = .ok (.bipush 9, 2) := by decide +kernel
theorem dX7_readRates_33 : decode cX7_readRates 33 = .ok (.invokevirtual 61, 3) := by decide +kernel
theorem dX7_readRates_36 : decode cX7_readRates 36 = .ok (.ifCond .ne 5, 3) := by decide +kernel
theorem dX7_readRates_39 : decode cX7_readRates 39 = .ok (.iconst 0, 1) := by decide +kernel
theorem dX7_readRates_40 : decode cX7_readRates 40 = .ok (.ireturn, 1) := by decide +kernel
theorem dX7_readRates_41 : decode cX7_readRates 41 = .ok (.aload_n 1, 1) := by decide +kernel
theorem dX7_readRates_42 : decode cX7_readRates 42 = .ok (.aload_n 0, 1) := by decide +kernel
theorem dX7_readRates_43 : decode cX7_readRates 43 = .ok (.getfield 9, 3) := by decide +kernel
theorem dX7_readRates_46 : decode cX7_readRates 46 = .ok (.getfield 65, 3) := by decide +kernel
theorem dX7_readRates_49 : decode cX7_readRates 49 = .ok (.putfield 71, 3) := by decide +kernel
theorem dX7_readRates_52 : decode cX7_readRates 52 = .ok (.iconst 1, 1) := by decide +kernel
theorem dX7_readRates_53 : decode cX7_readRates 53 = .ok (.ireturn, 1) := by decide +kernel
theorem dX7_readLand_0 : decode cX7_readLand 0 = .ok (.aload_n 1, 1) := by decide +kernel
theorem dX7_readLand_1 : decode cX7_readLand 1 = .ok (.getfield 45, 3) := by decide +kernel
theorem dX7_readLand_4 : decode cX7_readLand 4 = .ok (.istore_n 2, 1) := by decide +kernel
theorem dX7_readLand_5 : decode cX7_readLand 5 = .ok (.aload_n 0, 1) := by decide +kernel
theorem dX7_readLand_6 : decode cX7_readLand 6 = .ok (.getfield 9, 3) := by decide +kernel
theorem dX7_readLand_9 : decode cX7_readLand 9 = .ok (.iconst 0, 1) := by decide +kernel
theorem dX7_readLand_10 : decode cX7_readLand 10 = .ok (.bipush 99, 2) := by decide +kernel
theorem dX7_readLand_12 : decode cX7_readLand 12 = .ok (.invokevirtual 61, 3) := by decide +kernel
theorem dX7_readLand_15 : decode cX7_readLand 15 = .ok (.ifCond .ne 5, 3) := by decide +kernel
theorem dX7_readLand_18 : decode cX7_readLand 18 = .ok (.iconst 0, 1) := by decide +kernel
theorem dX7_readLand_19 : decode cX7_readLand 19 = .ok (.ireturn, 1) := by decide +kernel
