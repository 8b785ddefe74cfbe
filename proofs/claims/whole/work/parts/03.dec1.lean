theorem dX5_init_56 : decode cX5_init 56 = .ok (.aload_n 0, 1) := by decide +kernel
theorem dX5_init_57 : decode cX5_init 57 = .ok (.new 41, 3) := by decide +kernel
theorem dX5_init_60 : decode cX5_init 60 = .ok (.dup, 1) := by decide +kernel
theorem dX5_init_61 : decode cX5_init 61 = .ok (.invokespecial 43, 3) := by decide +kernel
theorem dX5_init_64 : decode cX5_init 64 = .ok (.putfield 44, 3) := by decide +kernel
theorem dX5_init_67 : decode cX5_init 67 = .ok (.aload_n 0, 1) := by decide +kernel
theorem dX5_init_68 : decode cX5_init 68 = .ok (.iconst 3, 1) := by decide +kernel
theorem dX5_init_69 : decode cX5_init 69 = .ok (.newarray .int, 2) := by decide +kernel
theorem dX5_init_71 : decode cX5_init 71 = .ok (.putfield 48, 3) := by decide +kernel
theorem dX5_init_74 : decode cX5_init 74 = .ok (.aload_n 0, 1) := by decide +kernel
theorem dX5_init_75 : decode cX5_init 75 = .ok (.iconst 1, 1) := by decide +kernel
theorem dX5_init_76 : decode cX5_init 76 = .ok (.putfield 52, 3) := by decide +kernel
theorem dX5_init_79 : decode cX5_init 79 = .ok (.aload_n 0, 1) := by decide +kernel
theorem dX5_init_80 : decode cX5_init 80 = .ok (.iconst 1, 1) := by decide +kernel
theorem dX5_init_81 : decode cX5_init 81 = .ok (.putfield 56, 3) := by decide +kernel
theorem dX5_init_84 : decode cX5_init 84 = .ok (.return_, 1) := by decide +kernel
theorem dX5_type_0 : decode cX5_type 0 = .ok (.iload_n 3, 1) := by decide +kernel
theorem dX5_type_1 : decode cX5_type 1 = .ok (.iconst 1, 1) := by decide +kernel
theorem dX5_type_2 : decode cX5_type 2 = .ok (.if_icmp .lt 9, 3) := by decide +kernel
theorem dX5_type_5 : decode cX5_type 5 = .ok (.iload_n 3, 1) := by decide +kernel
theorem dX5_type_6 : decode cX5_type 6 = .ok (.bipush 8, 2) := by decide +kernel
theorem dX5_type_8 : decode cX5_type 8 = .ok (.if_icmp .le 8, 3) := by decide +kernel
theorem dX5_type_11 : decode cX5_type 11 = .ok (.aload_n 0, 1) := by decide +kernel
theorem dX5_type_12 : decode cX5_type 12 = .ok (.invokevirtual 59, 3) := by decide +kernel
theorem dX5_type_15 : decode cX5_type 15 = .ok (.ireturn, 1) := by decide +kernel
theorem dX5_type_16 : decode cX5_type 16 = .ok (.aload_n 0, 1) := by decide +kernel
theorem dX5_type_17 : decode cX5_type 17 = .ok (.getfield 12, 3) := by decide +kernel
theorem dX5_type_20 : decode cX5_type 20 = .ok (.getfield 63, 3) := by decide +kernel
theorem dX5_type_23 : decode cX5_type 23 = .ok (.iload_n 3, 1) := by decide +kernel
theorem dX5_type_24 : decode cX5_type 24 = .ok (.iadd, 1) := by decide +kernel
theorem dX5_type_25 : decode cX5_type 25 = .ok (.bipush 120, 2) := by decide +kernel
theorem dX5_type_27 : decode cX5_type 27 = .ok (.if_icmp .le 8, 3) := by decide +kernel
theorem dX5_type_30 : decode cX5_type 30 = .ok (.aload_n 0, 1) := by decide +kernel
theorem dX5_type_31 : decode cX5_type 31 = .ok (.invokevirtual 67, 3) := by decide +kernel
theorem dX5_type_34 : decode cX5_type 34 = .ok (.ireturn, 1) := by decide +kernel
theorem dX5_type_35 : decode cX5_type 35 = .ok (.iload_n 3, 1) := by decide +kernel
theorem dX5_type_36 : decode cX5_type 36 = .ok (.iconst 1, 1) := by decide +kernel
theorem dX5_type_37 : decode cX5_type 37 = .ok (.isub, 1) := by decide +kernel
theorem dX5_type_38 : decode cX5_type 38 = .ok (.istore 4, 2) := by decide +kernel
theorem dX5_type_40 : decode cX5_type 40 = .ok (.iload 4, 2) := by decide +kernel
theorem dX5_type_42 : decode cX5_type 42 = .ok (.ifCond .lt 51, 3) := by decide +kernel
theorem dX5_type_45 : decode cX5_type 45 = .ok (.aload_n 0, 1) := by decide +kernel
theorem dX5_type_46 : decode cX5_type 46 = .ok (.getfield 12, 3) := by decide +kernel
theorem dX5_type_49 : decode cX5_type 49 = .ok (.getfield 70, 3) := by decide +kernel
theorem dX5_type_52 : decode cX5_type 52 = .ok (.aload_n 0, 1) := by decide +kernel
theorem dX5_type_53 : decode cX5_type 53 = .ok (.getfield 12, 3) := by decide +kernel
theorem dX5_type_56 : decode cX5_type 56 = .ok (.getfield 63, 3) := by decide +kernel
theorem dX5_type_59 : decode cX5_type 59 = .ok (.lload_n 1, 1) := by decide +kernel
theorem dX5_type_60 : decode cX5_type 60 = .ok (.bipush 8, 2) := by decide +kernel
theorem dX5_type_62 : decode cX5_type 62 = .ok (.iload 4, 2) := by decide +kernel
theorem dX5_type_64 : decode cX5_type 64 = .ok (.imul, 1) := by decide +kernel
theorem dX5_type_65 : decode cX5_type 65 = .ok (.lshr, 1) := by decide +kernel
theorem dX5_type_66 : decode cX5_type 66 = .ok (.l2i, 1) := by decide +kernel
theorem dX5_type_67 : decode cX5_type 67 = .ok (.sipush 255, 3) := by decide +kernel
theorem dX5_type_70 : decode cX5_type 70 = .ok (.iand, 1) := by decide +kernel
theorem dX5_type_71 : decode cX5_type 71 = .ok (.invokestatic 73, 3) := by decide +kernel
theorem dX5_type_74 : decode cX5_type 74 = .ok (.aload_n 0, 1) := by decide +kernel
theorem dX5_type_75 : decode cX5_type 75 = .ok (.getfield 12, 3) := by decide +kernel
theorem dX5_type_78 : decode cX5_type 78 = .ok (.dup, 1) := by decide +kernel
theorem dX5_type_79 : decode cX5_type 79 = .ok (.getfield 63, 3) := by decide +kernel
theorem dX5_type_82 : decode cX5_type 82 = .ok (.iconst 1, 1) := by decide +kernel
theorem dX5_type_83 : decode cX5_type 83 = .ok (.iadd, 1) := by decide +kernel
theorem dX5_type_84 : decode cX5_type 84 = .ok (.putfield 63, 3) := by decide +kernel
theorem dX5_type_87 : decode cX5_type 87 = .ok (.iinc 4 (-1), 3) := by decide +kernel
theorem dX5_type_90 : decode cX5_type 90 = .ok (.goto (-50), 3) := by decide +kernel
theorem dX5_type_93 : decode cX5_type 93 = .ok (.aload_n 0, 1) := by decide +kernel
theorem dX5_type_94 : decode cX5_type 94 = .ok (.invokevirtual 77, 3) := by decide +kernel
theorem dX5_type_97 : decode cX5_type 97 = .ok (.aload_n 0, 1) := by decide +kernel
theorem dX5_type_98 : decode cX5_type 98 = .ok (.getfield 12, 3) := by decide +kernel
theorem dX5_type_101 : decode cX5_type 101 = .ok (.getfield 63, 3) := by decide +kernel
theorem dX5_type_104 : decode cX5_type 104 = .ok (.ireturn, 1) := by decide +kernel
theorem dX5_clear_0 : decode cX5_clear 0 = .ok (.aload_n 0, 1) := by decide +kernel
theorem dX5_clear_1 : decode cX5_clear 1 = .ok (.getfield 12, 3) := by decide +kernel
theorem dX5_clear_4 : decode cX5_clear 4 = .ok (.getfield 63, 3) := by decide +kernel
theorem dX5_clear_7 : decode cX5_clear 7 = .ok (.istore_n 1, 1) := by decide +kernel
theorem dX5_clear_8 : decode cX5_clear 8 = .ok (.aload_n 0, 1) := by decide +kernel
theorem dX5_clear_9 : decode cX5_clear 9 = .ok (.getfield 12, 3) := by decide +kernel
theorem dX5_clear_12 : decode cX5_clear 12 = .ok (.iconst 0, 1) := by decide +kernel
theorem dX5_clear_13 : decode cX5_clear 13 = .ok (.putfield 63, 3) := by decide +kernel
theorem dX5_clear_16 : decode cX5_clear 16 = .ok (.aload_n 0, 1) := by decide +kernel
theorem dX5_clear_17 : decode cX5_clear 17 = .ok (.invokevirtual 77, 3) := by decide +kernel
theorem dX5_clear_20 : decode cX5_clear 20 = .ok (.iload_n 1, 1) := by decide +kernel
theorem dX5_clear_21 : decode cX5_clear 21 = .ok (.ireturn, 1) := by decide +kernel
theorem dX5_faulty_0 : decode cX5_faulty 0 = .ok (.aload_n 0, 1) := by decide +kernel
theorem dX5_faulty_1 : decode cX5_faulty 1 = .ok (.invokevirtual 80, 3) := by decide +kernel
theorem dX5_faulty_4 : decode cX5_faulty 4 = .ok (.aload_n 0, 1) := by decide +kernel
theorem dX5_faulty_5 : decode cX5_faulty 5 = .ok (.getfield 23, 3) := by decide +kernel
theorem dX5_faulty_8 : decode cX5_faulty 8 = .ok (.getfield 83, 3) := by decide +kernel
theorem dX5_faulty_11 : decode cX5_faulty 11 = .ok (.ireturn, 1) := by decide +kernel
theorem dX5_minutes_0 : decode cX5_minutes 0 = .ok (.aload_n 0, 1) := by decide +kernel
theorem dX5_minutes_1 : decode cX5_minutes 1 = .ok (.invokevirtual 86, 3) := by decide +kernel
theorem dX5_minutes_4 : decode cX5_minutes 4 = .ok (.ifCond .eq 8, 3) := by decide +kernel
theorem dX5_minutes_7 : decode cX5_minutes 7 = .ok (.aload_n 0, 1) := by decide +kernel
theorem dX5_minutes_8 : decode cX5_minutes 8 = .ok (.invokevirtual 90, 3) := by decide +kernel
theorem dX5_minutes_11 : decode cX5_minutes 11 = .ok (.ireturn, 1) := by decide +kernel
theorem dX5_minutes_12 : decode cX5_minutes 12 = .ok (.aload_n 0, 1) := by decide +kernel
theorem dX5_minutes_13 : decode cX5_minutes 13 = .ok (.getfield 23, 3) := by decide +kernel
theorem dX5_minutes_16 : decode cX5_minutes 16 = .ok (.getfield 93, 3) := by decide +kernel
theorem dX5_minutes_19 : decode cX5_minutes 19 = .ok (.ireturn, 1) := by decide +kernel
theorem dX5_put_0 : decode cX5_put 0 = .ok (.iload_n 1, 1) := by decide +kernel
theorem dX5_put_1 : decode cX5_put 1 = .ok (.iload_n 2, 1) := by decide +kernel
theorem dX5_put_2 : decode cX5_put 2 = .ok (.invokestatic 94, 3) := by decide +kernel
theorem dX5_put_5 : decode cX5_put 5 = .ok (.ifCond .ne 8, 3) := by decide +kernel
theorem dX5_put_8 : decode cX5_put 8 = .ok (.aload_n 0, 1) := by decide +kernel
theorem dX5_put_9 : decode cX5_put 9 = .ok (.invokevirtual 59, 3) := by decide +kernel
theorem dX5_put_12 : decode cX5_put 12 = .ok (.ireturn, 1) := by decide +kernel
theorem dX5_put_13 : decode cX5_put 13 = .ok (.aload_n 0, 1) := by decide +kernel
theorem dX5_put_14 : decode cX5_put 14 = .ok (.getfield 12, 3) := by decide +kernel
theorem dX5_put_17 : decode cX5_put 17 = .ok (.getfield 98, 3) := by decide +kernel
theorem dX5_put_20 : decode cX5_put 20 = .ok (.iload_n 1, 1) := by decide +kernel
theorem dX5_put_21 : decode cX5_put 21 = .ok (.invokestatic 101, 3) := by decide +kernel
theorem dX5_put_24 : decode cX5_put 24 = .ok (.istore_n 3, 1) := by decide +kernel
theorem dX5_put_25 : decode cX5_put 25 = .ok (.aload_n 0, 1) := by decide +kernel
theorem dX5_put_26 : decode cX5_put 26 = .ok (.getfield 12, 3) := by decide +kernel
theorem dX5_put_29 : decode cX5_put 29 = .ok (.getfield 98, 3) := by decide +kernel
theorem dX5_put_32 : decode cX5_put 32 = .ok (.iload_n 1, 1) := by decide +kernel
theorem dX5_put_33 : decode cX5_put 33 = .ok (.iload_n 2, 1) := by decide +kernel
theorem dX5_put_34 : decode cX5_put 34 = .ok (.invokestatic 73, 3) := by decide +kernel
theorem dX5_put_37 : decode cX5_put 37 = .ok (.aload_n 0, 1) := by decide +kernel
theorem dX5_put_38 : decode cX5_put 38 = .ok (.invokevirtual 77, 3) := by decide +kernel
theorem dX5_put_41 : decode cX5_put 41 = .ok (.iload_n 3, 1) := by decide +kernel
theorem dX5_put_42 : decode cX5_put 42 = .ok (.ireturn, 1) := by decide +kernel
theorem dX5_prior_0 : decode cX5_prior 0 = .ok (.iload_n 1, 1) := by decide +kernel
theorem dX5_prior_1 : decode cX5_prior 1 = .ok (.ifCond .lt 19, 3) := by decide +kernel
theorem dX5_prior_4 : decode cX5_prior 4 = .ok (.iload_n 1, 1) := by decide +kernel
theorem dX5_prior_5 : decode cX5_prior 5 = .ok (.bipush 7, 2) := by decide +kernel
theorem dX5_prior_7 : decode cX5_prior 7 = .ok (.if_icmp .ge 13, 3) := by decide +kernel
theorem dX5_prior_10 : decode cX5_prior 10 = .ok (.iload_n 2, 1) := by decide +kernel
theorem dX5_prior_11 : decode cX5_prior 11 = .ok (.ifCond .lt 9, 3) := by decide +kernel
theorem dX5_prior_14 : decode cX5_prior 14 = .ok (.iload_n 2, 1) := by decide +kernel
theorem dX5_prior_15 : decode cX5_prior 15 = .ok (.bipush 9, 2) := by decide +kernel
theorem dX5_prior_17 : decode cX5_prior 17 = .ok (.if_icmp .le 8, 3) := by decide +kernel
theorem dX5_prior_20 : decode cX5_prior 20 = .ok (.aload_n 0, 1) := by decide +kernel
theorem dX5_prior_21 : decode cX5_prior 21 = .ok (.invokevirtual 59, 3) := by decide +kernel
theorem dX5_prior_24 : decode cX5_prior 24 = .ok (.ireturn, 1) := by decide +kernel
theorem dX5_prior_25 : decode cX5_prior 25 = .ok (.aload_n 0, 1) := by decide +kernel
theorem dX5_prior_26 : decode cX5_prior 26 = .ok (.getfield 12, 3) := by decide +kernel
theorem dX5_prior_29 : decode cX5_prior 29 = .ok (.getfield 105, 3) := by decide +kernel
theorem dX5_prior_32 : decode cX5_prior 32 = .ok (.iload_n 1, 1) := by decide +kernel
theorem dX5_prior_33 : decode cX5_prior 33 = .ok (.invokestatic 101, 3) := by decide +kernel
theorem dX5_prior_36 : decode cX5_prior 36 = .ok (.istore_n 3, 1) := by decide +kernel
theorem dX5_prior_37 : decode cX5_prior 37 = .ok (.aload_n 0, 1) := by decide +kernel
theorem dX5_prior_38 : decode cX5_prior 38 = .ok (.getfield 12, 3) := by decide +kernel
theorem dX5_prior_41 : decode cX5_prior 41 = .ok (.getfield 105, 3) := by decide +kernel
theorem dX5_prior_44 : decode cX5_prior 44 = .ok (.iload_n 1, 1) := by decide +kernel
theorem dX5_prior_45 : decode cX5_prior 45 = .ok (.iload_n 2, 1) := by decide +kernel
theorem dX5_prior_46 : decode cX5_prior 46 = .ok (.invokestatic 73, 3) := by decide +kernel
theorem dX5_prior_49 : decode cX5_prior 49 = .ok (.aload_n 0, 1) := by decide +kernel
theorem dX5_prior_50 : decode cX5_prior 50 = .ok (.iconst 1, 1) := by decide +kernel
theorem dX5_prior_51 : decode cX5_prior 51 = .ok (.putfield 56, 3) := by decide +kernel
theorem dX5_prior_54 : decode cX5_prior 54 = .ok (.iload_n 3, 1) := by decide +kernel
theorem dX5_prior_55 : decode cX5_prior 55 = .ok (.ireturn, 1) := by decide +kernel
theorem dX5_fault_0 : decode cX5_fault 0 = .ok (.iload_n 2, 1) := by decide +kernel
theorem dX5_fault_1 : decode cX5_fault 1 = .ok (.iconst (-1), 1) := by decide +kernel
theorem dX5_fault_2 : decode cX5_fault 2 = .ok (.if_icmp .ne 11, 3) := by decide +kernel
theorem dX5_fault_5 : decode cX5_fault 5 = .ok (.iload_n 3, 1) := by decide +kernel
theorem dX5_fault_6 : decode cX5_fault 6 = .ok (.ifCond .ne 7, 3) := by decide +kernel
theorem dX5_fault_9 : decode cX5_fault 9 = .ok (.iconst 1, 1) := by decide +kernel
theorem dX5_fault_10 : decode cX5_fault 10 = .ok (.goto 4, 3) := by decide +kernel
theorem dX5_fault_13 : decode cX5_fault 13 = .ok (.iconst 0, 1) := by decide +kernel
theorem dX5_fault_14 : decode cX5_fault 14 = .ok (.istore 4, 2) := by decide +kernel
theorem dX5_fault_16 : decode cX5_fault 16 = .ok (.iload_n 1, 1) := by decide +kernel
theorem dX5_fault_17 : decode cX5_fault 17 = .ok (.ifCond .lt 21, 3) := by decide +kernel
theorem dX5_fault_20 : decode cX5_fault 20 = .ok (.iload_n 1, 1) := by decide +kernel
theorem dX5_fault_21 : decode cX5_fault 21 = .ok (.iconst 4, 1) := by decide +kernel
theorem dX5_fault_22 : decode cX5_fault 22 = .ok (.if_icmp .ge 16, 3) := by decide +kernel
theorem dX5_fault_25 : decode cX5_fault 25 = .ok (.iload 4, 2) := by decide +kernel
theorem dX5_fault_27 : decode cX5_fault 27 = .ok (.ifCond .ne 16, 3) := by decide +kernel
theorem dX5_fault_30 : decode cX5_fault 30 = .ok (.iload_n 2, 1) := by decide +kernel
theorem dX5_fault_31 : decode cX5_fault 31 = .ok (.iload_n 3, 1) := by decide +kernel
theorem dX5_fault_32 : decode cX5_fault 32 = .ok (.invokestatic 108, 3) := by decide +kernel
theorem dX5_fault_35 : decode cX5_fault 35 = .ok (.ifCond .ne 8, 3) := by decide +kernel
theorem dX5_fault_38 : decode cX5_fault 38 = .ok (.aload_n 0, 1) := by decide +kernel
theorem dX5_fault_39 : decode cX5_fault 39 = .ok (.invokevirtual 59, 3) := by decide +kernel
theorem dX5_fault_42 : decode cX5_fault 42 = .ok (.ireturn, 1) := by decide +kernel
theorem dX5_fault_43 : decode cX5_fault 43 = .ok (.aload_n 0, 1) := by decide +kernel
theorem dX5_fault_44 : decode cX5_fault 44 = .ok (.getfield 12, 3) := by decide +kernel
theorem dX5_fault_47 : decode cX5_fault 47 = .ok (.getfield 111, 3) := by decide +kernel
theorem dX5_fault_50 : decode cX5_fault 50 = .ok (.iload_n 1, 1) := by decide +kernel
theorem dX5_fault_51 : decode cX5_fault 51 = .ok (.iload 4, 2) := by decide +kernel
theorem dX5_fault_53 : decode cX5_fault 53 = .ok (.ifCond .eq 7, 3) := by decide +kernel
theorem dX5_fault_56 : decode cX5_fault 56 = .ok (.iconst (-1), 1) := by decide +kernel
theorem dX5_fault_57 : decode cX5_fault 57 = .ok (.goto 8, 3) := by decide +kernel
theorem dX5_fault_60 : decode cX5_fault 60 = .ok (.iload_n 2, 1) := by decide +kernel
theorem dX5_fault_61 : decode cX5_fault 61 = .ok (.iload_n 3, 1) := by decide +kernel
theorem dX5_fault_62 : decode cX5_fault 62 = .ok (.invokestatic 114, 3) := by decide +kernel
theorem dX5_fault_65 : decode cX5_fault 65 = .ok (.invokestatic 73, 3) := by decide +kernel
theorem dX5_fault_68 : decode cX5_fault 68 = .ok (.iconst 1, 1) := by decide +kernel
theorem dX5_fault_69 : decode cX5_fault 69 = .ok (.ireturn, 1) := by decide +kernel
theorem dX5_warm_0 : decode cX5_warm 0 = .ok (.aload_n 0, 1) := by decide +kernel
theorem dX5_warm_1 : decode cX5_warm 1 = .ok (.invokevirtual 86, 3) := by decide +kernel
theorem dX5_warm_4 : decode cX5_warm 4 = .ok (.ifCond .eq 8, 3) := by decide +kernel
theorem dX5_warm_7 : decode cX5_warm 7 = .ok (.aload_n 0, 1) := by decide +kernel
theorem dX5_warm_8 : decode cX5_warm 8 = .ok (.invokevirtual 90, 3) := by decide +kernel
theorem dX5_warm_11 : decode cX5_warm 11 = .ok (.ireturn, 1) := by decide +kernel
theorem dX5_warm_12 : decode cX5_warm 12 = .ok (.iload_n 1, 1) := by decide +kernel
theorem dX5_warm_13 : decode cX5_warm 13 = .ok (.ifCond .lt 14, 3) := by decide +kernel
theorem dX5_warm_16 : decode cX5_warm 16 = .ok (.iload_n 1, 1) := by decide +kernel
theorem dX5_warm_17 : decode cX5_warm 17 = .ok (.aload_n 0, 1) := by decide +kernel
theorem dX5_warm_18 : decode cX5_warm 18 = .ok (.getfield 23, 3) := by decide +kernel
theorem dX5_warm_21 : decode cX5_warm 21 = .ok (.getfield 93, 3) := by decide +kernel
theorem dX5_warm_24 : decode cX5_warm 24 = .ok (.if_icmp .le 8, 3) := by decide +kernel
theorem dX5_warm_27 : decode cX5_warm 27 = .ok (.aload_n 0, 1) := by decide +kernel
theorem dX5_warm_28 : decode cX5_warm 28 = .ok (.invokevirtual 59, 3) := by decide +kernel
theorem dX5_warm_31 : decode cX5_warm 31 = .ok (.ireturn, 1) := by decide +kernel
theorem dX5_warm_32 : decode cX5_warm 32 = .ok (.aload_n 0, 1) := by decide +kernel
theorem dX5_warm_33 : decode cX5_warm 33 = .ok (.getfield 23, 3) := by decide +kernel
theorem dX5_warm_36 : decode cX5_warm 36 = .ok (.getfield 118, 3) := by decide +kernel
theorem dX5_warm_39 : decode cX5_warm 39 = .ok (.iload_n 1, 1) := by decide +kernel
theorem dX5_warm_40 : decode cX5_warm 40 = .ok (.invokestatic 101, 3) := by decide +kernel
theorem dX5_warm_43 : decode cX5_warm 43 = .ok (.ireturn, 1) := by decide +kernel
theorem dX5_gives_0 : decode cX5_gives 0 = .ok (.aload_n 0, 1) := by decide +kernel
theorem dX5_gives_1 : decode cX5_gives 1 = .ok (.invokevirtual 86, 3) := by decide +kernel
theorem dX5_gives_4 : decode cX5_gives 4 = .ok (.ifCond .eq 8, 3) := by decide +kernel
theorem dX5_gives_7 : decode cX5_gives 7 = .ok (.aload_n 0, 1) := by decide +kernel
theorem dX5_gives_8 : decode cX5_gives 8 = .ok (.invokevirtual 90, 3) := by decide +kernel
theorem dX5_gives_11 : decode cX5_gives 11 = .ok (.ireturn, 1) := by decide +kernel
theorem dX5_gives_12 : decode cX5_gives 12 = .ok (.iload_n 1, 1) := by decide +kernel
theorem dX5_gives_13 : decode cX5_gives 13 = .ok (.iload_n 2, 1) := by decide +kernel
theorem dX5_gives_14 : decode cX5_gives 14 = .ok (.invokestatic 108, 3) := by decide +kernel
theorem dX5_gives_17 : decode cX5_gives 17 = .ok (.ifCond .eq 22, 3) := by decide +kernel
theorem dX5_gives_20 : decode cX5_gives 20 = .ok (.aload_n 0, 1) := by decide +kernel
theorem dX5_gives_21 : decode cX5_gives 21 = .ok (.getfield 23, 3) := by decide +kernel
theorem dX5_gives_24 : decode cX5_gives 24 = .ok (.iload_n 3, 1) := by decide +kernel
theorem dX5_gives_25 : decode cX5_gives 25 = .ok (.invokevirtual 121, 3) := by decide +kernel
theorem dX5_gives_28 : decode cX5_gives 28 = .ok (.ifCond .eq 11, 3) := by decide +kernel
theorem dX5_gives_31 : decode cX5_gives 31 = .ok (.iload 4, 2) := by decide +kernel
theorem dX5_gives_33 : decode cX5_gives 33 = .ok (.invokestatic 125, 3) := by decide +kernel
theorem dX5_gives_36 : decode cX5_gives 36 = .ok (.ifCond .ne 8, 3) := by decide +kernel
theorem dX5_gives_39 : decode cX5_gives 39 = .ok (.aload_n 0, 1) := by decide +kernel
theorem dX5_gives_40 : decode cX5_gives 40 = .ok (.invokevirtual 59, 3) := by decide +kernel
theorem dX5_gives_43 : decode cX5_gives 43 = .ok (.ireturn, 1) := by decide +kernel
theorem dX5_gives_44 : decode cX5_gives 44 = .ok (.aload_n 0, 1) := by decide +kernel
theorem dX5_gives_45 : decode cX5_gives 45 = .ok (.getfield 23, 3) := by decide +kernel
theorem dX5_gives_48 : decode cX5_gives 48 = .ok (.iload_n 1, 1) := by decide +kernel
theorem dX5_gives_49 : decode cX5_gives 49 = .ok (.iload_n 2, 1) := by decide +kernel
theorem dX5_gives_50 : decode cX5_gives 50 = .ok (.invokestatic 114, 3) := by decide +kernel
theorem dX5_gives_53 : decode cX5_gives 53 = .ok (.iload_n 3, 1) := by decide +kernel
theorem dX5_gives_54 : decode cX5_gives 54 = .ok (.iload 4, 2) := by decide +kernel
theorem dX5_gives_56 : decode cX5_gives 56 = .ok (.invokevirtual 128, 3) := by decide +kernel
theorem dX5_gives_59 : decode cX5_gives 59 = .ok (.ireturn, 1) := by decide +kernel
theorem dX5_smoke_0 : decode cX5_smoke 0 = .ok (.aload_n 0, 1) := by decide +kernel
theorem dX5_smoke_1 : decode cX5_smoke 1 = .ok (.invokevirtual 86, 3) := by decide +kernel
theorem dX5_smoke_4 : decode cX5_smoke 4 = .ok (.ifCond .eq 8, 3) := by decide +kernel
theorem dX5_smoke_7 : decode cX5_smoke 7 = .ok (.aload_n 0, 1) := by decide +kernel
theorem dX5_smoke_8 : decode cX5_smoke 8 = .ok (.invokevirtual 90, 3) := by decide +kernel
theorem dX5_smoke_11 : decode cX5_smoke 11 = .ok (.ireturn, 1) := by decide +kernel
theorem dX5_smoke_12 : decode cX5_smoke 12 = .ok (.aload_n 0, 1) := by decide +kernel
theorem dX5_smoke_13 : decode cX5_smoke 13 = .ok (.getfield 23, 3) := by decide +kernel
theorem dX5_smoke_16 : decode cX5_smoke 16 = .ok (.iload_n 1, 1) := by decide +kernel
theorem dX5_smoke_17 : decode cX5_smoke 17 = .ok (.invokevirtual 121, 3) := by decide +kernel
theorem dX5_smoke_20 : decode cX5_smoke 20 = .ok (.ifCond .eq 17, 3) := by decide +kernel
theorem dX5_smoke_23 : decode cX5_smoke 23 = .ok (.iload_n 2, 1) := by decide +kernel
theorem dX5_smoke_24 : decode cX5_smoke 24 = .ok (.invokestatic 125, 3) := by decide +kernel
theorem dX5_smoke_27 : decode cX5_smoke 27 = .ok (.ifCond .eq 10, 3) := by decide +kernel
theorem dX5_smoke_30 : decode cX5_smoke 30 = .ok (.iload_n 3, 1) := by decide +kernel
theorem dX5_smoke_31 : decode cX5_smoke 31 = .ok (.invokestatic 132, 3) := by decide +kernel
theorem dX5_smoke_34 : decode cX5_smoke 34 = .ok (.ifCond .ne 8, 3) := by decide +kernel
theorem dX5_smoke_37 : decode cX5_smoke 37 = .ok (.aload_n 0, 1) := by decide +kernel
theorem dX5_smoke_38 : decode cX5_smoke 38 = .ok (.invokevirtual 59, 3) := by decide +kernel
theorem dX5_smoke_41 : decode cX5_smoke 41 = .ok (.ireturn, 1) := by decide +kernel
theorem dX5_smoke_42 : decode cX5_smoke 42 = .ok (.aload_n 0, 1) := by decide +kernel
theorem dX5_smoke_43 : decode cX5_smoke 43 = .ok (.iload_n 1, 1) := by decide +kernel
theorem dX5_smoke_44 : decode cX5_smoke 44 = .ok (.iload_n 2, 1) := by decide +kernel
theorem dX5_smoke_45 : decode cX5_smoke 45 = .ok (.iload_n 3, 1) := by decide +kernel
theorem dX5_smoke_46 : decode cX5_smoke 46 = .ok (.invokevirtual 135, 3) := by decide +kernel
theorem dX5_smoke_49 : decode cX5_smoke 49 = .ok (.ireturn, 1) := by decide +kernel
theorem dX5_goes_0 : decode cX5_goes 0 = .ok (.iload_n 1, 1) := by decide +kernel
theorem dX5_goes_1 : decode cX5_goes 1 = .ok (.ifCond .lt 8, 3) := by decide +kernel
theorem dX5_goes_4 : decode cX5_goes 4 = .ok (.iload_n 1, 1) := by decide +kernel
theorem dX5_goes_5 : decode cX5_goes 5 = .ok (.iconst 1, 1) := by decide +kernel
theorem dX5_goes_6 : decode cX5_goes 6 = .ok (.if_icmp .le 8, 3) := by decide +kernel
theorem dX5_goes_9 : decode cX5_goes 9 = .ok (.aload_n 0, 1) := by decide +kernel
theorem dX5_goes_10 : decode cX5_goes 10 = .ok (.invokevirtual 59, 3) := by decide +kernel
theorem dX5_goes_13 : decode cX5_goes 13 = .ok (.ireturn, 1) := by decide +kernel
theorem dX5_goes_14 : decode cX5_goes 14 = .ok (.aload_n 0, 1) := by decide +kernel
theorem dX5_goes_15 : decode cX5_goes 15 = .ok (.invokevirtual 86, 3) := by decide +kernel
theorem dX5_goes_18 : decode cX5_goes 18 = .ok (.ifCond .eq 8, 3) := by decide +kernel
theorem dX5_goes_21 : decode cX5_goes 21 = .ok (.aload_n 0, 1) := by decide +kernel
theorem dX5_goes_22 : decode cX5_goes 22 = .ok (.invokevirtual 90, 3) := by decide +kernel
theorem dX5_goes_25 : decode cX5_goes 25 = .ok (.ireturn, 1) := by decide +kernel
theorem dX5_goes_26 : decode cX5_goes 26 = .ok (.iconst 0, 1) := by decide +kernel
theorem dX5_goes_27 : decode cX5_goes 27 = .ok (.istore_n 2, 1) := by decide +kernel
theorem dX5_goes_28 : decode cX5_goes 28 = .ok (.iconst 0, 1) := by decide +kernel
theorem dX5_goes_29 : decode cX5_goes 29 = .ok (.istore_n 3, 1) := by decide +kernel
theorem dX5_goes_30 : decode cX5_goes 30 = .ok (.iload_n 3, 1) := by decide +kernel
theorem dX5_goes_31 : decode cX5_goes 31 = .ok (.aload_n 0, 1) := by decide +kernel
theorem dX5_goes_32 : decode cX5_goes 32 = .ok (.getfield 23, 3) := by decide +kernel
theorem dX5_goes_35 : decode cX5_goes 35 = .ok (.getfield 93, 3) := by decide +kernel
theorem dX5_goes_38 : decode cX5_goes 38 = .ok (.if_icmp .ge 27, 3) := by decide +kernel
theorem dX5_goes_41 : decode cX5_goes 41 = .ok (.iload_n 2, 1) := by decide +kernel
theorem dX5_goes_42 : decode cX5_goes 42 = .ok (.aload_n 0, 1) := by decide +kernel
theorem dX5_goes_43 : decode cX5_goes 43 = .ok (.iload_n 3, 1) := by decide +kernel
theorem dX5_goes_44 : decode cX5_goes 44 = .ok (.iload_n 1, 1) := by decide +kernel
theorem dX5_goes_45 : decode cX5_goes 45 = .ok (.ifCond .ne 7, 3) := by decide +kernel
theorem dX5_goes_48 : decode cX5_goes 48 = .ok (.iconst 0, 1) := by decide +kernel
theorem dX5_goes_49 : decode cX5_goes 49 = .ok (.goto 4, 3) := by decide +kernel
theorem dX5_goes_52 : decode cX5_goes 52 = .ok (.iconst 1, 1) := by decide +kernel
theorem dX5_goes_53 : decode cX5_goes 53 = .ok (.iconst (-1), 1) := by decide +kernel
theorem dX5_goes_54 : decode cX5_goes 54 = .ok (.invokevirtual 135, 3) := by decide +kernel
theorem dX5_goes_57 : decode cX5_goes 57 = .ok (.iadd, 1) := by decide +kernel
theorem dX5_goes_58 : decode cX5_goes 58 = .ok (.istore_n 2, 1) := by decide +kernel
theorem dX5_goes_59 : decode cX5_goes 59 = .ok (.iinc 3 1, 3) := by decide +kernel
theorem dX5_goes_62 : decode cX5_goes 62 = .ok (.goto (-32), 3) := by decide +kernel
theorem dX5_goes_65 : decode cX5_goes 65 = .ok (.iload_n 2, 1) := by decide +kernel
theorem dX5_goes_66 : decode cX5_goes 66 = .ok (.ireturn, 1) := by decide +kernel
theorem dX5_look_0 : decode cX5_look 0 = .ok (.iload_n 1, 1) := by decide +kernel
theorem dX5_look_1 : decode cX5_look 1 = .ok (.ifCond .lt 27, 3) := by decide +kernel
theorem dX5_look_4 : decode cX5_look 4 = .ok (.iload_n 1, 1) := by decide +kernel
theorem dX5_look_5 : decode cX5_look 5 = .ok (.bipush 120, 2) := by decide +kernel
theorem dX5_look_7 : decode cX5_look 7 = .ok (.if_icmp .ge 21, 3) := by decide +kernel
theorem dX5_look_10 : decode cX5_look 10 = .ok (.iload_n 2, 1) := by decide +kernel
theorem dX5_look_11 : decode cX5_look 11 = .ok (.invokestatic 125, 3) := by decide +kernel
theorem dX5_look_14 : decode cX5_look 14 = .ok (.ifCond .eq 14, 3) := by decide +kernel
theorem dX5_look_17 : decode cX5_look 17 = .ok (.iload_n 3, 1) := by decide +kernel
theorem dX5_look_18 : decode cX5_look 18 = .ok (.invokestatic 132, 3) := by decide +kernel
theorem dX5_look_21 : decode cX5_look 21 = .ok (.ifCond .eq 7, 3) := by decide +kernel
theorem dX5_look_24 : decode cX5_look 24 = .ok (.iconst 1, 1) := by decide +kernel
theorem dX5_look_25 : decode cX5_look 25 = .ok (.goto 4, 3) := by decide +kernel
theorem dX5_look_28 : decode cX5_look 28 = .ok (.iconst 0, 1) := by decide +kernel
theorem dX5_look_29 : decode cX5_look 29 = .ok (.istore 5, 2) := by decide +kernel
theorem dX5_look_31 : decode cX5_look 31 = .ok (.iload 5, 2) := by decide +kernel
theorem dX5_look_33 : decode cX5_look 33 = .ok (.ifCond .eq 14, 3) := by decide +kernel
theorem dX5_look_36 : decode cX5_look 36 = .ok (.iload 4, 2) := by decide +kernel
theorem dX5_look_38 : decode cX5_look 38 = .ok (.ifCond .lt 9, 3) := by decide +kernel
theorem dX5_look_41 : decode cX5_look 41 = .ok (.iload 4, 2) := by decide +kernel
theorem dX5_look_43 : decode cX5_look 43 = .ok (.iconst 3, 1) := by decide +kernel
theorem dX5_look_44 : decode cX5_look 44 = .ok (.if_icmp .lt 8, 3) := by decide +kernel
theorem dX5_look_47 : decode cX5_look 47 = .ok (.aload_n 0, 1) := by decide +kernel
theorem dX5_look_48 : decode cX5_look 48 = .ok (.invokevirtual 59, 3) := by decide +kernel
theorem dX5_look_51 : decode cX5_look 51 = .ok (.ireturn, 1) := by decide +kernel
theorem dX5_look_52 : decode cX5_look 52 = .ok (.aload_n 0, 1) := by decide +kernel
theorem dX5_look_53 : decode cX5_look 53 = .ok (.getfield 12, 3) := by decide +kernel
theorem dX5_look_56 : decode cX5_look 56 = .ok (.getfield 138, 3) := by decide +kernel
theorem dX5_look_59 : decode cX5_look 59 = .ok (.bipush 8, 2) := by decide +kernel
theorem dX5_look_61 : decode cX5_look 61 = .ok (.if_icmp .lt 8, 3) := by decide +kernel
theorem dX5_look_64 : decode cX5_look 64 = .ok (.aload_n 0, 1) := by decide +kernel
theorem dX5_look_65 : decode cX5_look 65 = .ok (.invokevirtual 67, 3) := by decide +kernel
theorem dX5_look_68 : decode cX5_look 68 = .ok (.ireturn, 1) := by decide +kernel
theorem dX5_look_69 : decode cX5_look 69 = .ok (.aload_n 0, 1) := by decide +kernel
theorem dX5_look_70 : decode cX5_look 70 = .ok (.getfield 12, 3) := by decide +kernel
theorem dX5_look_73 : decode cX5_look 73 = .ok (.getfield 138, 3) := by decide +kernel
theorem dX5_look_76 : decode cX5_look 76 = .ok (.iconst 4, 1) := by decide +kernel
theorem dX5_look_77 : decode cX5_look 77 = .ok (.imul, 1) := by decide +kernel
theorem dX5_look_78 : decode cX5_look 78 = .ok (.istore 6, 2) := by decide +kernel
theorem dX5_look_80 : decode cX5_look 80 = .ok (.aload_n 0, 1) := by decide +kernel
theorem dX5_look_81 : decode cX5_look 81 = .ok (.getfield 12, 3) := by decide +kernel
theorem dX5_look_84 : decode cX5_look 84 = .ok (.getfield 141, 3) := by decide +kernel
theorem dX5_look_87 : decode cX5_look 87 = .ok (.iload 6, 2) := by decide +kernel
theorem dX5_look_89 : decode cX5_look 89 = .ok (.iload_n 1, 1) := by decide +kernel
theorem dX5_look_90 : decode cX5_look 90 = .ok (.invokestatic 73, 3) := by decide +kernel
theorem dX5_look_93 : decode cX5_look 93 = .ok (.aload_n 0, 1) := by decide +kernel
theorem dX5_look_94 : decode cX5_look 94 = .ok (.getfield 12, 3) := by decide +kernel
theorem dX5_look_97 : decode cX5_look 97 = .ok (.getfield 141, 3) := by decide +kernel
theorem dX5_look_100 : decode cX5_look 100 = .ok (.iload 6, 2) := by decide +kernel
theorem dX5_look_102 : decode cX5_look 102 = .ok (.iconst 1, 1) := by decide +kernel
theorem dX5_look_103 : decode cX5_look 103 = .ok (.iadd, 1) := by decide +kernel
theorem dX5_look_104 : decode cX5_look 104 = .ok (.iload_n 2, 1) := by decide +kernel
theorem dX5_look_105 : decode cX5_look 105 = .ok (.invokestatic 73, 3) := by decide +kernel
theorem dX5_look_108 : decode cX5_look 108 = .ok (.aload_n 0, 1) := by decide +kernel
theorem dX5_look_109 : decode cX5_look 109 = .ok (.getfield 12, 3) := by decide +kernel
theorem dX5_look_112 : decode cX5_look 112 = .ok (.getfield 141, 3) := by decide +kernel
theorem dX5_look_115 : decode cX5_look 115 = .ok (.iload 6, 2) := by decide +kernel
theorem dX5_look_117 : decode cX5_look 117 = .ok (.iconst 2, 1) := by decide +kernel
theorem dX5_look_118 : decode cX5_look 118 = .ok (.iadd, 1) := by decide +kernel
theorem dX5_look_119 : decode cX5_look 119 = .ok (.iload_n 3, 1) := by decide +kernel
theorem dX5_look_120 : decode cX5_look 120 = .ok (.invokestatic 73, 3) := by decide +kernel
theorem dX5_look_123 : decode cX5_look 123 = .ok (.aload_n 0, 1) := by decide +kernel
theorem dX5_look_124 : decode cX5_look 124 = .ok (.getfield 12, 3) := by decide +kernel
theorem dX5_look_127 : decode cX5_look 127 = .ok (.getfield 141, 3) := by decide +kernel
theorem dX5_look_130 : decode cX5_look 130 = .ok (.iload 6, 2) := by decide +kernel
theorem dX5_look_132 : decode cX5_look 132 = .ok (.iconst 3, 1) := by decide +kernel
theorem dX5_look_133 : decode cX5_look 133 = .ok (.iadd, 1) := by decide +kernel
theorem dX5_look_134 : decode cX5_look 134 = .ok (.iload 4, 2) := by decide +kernel
theorem dX5_look_136 : decode cX5_look 136 = .ok (.invokestatic 73, 3) := by decide +kernel
theorem dX5_look_139 : decode cX5_look 139 = .ok (.aload_n 0, 1) := by decide +kernel
theorem dX5_look_140 : decode cX5_look 140 = .ok (.iconst 1, 1) := by decide +kernel
theorem dX5_look_141 : decode cX5_look 141 = .ok (.putfield 56, 3) := by decide +kernel
theorem dX5_look_144 : decode cX5_look 144 = .ok (.aload_n 0, 1) := by decide +kernel
theorem dX5_look_145 : decode cX5_look 145 = .ok (.getfield 12, 3) := by decide +kernel
theorem dX5_look_148 : decode cX5_look 148 = .ok (.dup, 1) := by decide +kernel
theorem dX5_look_149 : decode cX5_look 149 = .ok (.getfield 138, 3) := by decide +kernel
theorem dX5_look_152 : decode cX5_look 152 = .ok (.dup_x1, 1) := by decide +kernel
theorem dX5_look_153 : decode cX5_look 153 = .ok (.iconst 1, 1) := by decide +kernel
theorem dX5_look_154 : decode cX5_look 154 = .ok (.iadd, 1) := by decide +kernel
theorem dX5_look_155 : decode cX5_look 155 = .ok (.putfield 138, 3) := by decide +kernel
theorem dX5_look_158 : decode cX5_look 158 = .ok (.ireturn, 1) := by decide +kernel
theorem dX5_forget_0 : decode cX5_forget 0 = .ok (.aload_n 0, 1) := by decide +kernel
theorem dX5_forget_1 : decode cX5_forget 1 = .ok (.getfield 12, 3) := by decide +kernel
theorem dX5_forget_4 : decode cX5_forget 4 = .ok (.getfield 138, 3) := by decide +kernel
theorem dX5_forget_7 : decode cX5_forget 7 = .ok (.istore_n 1, 1) := by decide +kernel
theorem dX5_forget_8 : decode cX5_forget 8 = .ok (.aload_n 0, 1) := by decide +kernel
theorem dX5_forget_9 : decode cX5_forget 9 = .ok (.getfield 12, 3) := by decide +kernel
theorem dX5_forget_12 : decode cX5_forget 12 = .ok (.iconst 0, 1) := by decide +kernel
theorem dX5_forget_13 : decode cX5_forget 13 = .ok (.putfield 138, 3) := by decide +kernel
theorem dX5_forget_16 : decode cX5_forget 16 = .ok (.aload_n 0, 1) := by decide +kernel
theorem dX5_forget_17 : decode cX5_forget 17 = .ok (.iconst 1, 1) := by decide +kernel
theorem dX5_forget_18 : decode cX5_forget 18 = .ok (.putfield 56, 3) := by decide +kernel
theorem dX5_forget_21 : decode cX5_forget 21 = .ok (.iload_n 1, 1) := by decide +kernel
theorem dX5_forget_22 : decode cX5_forget 22 = .ok (.ireturn, 1) := by decide +kernel
theorem dX5_odds_0 : decode cX5_odds 0 = .ok (.iload_n 1, 1) := by decide +kernel
theorem dX5_odds_1 : decode cX5_odds 1 = .ok (.ifCond .lt 18, 3) := by decide +kernel
theorem dX5_odds_4 : decode cX5_odds 4 = .ok (.iload_n 1, 1) := by decide +kernel
theorem dX5_odds_5 : decode cX5_odds 5 = .ok (.iconst 4, 1) := by decide +kernel
theorem dX5_odds_6 : decode cX5_odds 6 = .ok (.if_icmp .ge 13, 3) := by decide +kernel
theorem dX5_odds_9 : decode cX5_odds 9 = .ok (.iload_n 2, 1) := by decide +kernel
theorem dX5_odds_10 : decode cX5_odds 10 = .ok (.ifCond .lt 9, 3) := by decide +kernel
theorem dX5_odds_13 : decode cX5_odds 13 = .ok (.iload_n 2, 1) := by decide +kernel
theorem dX5_odds_14 : decode cX5_odds 14 = .ok (.bipush 7, 2) := by decide +kernel
theorem dX5_odds_16 : decode cX5_odds 16 = .ok (.if_icmp .le 8, 3) := by decide +kernel
theorem dX5_odds_19 : decode cX5_odds 19 = .ok (.aload_n 0, 1) := by decide +kernel
theorem dX5_odds_20 : decode cX5_odds 20 = .ok (.invokevirtual 59, 3) := by decide +kernel
theorem dX5_odds_23 : decode cX5_odds 23 = .ok (.ireturn, 1) := by decide +kernel
theorem dX5_odds_24 : decode cX5_odds 24 = .ok (.aload_n 0, 1) := by decide +kernel
theorem dX5_odds_25 : decode cX5_odds 25 = .ok (.invokevirtual 144, 3) := by decide +kernel
theorem dX5_odds_28 : decode cX5_odds 28 = .ok (.ifCond .eq 8, 3) := by decide +kernel
theorem dX5_odds_31 : decode cX5_odds 31 = .ok (.aload_n 0, 1) := by decide +kernel
theorem dX5_odds_32 : decode cX5_odds 32 = .ok (.invokevirtual 90, 3) := by decide +kernel
theorem dX5_odds_35 : decode cX5_odds 35 = .ok (.ireturn, 1) := by decide +kernel
theorem dX5_odds_36 : decode cX5_odds 36 = .ok (.aload_n 0, 1) := by decide +kernel
theorem dX5_odds_37 : decode cX5_odds 37 = .ok (.getfield 44, 3) := by decide +kernel
theorem dX5_odds_40 : decode cX5_odds 40 = .ok (.aload_n 0, 1) := by decide +kernel
theorem dX5_odds_41 : decode cX5_odds 41 = .ok (.getfield 30, 3) := by decide +kernel
theorem dX5_odds_44 : decode cX5_odds 44 = .ok (.iload_n 1, 1) := by decide +kernel
theorem dX5_odds_45 : decode cX5_odds 45 = .ok (.iload_n 2, 1) := by decide +kernel
theorem dX5_odds_46 : decode cX5_odds 46 = .ok (.invokevirtual 147, 3) := by decide +kernel
theorem dX5_odds_49 : decode cX5_odds 49 = .ok (.aload_n 0, 1) := by decide +kernel
theorem dX5_odds_50 : decode cX5_odds 50 = .ok (.getfield 30, 3) := by decide +kernel
theorem dX5_odds_53 : decode cX5_odds 53 = .ok (.getfield 151, 3) := by decide +kernel
theorem dX5_odds_56 : decode cX5_odds 56 = .ok (.invokevirtual 155, 3) := by decide +kernel
theorem dX5_odds_59 : decode cX5_odds 59 = .ok (.iconst 1, 1) := by decide +kernel
theorem dX5_odds_60 : decode cX5_odds 60 = .ok (.ireturn, 1) := by decide +kernel
theorem dX5_two_0 : decode cX5_two 0 = .ok (.aload_n 0, 1) := by decide +kernel
theorem dX5_two_1 : decode cX5_two 1 = .ok (.invokevirtual 144, 3) := by decide +kernel
theorem dX5_two_4 : decode cX5_two 4 = .ok (.ifCond .eq 8, 3) := by decide +kernel
theorem dX5_two_7 : decode cX5_two 7 = .ok (.aload_n 0, 1) := by decide +kernel
theorem dX5_two_8 : decode cX5_two 8 = .ok (.invokevirtual 90, 3) := by decide +kernel
theorem dX5_two_11 : decode cX5_two 11 = .ok (.ireturn, 1) := by decide +kernel
theorem dX5_two_12 : decode cX5_two 12 = .ok (.aload_n 0, 1) := by decide +kernel
theorem dX5_two_13 : decode cX5_two 13 = .ok (.getfield 44, 3) := by decide +kernel
theorem dX5_two_16 : decode cX5_two 16 = .ok (.aload_n 0, 1) := by decide +kernel
theorem dX5_two_17 : decode cX5_two 17 = .ok (.getfield 30, 3) := by decide +kernel
theorem dX5_two_20 : decode cX5_two 20 = .ok (.invokevirtual 159, 3) := by decide +kernel
theorem dX5_two_23 : decode cX5_two 23 = .ok (.aload_n 0, 1) := by decide +kernel
theorem dX5_two_24 : decode cX5_two 24 = .ok (.getfield 30, 3) := by decide +kernel
theorem dX5_two_27 : decode cX5_two 27 = .ok (.getfield 151, 3) := by decide +kernel
theorem dX5_two_30 : decode cX5_two 30 = .ok (.invokevirtual 155, 3) := by decide +kernel
theorem dX5_two_33 : decode cX5_two 33 = .ok (.iconst 1, 1) := by decide +kernel
theorem dX5_two_34 : decode cX5_two 34 = .ok (.ireturn, 1) := by decide +kernel
theorem dX5_likeliest_0 : decode cX5_likeliest 0 = .ok (.aload_n 0, 1) := by decide +kernel
theorem dX5_likeliest_1 : decode cX5_likeliest 1 = .ok (.invokevirtual 144, 3) := by decide +kernel
theorem dX5_likeliest_4 : decode cX5_likeliest 4 = .ok (.ifCond .eq 8, 3) := by decide +kernel
theorem dX5_likeliest_7 : decode cX5_likeliest 7 = .ok (.aload_n 0, 1) := by decide +kernel
theorem dX5_likeliest_8 : decode cX5_likeliest 8 = .ok (.invokevirtual 90, 3) := by decide +kernel
theorem dX5_likeliest_11 : decode cX5_likeliest 11 = .ok (.ireturn, 1) := by decide +kernel
theorem dX5_likeliest_12 : decode cX5_likeliest 12 = .ok (.aload_n 0, 1) := by decide +kernel
theorem dX5_likeliest_13 : decode cX5_likeliest 13 = .ok (.getfield 30, 3) := by decide +kernel
theorem dX5_likeliest_16 : decode cX5_likeliest 16 = .ok (.invokevirtual 163, 3) := by decide +kernel
theorem dX5_likeliest_19 : decode cX5_likeliest 19 = .ok (.ireturn, 1) := by decide +kernel
theorem dX5_guess_0 : decode cX5_guess 0 = .ok (.iload_n 1, 1) := by decide +kernel
theorem dX5_guess_1 : decode cX5_guess 1 = .ok (.ifCond .lt 19, 3) := by decide +kernel
theorem dX5_guess_4 : decode cX5_guess 4 = .ok (.iload_n 1, 1) := by decide +kernel
theorem dX5_guess_5 : decode cX5_guess 5 = .ok (.sipush 2731, 3) := by decide +kernel
theorem dX5_guess_8 : decode cX5_guess 8 = .ok (.if_icmp .ge 12, 3) := by decide +kernel
theorem dX5_guess_11 : decode cX5_guess 11 = .ok (.iload_n 2, 1) := by decide +kernel
theorem dX5_guess_12 : decode cX5_guess 12 = .ok (.ifCond .lt 8, 3) := by decide +kernel
theorem dX5_guess_15 : decode cX5_guess 15 = .ok (.iload_n 2, 1) := by decide +kernel
theorem dX5_guess_16 : decode cX5_guess 16 = .ok (.iconst 4, 1) := by decide +kernel
theorem dX5_guess_17 : decode cX5_guess 17 = .ok (.if_icmp .lt 11, 3) := by decide +kernel
theorem dX5_guess_20 : decode cX5_guess 20 = .ok (.aload_n 0, 1) := by decide +kernel
theorem dX5_guess_21 : decode cX5_guess 21 = .ok (.invokevirtual 59, 3) := by decide +kernel
theorem dX5_guess_24 : decode cX5_guess 24 = .ok (.pop, 1) := by decide +kernel
theorem dX5_guess_25 : decode cX5_guess 25 = .ok (.bipush (-10), 2) := by decide +kernel
theorem dX5_guess_27 : decode cX5_guess 27 = .ok (.ireturn, 1) := by decide +kernel
theorem dX5_guess_28 : decode cX5_guess 28 = .ok (.iload_n 1, 1) := by decide +kernel
theorem dX5_guess_29 : decode cX5_guess 29 = .ok (.iload_n 2, 1) := by decide +kernel
theorem dX5_guess_30 : decode cX5_guess 30 = .ok (.invokestatic 166, 3) := by decide +kernel
theorem dX5_guess_33 : decode cX5_guess 33 = .ok (.ireturn, 1) := by decide +kernel
theorem dX5_next_0 : decode cX5_next 0 = .ok (.aload_n 0, 1) := by decide +kernel
theorem dX5_next_1 : decode cX5_next 1 = .ok (.invokevirtual 144, 3) := by decide +kernel
theorem dX5_next_4 : decode cX5_next 4 = .ok (.ifCond .eq 8, 3) := by decide +kernel
theorem dX5_next_7 : decode cX5_next 7 = .ok (.aload_n 0, 1) := by decide +kernel
theorem dX5_next_8 : decode cX5_next 8 = .ok (.invokevirtual 90, 3) := by decide +kernel
theorem dX5_next_11 : decode cX5_next 11 = .ok (.ireturn, 1) := by decide +kernel
theorem dX5_next_12 : decode cX5_next 12 = .ok (.aload_n 0, 1) := by decide +kernel
theorem dX5_next_13 : decode cX5_next 13 = .ok (.getfield 23, 3) := by decide +kernel
theorem dX5_next_16 : decode cX5_next 16 = .ok (.iload_n 1, 1) := by decide +kernel
theorem dX5_next_17 : decode cX5_next 17 = .ok (.invokevirtual 121, 3) := by decide +kernel
theorem dX5_next_20 : decode cX5_next 20 = .ok (.ifCond .ne 8, 3) := by decide +kernel
theorem dX5_next_23 : decode cX5_next 23 = .ok (.aload_n 0, 1) := by decide +kernel
theorem dX5_next_24 : decode cX5_next 24 = .ok (.invokevirtual 59, 3) := by decide +kernel
theorem dX5_next_27 : decode cX5_next 27 = .ok (.ireturn, 1) := by decide +kernel
theorem dX5_next_28 : decode cX5_next 28 = .ok (.iconst 0, 1) := by decide +kernel
theorem dX5_next_29 : decode cX5_next 29 = .ok (.istore_n 2, 1) := by decide +kernel
theorem dX5_next_30 : decode cX5_next 30 = .ok (.ldc2_w 171, 3) := by decide +kernel
theorem dX5_next_33 : decode cX5_next 33 = .ok (.lstore_n 3, 1) := by decide +kernel
theorem dX5_next_34 : decode cX5_next 34 = .ok (.iconst 0, 1) := by decide +kernel
theorem dX5_next_35 : decode cX5_next 35 = .ok (.istore 5, 2) := by decide +kernel
theorem dX5_next_37 : decode cX5_next 37 = .ok (.iload 5, 2) := by decide +kernel
theorem dX5_next_39 : decode cX5_next 39 = .ok (.iconst 4, 1) := by decide +kernel
theorem dX5_next_40 : decode cX5_next 40 = .ok (.if_icmp .ge 89, 3) := by decide +kernel
theorem dX5_next_43 : decode cX5_next 43 = .ok (.aload_n 0, 1) := by decide +kernel
theorem dX5_next_44 : decode cX5_next 44 = .ok (.getfield 23, 3) := by decide +kernel
theorem dX5_next_47 : decode cX5_next 47 = .ok (.iload_n 1, 1) := by decide +kernel
theorem dX5_next_48 : decode cX5_next 48 = .ok (.iload 5, 2) := by decide +kernel
theorem dX5_next_50 : decode cX5_next 50 = .ok (.aload_n 0, 1) := by decide +kernel
theorem dX5_next_51 : decode cX5_next 51 = .ok (.getfield 30, 3) := by decide +kernel
theorem dX5_next_54 : decode cX5_next 54 = .ok (.getfield 173, 3) := by decide +kernel
theorem dX5_next_57 : decode cX5_next 57 = .ok (.invokevirtual 176, 3) := by decide +kernel
theorem dX5_next_60 : decode cX5_next 60 = .ok (.iconst 0, 1) := by decide +kernel
theorem dX5_next_61 : decode cX5_next 61 = .ok (.istore 6, 2) := by decide +kernel
theorem dX5_next_63 : decode cX5_next 63 = .ok (.iload 6, 2) := by decide +kernel
theorem dX5_next_65 : decode cX5_next 65 = .ok (.iconst 4, 1) := by decide +kernel
theorem dX5_next_66 : decode cX5_next 66 = .ok (.if_icmp .gt 57, 3) := by decide +kernel
theorem dX5_next_69 : decode cX5_next 69 = .ok (.aload_n 0, 1) := by decide +kernel
theorem dX5_next_70 : decode cX5_next 70 = .ok (.getfield 30, 3) := by decide +kernel
theorem dX5_next_73 : decode cX5_next 73 = .ok (.iload 6, 2) := by decide +kernel
theorem dX5_next_75 : decode cX5_next 75 = .ok (.invokevirtual 180, 3) := by decide +kernel
theorem dX5_next_78 : decode cX5_next 78 = .ok (.aload_n 0, 1) := by decide +kernel
theorem dX5_next_79 : decode cX5_next 79 = .ok (.getfield 30, 3) := by decide +kernel
theorem dX5_next_82 : decode cX5_next 82 = .ok (.aload_n 0, 1) := by decide +kernel
theorem dX5_next_83 : decode cX5_next 83 = .ok (.getfield 12, 3) := by decide +kernel
theorem dX5_next_86 : decode cX5_next 86 = .ok (.getfield 98, 3) := by decide +kernel
theorem dX5_next_89 : decode cX5_next 89 = .ok (.iconst 1, 1) := by decide +kernel
theorem dX5_next_90 : decode cX5_next 90 = .ok (.invokestatic 101, 3) := by decide +kernel
theorem dX5_next_93 : decode cX5_next 93 = .ok (.invokevirtual 184, 3) := by decide +kernel
theorem dX5_next_96 : decode cX5_next 96 = .ok (.lstore 7, 2) := by decide +kernel
theorem dX5_next_98 : decode cX5_next 98 = .ok (.lload 7, 2) := by decide +kernel
theorem dX5_next_100 : decode cX5_next 100 = .ok (.lload_n 3, 1) := by decide +kernel
theorem dX5_next_101 : decode cX5_next 101 = .ok (.lcmp, 1) := by decide +kernel
theorem dX5_next_102 : decode cX5_next 102 = .ok (.ifCond .ge 15, 3) := by decide +kernel
theorem dX5_next_105 : decode cX5_next 105 = .ok (.lload 7, 2) := by decide +kernel
theorem dX5_next_107 : decode cX5_next 107 = .ok (.lstore_n 3, 1) := by decide +kernel
theorem dX5_next_108 : decode cX5_next 108 = .ok (.bipush 10, 2) := by decide +kernel
theorem dX5_next_110 : decode cX5_next 110 = .ok (.iload 5, 2) := by decide +kernel
theorem dX5_next_112 : decode cX5_next 112 = .ok (.imul, 1) := by decide +kernel
theorem dX5_next_113 : decode cX5_next 113 = .ok (.iload 6, 2) := by decide +kernel
theorem dX5_next_115 : decode cX5_next 115 = .ok (.iadd, 1) := by decide +kernel
theorem dX5_next_116 : decode cX5_next 116 = .ok (.istore_n 2, 1) := by decide +kernel
theorem dX5_next_117 : decode cX5_next 117 = .ok (.iinc 6 1, 3) := by decide +kernel
theorem dX5_next_120 : decode cX5_next 120 = .ok (.goto (-57), 3) := by decide +kernel
theorem dX5_next_123 : decode cX5_next 123 = .ok (.iinc 5 1, 3) := by decide +kernel
theorem dX5_next_126 : decode cX5_next 126 = .ok (.goto (-89), 3) := by decide +kernel
theorem dX5_next_129 : decode cX5_next 129 = .ok (.iload_n 2, 1) := by decide +kernel
theorem dX5_next_130 : decode cX5_next 130 = .ok (.ireturn, 1) := by decide +kernel
theorem dX5_leaks_0 : decode cX5_leaks 0 = .ok (.iload_n 1, 1) := by decide +kernel
theorem dX5_leaks_1 : decode cX5_leaks 1 = .ok (.ifCond .lt 9, 3) := by decide +kernel
theorem dX5_leaks_4 : decode cX5_leaks 4 = .ok (.iload_n 1, 1) := by decide +kernel
theorem dX5_leaks_5 : decode cX5_leaks 5 = .ok (.ldc 188, 2) := by decide +kernel
theorem dX5_leaks_7 : decode cX5_leaks 7 = .ok (.if_icmp .le 8, 3) := by decide +kernel
theorem dX5_leaks_10 : decode cX5_leaks 10 = .ok (.aload_n 0, 1) := by decide +kernel
theorem dX5_leaks_11 : decode cX5_leaks 11 = .ok (.invokevirtual 59, 3) := by decide +kernel
theorem dX5_leaks_14 : decode cX5_leaks 14 = .ok (.ireturn, 1) := by decide +kernel
theorem dX5_leaks_15 : decode cX5_leaks 15 = .ok (.aload_n 0, 1) := by decide +kernel
theorem dX5_leaks_16 : decode cX5_leaks 16 = .ok (.invokevirtual 144, 3) := by decide +kernel
theorem dX5_leaks_19 : decode cX5_leaks 19 = .ok (.ifCond .eq 8, 3) := by decide +kernel
theorem dX5_leaks_22 : decode cX5_leaks 22 = .ok (.aload_n 0, 1) := by decide +kernel
theorem dX5_leaks_23 : decode cX5_leaks 23 = .ok (.invokevirtual 90, 3) := by decide +kernel
theorem dX5_leaks_26 : decode cX5_leaks 26 = .ok (.ireturn, 1) := by decide +kernel
theorem dX5_leaks_27 : decode cX5_leaks 27 = .ok (.aload_n 0, 1) := by decide +kernel
theorem dX5_leaks_28 : decode cX5_leaks 28 = .ok (.getfield 23, 3) := by decide +kernel
theorem dX5_leaks_31 : decode cX5_leaks 31 = .ok (.aload_n 0, 1) := by decide +kernel
theorem dX5_leaks_32 : decode cX5_leaks 32 = .ok (.getfield 30, 3) := by decide +kernel
theorem dX5_leaks_35 : decode cX5_leaks 35 = .ok (.getfield 173, 3) := by decide +kernel
theorem dX5_leaks_38 : decode cX5_leaks 38 = .ok (.invokevirtual 189, 3) := by decide +kernel
theorem dX5_leaks_41 : decode cX5_leaks 41 = .ok (.aload_n 0, 1) := by decide +kernel
theorem dX5_leaks_42 : decode cX5_leaks 42 = .ok (.getfield 30, 3) := by decide +kernel
theorem dX5_leaks_45 : decode cX5_leaks 45 = .ok (.iconst 4, 1) := by decide +kernel
theorem dX5_leaks_46 : decode cX5_leaks 46 = .ok (.invokevirtual 180, 3) := by decide +kernel
theorem dX5_leaks_49 : decode cX5_leaks 49 = .ok (.aload_n 0, 1) := by decide +kernel
theorem dX5_leaks_50 : decode cX5_leaks 50 = .ok (.getfield 44, 3) := by decide +kernel
theorem dX5_leaks_53 : decode cX5_leaks 53 = .ok (.aload_n 0, 1) := by decide +kernel
theorem dX5_leaks_54 : decode cX5_leaks 54 = .ok (.getfield 30, 3) := by decide +kernel
theorem dX5_leaks_57 : decode cX5_leaks 57 = .ok (.iload_n 1, 1) := by decide +kernel
theorem dX5_leaks_58 : decode cX5_leaks 58 = .ok (.invokevirtual 193, 3) := by decide +kernel
theorem dX5_leaks_61 : decode cX5_leaks 61 = .ok (.aload_n 0, 1) := by decide +kernel
theorem dX5_leaks_62 : decode cX5_leaks 62 = .ok (.getfield 30, 3) := by decide +kernel
theorem dX5_leaks_65 : decode cX5_leaks 65 = .ok (.getfield 151, 3) := by decide +kernel
theorem dX5_leaks_68 : decode cX5_leaks 68 = .ok (.invokevirtual 155, 3) := by decide +kernel
theorem dX5_leaks_71 : decode cX5_leaks 71 = .ok (.iconst 1, 1) := by decide +kernel
theorem dX5_leaks_72 : decode cX5_leaks 72 = .ok (.ireturn, 1) := by decide +kernel
theorem dX5_hidden_0 : decode cX5_hidden 0 = .ok (.aload_n 0, 1) := by decide +kernel
theorem dX5_hidden_1 : decode cX5_hidden 1 = .ok (.invokevirtual 86, 3) := by decide +kernel
theorem dX5_hidden_4 : decode cX5_hidden 4 = .ok (.ifCond .eq 8, 3) := by decide +kernel
theorem dX5_hidden_7 : decode cX5_hidden 7 = .ok (.aload_n 0, 1) := by decide +kernel
theorem dX5_hidden_8 : decode cX5_hidden 8 = .ok (.invokevirtual 90, 3) := by decide +kernel
theorem dX5_hidden_11 : decode cX5_hidden 11 = .ok (.ireturn, 1) := by decide +kernel
theorem dX5_hidden_12 : decode cX5_hidden 12 = .ok (.aload_n 0, 1) := by decide +kernel
theorem dX5_hidden_13 : decode cX5_hidden 13 = .ok (.getfield 23, 3) := by decide +kernel
theorem dX5_hidden_16 : decode cX5_hidden 16 = .ok (.bipush 100, 2) := by decide +kernel
theorem dX5_hidden_18 : decode cX5_hidden 18 = .ok (.invokevirtual 196, 3) := by decide +kernel
theorem dX5_hidden_21 : decode cX5_hidden 21 = .ok (.iconst 0, 1) := by decide +kernel
theorem dX5_hidden_22 : decode cX5_hidden 22 = .ok (.istore_n 1, 1) := by decide +kernel
theorem dX5_hidden_23 : decode cX5_hidden 23 = .ok (.iconst 0, 1) := by decide +kernel
theorem dX5_hidden_24 : decode cX5_hidden 24 = .ok (.istore_n 2, 1) := by decide +kernel
theorem dX5_hidden_25 : decode cX5_hidden 25 = .ok (.iload_n 2, 1) := by decide +kernel
theorem dX5_hidden_26 : decode cX5_hidden 26 = .ok (.bipush 7, 2) := by decide +kernel
theorem dX5_hidden_28 : decode cX5_hidden 28 = .ok (.if_icmp .ge 30, 3) := by decide +kernel
theorem dX5_hidden_31 : decode cX5_hidden 31 = .ok (.aload_n 0, 1) := by decide +kernel
theorem dX5_hidden_32 : decode cX5_hidden 32 = .ok (.getfield 23, 3) := by decide +kernel
theorem dX5_hidden_35 : decode cX5_hidden 35 = .ok (.iload_n 2, 1) := by decide +kernel
theorem dX5_hidden_36 : decode cX5_hidden 36 = .ok (.iconst 3, 1) := by decide +kernel
theorem dX5_hidden_37 : decode cX5_hidden 37 = .ok (.invokestatic 114, 3) := by decide +kernel
theorem dX5_hidden_40 : decode cX5_hidden 40 = .ok (.invokevirtual 199, 3) := by decide +kernel
theorem dX5_hidden_43 : decode cX5_hidden 43 = .ok (.ifCond .eq 9, 3) := by decide +kernel
theorem dX5_hidden_46 : decode cX5_hidden 46 = .ok (.iload_n 1, 1) := by decide +kernel
theorem dX5_hidden_47 : decode cX5_hidden 47 = .ok (.iconst 1, 1) := by decide +kernel
theorem dX5_hidden_48 : decode cX5_hidden 48 = .ok (.iload_n 2, 1) := by decide +kernel
theorem dX5_hidden_49 : decode cX5_hidden 49 = .ok (.ishl, 1) := by decide +kernel
theorem dX5_hidden_50 : decode cX5_hidden 50 = .ok (.ior, 1) := by decide +kernel
theorem dX5_hidden_51 : decode cX5_hidden 51 = .ok (.istore_n 1, 1) := by decide +kernel
theorem dX5_hidden_52 : decode cX5_hidden 52 = .ok (.iinc 2 1, 3) := by decide +kernel
theorem dX5_hidden_55 : decode cX5_hidden 55 = .ok (.goto (-30), 3) := by decide +kernel
theorem dX5_hidden_58 : decode cX5_hidden 58 = .ok (.aload_n 0, 1) := by decide +kernel
theorem dX5_hidden_59 : decode cX5_hidden 59 = .ok (.getfield 23, 3) := by decide +kernel
theorem dX5_hidden_62 : decode cX5_hidden 62 = .ok (.aload_n 0, 1) := by decide +kernel
theorem dX5_hidden_63 : decode cX5_hidden 63 = .ok (.getfield 12, 3) := by decide +kernel
theorem dX5_hidden_66 : decode cX5_hidden 66 = .ok (.getfield 98, 3) := by decide +kernel
theorem dX5_hidden_69 : decode cX5_hidden 69 = .ok (.iconst 0, 1) := by decide +kernel
theorem dX5_hidden_70 : decode cX5_hidden 70 = .ok (.invokestatic 101, 3) := by decide +kernel
theorem dX5_hidden_73 : decode cX5_hidden 73 = .ok (.invokevirtual 196, 3) := by decide +kernel
theorem dX5_hidden_76 : decode cX5_hidden 76 = .ok (.iload_n 1, 1) := by decide +kernel
theorem dX5_hidden_77 : decode cX5_hidden 77 = .ok (.ireturn, 1) := by decide +kernel
theorem dX5_gone_0 : decode cX5_gone 0 = .ok (.iload_n 1, 1) := by decide +kernel
theorem dX5_gone_1 : decode cX5_gone 1 = .ok (.invokestatic 202, 3) := by decide +kernel
theorem dX5_gone_4 : decode cX5_gone 4 = .ok (.ifCond .eq 23, 3) := by decide +kernel
theorem dX5_gone_7 : decode cX5_gone 7 = .ok (.iload_n 2, 1) := by decide +kernel
theorem dX5_gone_8 : decode cX5_gone 8 = .ok (.ifCond .lt 19, 3) := by decide +kernel
theorem dX5_gone_11 : decode cX5_gone 11 = .ok (.iload_n 2, 1) := by decide +kernel
theorem dX5_gone_12 : decode cX5_gone 12 = .ok (.bipush 9, 2) := by decide +kernel
theorem dX5_gone_14 : decode cX5_gone 14 = .ok (.if_icmp .gt 13, 3) := by decide +kernel
theorem dX5_gone_17 : decode cX5_gone 17 = .ok (.iload_n 3, 1) := by decide +kernel
theorem dX5_gone_18 : decode cX5_gone 18 = .ok (.ifCond .lt 9, 3) := by decide +kernel
theorem dX5_gone_21 : decode cX5_gone 21 = .ok (.iload_n 3, 1) := by decide +kernel
theorem dX5_gone_22 : decode cX5_gone 22 = .ok (.bipush 20, 2) := by decide +kernel
theorem dX5_gone_24 : decode cX5_gone 24 = .ok (.if_icmp .le 8, 3) := by decide +kernel
theorem dX5_gone_27 : decode cX5_gone 27 = .ok (.aload_n 0, 1) := by decide +kernel
theorem dX5_gone_28 : decode cX5_gone 28 = .ok (.invokevirtual 59, 3) := by decide +kernel
theorem dX5_gone_31 : decode cX5_gone 31 = .ok (.ireturn, 1) := by decide +kernel
theorem dX5_gone_32 : decode cX5_gone 32 = .ok (.aload_n 0, 1) := by decide +kernel
theorem dX5_gone_33 : decode cX5_gone 33 = .ok (.getfield 44, 3) := by decide +kernel
theorem dX5_gone_36 : decode cX5_gone 36 = .ok (.iload_n 1, 1) := by decide +kernel
theorem dX5_gone_37 : decode cX5_gone 37 = .ok (.iload_n 2, 1) := by decide +kernel
theorem dX5_gone_38 : decode cX5_gone 38 = .ok (.iload_n 3, 1) := by decide +kernel
theorem dX5_gone_39 : decode cX5_gone 39 = .ok (.invokevirtual 205, 3) := by decide +kernel
theorem dX5_gone_42 : decode cX5_gone 42 = .ok (.iconst 1, 1) := by decide +kernel
theorem dX5_gone_43 : decode cX5_gone 43 = .ok (.ireturn, 1) := by decide +kernel
theorem dX5_harvest_0 : decode cX5_harvest 0 = .ok (.iload_n 2, 1) := by decide +kernel
theorem dX5_harvest_1 : decode cX5_harvest 1 = .ok (.ifCond .lt 14, 3) := by decide +kernel
theorem dX5_harvest_4 : decode cX5_harvest 4 = .ok (.iload_n 1, 1) := by decide +kernel
theorem dX5_harvest_5 : decode cX5_harvest 5 = .ok (.iload_n 2, 1) := by decide +kernel
theorem dX5_harvest_6 : decode cX5_harvest 6 = .ok (.iload_n 3, 1) := by decide +kernel
theorem dX5_harvest_7 : decode cX5_harvest 7 = .ok (.iload 4, 2) := by decide +kernel
theorem dX5_harvest_9 : decode cX5_harvest 9 = .ok (.invokestatic 209, 3) := by decide +kernel
theorem dX5_harvest_12 : decode cX5_harvest 12 = .ok (.ifCond .ne 8, 3) := by decide +kernel
theorem dX5_harvest_15 : decode cX5_harvest 15 = .ok (.aload_n 0, 1) := by decide +kernel
theorem dX5_harvest_16 : decode cX5_harvest 16 = .ok (.invokevirtual 59, 3) := by decide +kernel
theorem dX5_harvest_19 : decode cX5_harvest 19 = .ok (.ireturn, 1) := by decide +kernel
theorem dX5_harvest_20 : decode cX5_harvest 20 = .ok (.aload_n 0, 1) := by decide +kernel
theorem dX5_harvest_21 : decode cX5_harvest 21 = .ok (.getfield 37, 3) := by decide +kernel
theorem dX5_harvest_24 : decode cX5_harvest 24 = .ok (.iload_n 1, 1) := by decide +kernel
theorem dX5_harvest_25 : decode cX5_harvest 25 = .ok (.iload_n 2, 1) := by decide +kernel
theorem dX5_harvest_26 : decode cX5_harvest 26 = .ok (.iload_n 3, 1) := by decide +kernel
theorem dX5_harvest_27 : decode cX5_harvest 27 = .ok (.iload 4, 2) := by decide +kernel
theorem dX5_harvest_29 : decode cX5_harvest 29 = .ok (.invokevirtual 213, 3) := by decide +kernel
theorem dX5_harvest_32 : decode cX5_harvest 32 = .ok (.aload_n 0, 1) := by decide +kernel
theorem dX5_harvest_33 : decode cX5_harvest 33 = .ok (.getfield 44, 3) := by decide +kernel
theorem dX5_harvest_36 : decode cX5_harvest 36 = .ok (.aload_n 0, 1) := by decide +kernel
theorem dX5_harvest_37 : decode cX5_harvest 37 = .ok (.getfield 37, 3) := by decide +kernel
theorem dX5_harvest_40 : decode cX5_harvest 40 = .ok (.getfield 217, 3) := by decide +kernel
theorem dX5_harvest_43 : decode cX5_harvest 43 = .ok (.iload_n 1, 1) := by decide +kernel
theorem dX5_harvest_44 : decode cX5_harvest 44 = .ok (.invokestatic 221, 3) := by decide +kernel
theorem dX5_harvest_47 : decode cX5_harvest 47 = .ok (.aload_n 0, 1) := by decide +kernel
theorem dX5_harvest_48 : decode cX5_harvest 48 = .ok (.getfield 37, 3) := by decide +kernel
theorem dX5_harvest_51 : decode cX5_harvest 51 = .ok (.getfield 224, 3) := by decide +kernel
theorem dX5_harvest_54 : decode cX5_harvest 54 = .ok (.invokevirtual 155, 3) := by decide +kernel
theorem dX5_harvest_57 : decode cX5_harvest 57 = .ok (.iconst 1, 1) := by decide +kernel
theorem dX5_harvest_58 : decode cX5_harvest 58 = .ok (.ireturn, 1) := by decide +kernel
theorem dX5_drive_0 : decode cX5_drive 0 = .ok (.iload_n 2, 1) := by decide +kernel
theorem dX5_drive_1 : decode cX5_drive 1 = .ok (.iconst 1, 1) := by decide +kernel
theorem dX5_drive_2 : decode cX5_drive 2 = .ok (.if_icmp .lt 14, 3) := by decide +kernel
theorem dX5_drive_5 : decode cX5_drive 5 = .ok (.iload_n 1, 1) := by decide +kernel
theorem dX5_drive_6 : decode cX5_drive 6 = .ok (.iload_n 2, 1) := by decide +kernel
theorem dX5_drive_7 : decode cX5_drive 7 = .ok (.iload_n 3, 1) := by decide +kernel
theorem dX5_drive_8 : decode cX5_drive 8 = .ok (.iload 4, 2) := by decide +kernel
theorem dX5_drive_10 : decode cX5_drive 10 = .ok (.invokestatic 209, 3) := by decide +kernel
theorem dX5_drive_13 : decode cX5_drive 13 = .ok (.ifCond .ne 8, 3) := by decide +kernel
theorem dX5_drive_16 : decode cX5_drive 16 = .ok (.aload_n 0, 1) := by decide +kernel
theorem dX5_drive_17 : decode cX5_drive 17 = .ok (.invokevirtual 59, 3) := by decide +kernel
theorem dX5_drive_20 : decode cX5_drive 20 = .ok (.ireturn, 1) := by decide +kernel
theorem dX5_drive_21 : decode cX5_drive 21 = .ok (.aload_n 0, 1) := by decide +kernel
theorem dX5_drive_22 : decode cX5_drive 22 = .ok (.getfield 37, 3) := by decide +kernel
theorem dX5_drive_25 : decode cX5_drive 25 = .ok (.iload_n 1, 1) := by decide +kernel
theorem dX5_drive_26 : decode cX5_drive 26 = .ok (.iload_n 2, 1) := by decide +kernel
theorem dX5_drive_27 : decode cX5_drive 27 = .ok (.iload_n 3, 1) := by decide +kernel
theorem dX5_drive_28 : decode cX5_drive 28 = .ok (.iload 4, 2) := by decide +kernel
theorem dX5_drive_30 : decode cX5_drive 30 = .ok (.invokevirtual 213, 3) := by decide +kernel
theorem dX5_drive_33 : decode cX5_drive 33 = .ok (.aload_n 0, 1) := by decide +kernel
theorem dX5_drive_34 : decode cX5_drive 34 = .ok (.getfield 37, 3) := by decide +kernel
theorem dX5_drive_37 : decode cX5_drive 37 = .ok (.getfield 227, 3) := by decide +kernel
theorem dX5_drive_40 : decode cX5_drive 40 = .ok (.ireturn, 1) := by decide +kernel
theorem dX5_part_0 : decode cX5_part 0 = .ok (.iload_n 1, 1) := by decide +kernel
theorem dX5_part_1 : decode cX5_part 1 = .ok (.iconst 1, 1) := by decide +kernel
theorem dX5_part_2 : decode cX5_part 2 = .ok (.if_icmp .lt 30, 3) := by decide +kernel
theorem dX5_part_5 : decode cX5_part 5 = .ok (.iload_n 1, 1) := by decide +kernel
theorem dX5_part_6 : decode cX5_part 6 = .ok (.bipush 99, 2) := by decide +kernel
theorem dX5_part_8 : decode cX5_part 8 = .ok (.if_icmp .gt 24, 3) := by decide +kernel
theorem dX5_part_11 : decode cX5_part 11 = .ok (.iload_n 2, 1) := by decide +kernel
theorem dX5_part_12 : decode cX5_part 12 = .ok (.iconst 1, 1) := by decide +kernel
theorem dX5_part_13 : decode cX5_part 13 = .ok (.if_icmp .lt 19, 3) := by decide +kernel
theorem dX5_part_16 : decode cX5_part 16 = .ok (.iload_n 2, 1) := by decide +kernel
theorem dX5_part_17 : decode cX5_part 17 = .ok (.bipush 99, 2) := by decide +kernel
theorem dX5_part_19 : decode cX5_part 19 = .ok (.if_icmp .gt 13, 3) := by decide +kernel
theorem dX5_part_22 : decode cX5_part 22 = .ok (.iload_n 3, 1) := by decide +kernel
theorem dX5_part_23 : decode cX5_part 23 = .ok (.ifCond .lt 9, 3) := by decide +kernel
theorem dX5_part_26 : decode cX5_part 26 = .ok (.iload_n 3, 1) := by decide +kernel
theorem dX5_part_27 : decode cX5_part 27 = .ok (.bipush 10, 2) := by decide +kernel
theorem dX5_part_29 : decode cX5_part 29 = .ok (.if_icmp .le 8, 3) := by decide +kernel
theorem dX5_part_32 : decode cX5_part 32 = .ok (.aload_n 0, 1) := by decide +kernel
theorem dX5_part_33 : decode cX5_part 33 = .ok (.invokevirtual 59, 3) := by decide +kernel
theorem dX5_part_36 : decode cX5_part 36 = .ok (.ireturn, 1) := by decide +kernel
theorem dX5_part_37 : decode cX5_part 37 = .ok (.aload_n 0, 1) := by decide +kernel
theorem dX5_part_38 : decode cX5_part 38 = .ok (.getfield 12, 3) := by decide +kernel
theorem dX5_part_41 : decode cX5_part 41 = .ok (.getfield 230, 3) := by decide +kernel
theorem dX5_part_44 : decode cX5_part 44 = .ok (.bipush 6, 2) := by decide +kernel
theorem dX5_part_46 : decode cX5_part 46 = .ok (.if_icmp .lt 8, 3) := by decide +kernel
theorem dX5_part_49 : decode cX5_part 49 = .ok (.aload_n 0, 1) := by decide +kernel
theorem dX5_part_50 : decode cX5_part 50 = .ok (.invokevirtual 67, 3) := by decide +kernel
theorem dX5_part_53 : decode cX5_part 53 = .ok (.ireturn, 1) := by decide +kernel
theorem dX5_part_54 : decode cX5_part 54 = .ok (.aload_n 0, 1) := by decide +kernel
theorem dX5_part_55 : decode cX5_part 55 = .ok (.getfield 12, 3) := by decide +kernel
theorem dX5_part_58 : decode cX5_part 58 = .ok (.getfield 230, 3) := by decide +kernel
theorem dX5_part_61 : decode cX5_part 61 = .ok (.iconst 3, 1) := by decide +kernel
theorem dX5_part_62 : decode cX5_part 62 = .ok (.imul, 1) := by decide +kernel
theorem dX5_part_63 : decode cX5_part 63 = .ok (.istore 4, 2) := by decide +kernel
theorem dX5_part_65 : decode cX5_part 65 = .ok (.aload_n 0, 1) := by decide +kernel
theorem dX5_part_66 : decode cX5_part 66 = .ok (.getfield 12, 3) := by decide +kernel
theorem dX5_part_69 : decode cX5_part 69 = .ok (.getfield 233, 3) := by decide +kernel
theorem dX5_part_72 : decode cX5_part 72 = .ok (.iload 4, 2) := by decide +kernel
theorem dX5_part_74 : decode cX5_part 74 = .ok (.iload_n 1, 1) := by decide +kernel
theorem dX5_part_75 : decode cX5_part 75 = .ok (.invokestatic 73, 3) := by decide +kernel
theorem dX5_part_78 : decode cX5_part 78 = .ok (.aload_n 0, 1) := by decide +kernel
theorem dX5_part_79 : decode cX5_part 79 = .ok (.getfield 12, 3) := by decide +kernel
theorem dX5_part_82 : decode cX5_part 82 = .ok (.getfield 233, 3) := by decide +kernel
theorem dX5_part_85 : decode cX5_part 85 = .ok (.iload 4, 2) := by decide +kernel
theorem dX5_part_87 : decode cX5_part 87 = .ok (.iconst 1, 1) := by decide +kernel
theorem dX5_part_88 : decode cX5_part 88 = .ok (.iadd, 1) := by decide +kernel
theorem dX5_part_89 : decode cX5_part 89 = .ok (.iload_n 2, 1) := by decide +kernel
theorem dX5_part_90 : decode cX5_part 90 = .ok (.invokestatic 73, 3) := by decide +kernel
theorem dX5_part_93 : decode cX5_part 93 = .ok (.aload_n 0, 1) := by decide +kernel
theorem dX5_part_94 : decode cX5_part 94 = .ok (.getfield 12, 3) := by decide +kernel
theorem dX5_part_97 : decode cX5_part 97 = .ok (.getfield 233, 3) := by decide +kernel
theorem dX5_part_100 : decode cX5_part 100 = .ok (.iload 4, 2) := by decide +kernel
theorem dX5_part_102 : decode cX5_part 102 = .ok (.iconst 2, 1) := by decide +kernel
theorem dX5_part_103 : decode cX5_part 103 = .ok (.iadd, 1) := by decide +kernel
theorem dX5_part_104 : decode cX5_part 104 = .ok (.iload_n 3, 1) := by decide +kernel
theorem dX5_part_105 : decode cX5_part 105 = .ok (.invokestatic 73, 3) := by decide +kernel
theorem dX5_part_108 : decode cX5_part 108 = .ok (.aload_n 0, 1) := by decide +kernel
theorem dX5_part_109 : decode cX5_part 109 = .ok (.getfield 12, 3) := by decide +kernel
theorem dX5_part_112 : decode cX5_part 112 = .ok (.dup, 1) := by decide +kernel
theorem dX5_part_113 : decode cX5_part 113 = .ok (.getfield 230, 3) := by decide +kernel
theorem dX5_part_116 : decode cX5_part 116 = .ok (.dup_x1, 1) := by decide +kernel
theorem dX5_part_117 : decode cX5_part 117 = .ok (.iconst 1, 1) := by decide +kernel
theorem dX5_part_118 : decode cX5_part 118 = .ok (.iadd, 1) := by decide +kernel
theorem dX5_part_119 : decode cX5_part 119 = .ok (.putfield 230, 3) := by decide +kernel
theorem dX5_part_122 : decode cX5_part 122 = .ok (.ireturn, 1) := by decide +kernel
theorem dX5_takes_0 : decode cX5_takes 0 = .ok (.iload_n 1, 1) := by decide +kernel
theorem dX5_takes_1 : decode cX5_takes 1 = .ok (.ifCond .lt 10, 3) := by decide +kernel
theorem dX5_takes_4 : decode cX5_takes 4 = .ok (.iload_n 1, 1) := by decide +kernel
theorem dX5_takes_5 : decode cX5_takes 5 = .ok (.sipush 999, 3) := by decide +kernel
theorem dX5_takes_8 : decode cX5_takes 8 = .ok (.if_icmp .le 8, 3) := by decide +kernel
theorem dX5_takes_11 : decode cX5_takes 11 = .ok (.aload_n 0, 1) := by decide +kernel
theorem dX5_takes_12 : decode cX5_takes 12 = .ok (.invokevirtual 59, 3) := by decide +kernel
theorem dX5_takes_15 : decode cX5_takes 15 = .ok (.ireturn, 1) := by decide +kernel
theorem dX5_takes_16 : decode cX5_takes 16 = .ok (.iconst 0, 1) := by decide +kernel
theorem dX5_takes_17 : decode cX5_takes 17 = .ok (.istore_n 2, 1) := by decide +kernel
theorem dX5_takes_18 : decode cX5_takes 18 = .ok (.iconst 0, 1) := by decide +kernel
theorem dX5_takes_19 : decode cX5_takes 19 = .ok (.istore_n 3, 1) := by decide +kernel
theorem dX5_takes_20 : decode cX5_takes 20 = .ok (.iconst 0, 1) := by decide +kernel
theorem dX5_takes_21 : decode cX5_takes 21 = .ok (.istore 4, 2) := by decide +kernel
theorem dX5_takes_23 : decode cX5_takes 23 = .ok (.iconst 1, 1) := by decide +kernel
theorem dX5_takes_24 : decode cX5_takes 24 = .ok (.istore 5, 2) := by decide +kernel
theorem dX5_takes_26 : decode cX5_takes 26 = .ok (.iload 5, 2) := by decide +kernel
theorem dX5_takes_28 : decode cX5_takes 28 = .ok (.iconst 1, 1) := by decide +kernel
theorem dX5_takes_29 : decode cX5_takes 29 = .ok (.aload_n 0, 1) := by decide +kernel
theorem dX5_takes_30 : decode cX5_takes 30 = .ok (.getfield 12, 3) := by decide +kernel
theorem dX5_takes_33 : decode cX5_takes 33 = .ok (.getfield 230, 3) := by decide +kernel
theorem dX5_takes_36 : decode cX5_takes 36 = .ok (.ishl, 1) := by decide +kernel
theorem dX5_takes_37 : decode cX5_takes 37 = .ok (.if_icmp .ge 66, 3) := by decide +kernel
theorem dX5_takes_40 : decode cX5_takes 40 = .ok (.aload_n 0, 1) := by decide +kernel
theorem dX5_takes_41 : decode cX5_takes 41 = .ok (.getfield 12, 3) := by decide +kernel
theorem dX5_takes_44 : decode cX5_takes 44 = .ok (.iload 5, 2) := by decide +kernel
theorem dX5_takes_46 : decode cX5_takes 46 = .ok (.invokevirtual 236, 3) := by decide +kernel
theorem dX5_takes_49 : decode cX5_takes 49 = .ok (.istore 6, 2) := by decide +kernel
theorem dX5_takes_51 : decode cX5_takes 51 = .ok (.aload_n 0, 1) := by decide +kernel
theorem dX5_takes_52 : decode cX5_takes 52 = .ok (.getfield 12, 3) := by decide +kernel
theorem dX5_takes_55 : decode cX5_takes 55 = .ok (.iload 5, 2) := by decide +kernel
theorem dX5_takes_57 : decode cX5_takes 57 = .ok (.invokevirtual 240, 3) := by decide +kernel
theorem dX5_takes_60 : decode cX5_takes 60 = .ok (.istore 7, 2) := by decide +kernel
theorem dX5_takes_62 : decode cX5_takes 62 = .ok (.iload 6, 2) := by decide +kernel
theorem dX5_takes_64 : decode cX5_takes 64 = .ok (.iload_n 1, 1) := by decide +kernel
theorem dX5_takes_65 : decode cX5_takes 65 = .ok (.if_icmp .gt 32, 3) := by decide +kernel
theorem dX5_takes_68 : decode cX5_takes 68 = .ok (.iload 7, 2) := by decide +kernel
theorem dX5_takes_70 : decode cX5_takes 70 = .ok (.iload_n 3, 1) := by decide +kernel
theorem dX5_takes_71 : decode cX5_takes 71 = .ok (.if_icmp .gt 16, 3) := by decide +kernel
theorem dX5_takes_74 : decode cX5_takes 74 = .ok (.iload 7, 2) := by decide +kernel
theorem dX5_takes_76 : decode cX5_takes 76 = .ok (.iload_n 3, 1) := by decide +kernel
theorem dX5_takes_77 : decode cX5_takes 77 = .ok (.if_icmp .ne 20, 3) := by decide +kernel
theorem dX5_takes_80 : decode cX5_takes 80 = .ok (.iload 6, 2) := by decide +kernel
theorem dX5_takes_82 : decode cX5_takes 82 = .ok (.iload 4, 2) := by decide +kernel
theorem dX5_takes_84 : decode cX5_takes 84 = .ok (.if_icmp .ge 13, 3) := by decide +kernel
theorem dX5_takes_87 : decode cX5_takes 87 = .ok (.iload 5, 2) := by decide +kernel
theorem dX5_takes_89 : decode cX5_takes 89 = .ok (.istore_n 2, 1) := by decide +kernel
theorem dX5_takes_90 : decode cX5_takes 90 = .ok (.iload 7, 2) := by decide +kernel
theorem dX5_takes_92 : decode cX5_takes 92 = .ok (.istore_n 3, 1) := by decide +kernel
theorem dX5_takes_93 : decode cX5_takes 93 = .ok (.iload 6, 2) := by decide +kernel
theorem dX5_takes_95 : decode cX5_takes 95 = .ok (.istore 4, 2) := by decide +kernel
theorem dX5_takes_97 : decode cX5_takes 97 = .ok (.iinc 5 1, 3) := by decide +kernel
theorem dX5_takes_100 : decode cX5_takes 100 = .ok (.goto (-74), 3) := by decide +kernel
theorem dX5_takes_103 : decode cX5_takes 103 = .ok (.iload_n 2, 1) := by decide +kernel
theorem dX5_takes_104 : decode cX5_takes 104 = .ok (.ireturn, 1) := by decide +kernel
theorem dX5_sign_0 : decode cX5_sign 0 = .ok (.iload_n 1, 1) := by decide +kernel
theorem dX5_sign_1 : decode cX5_sign 1 = .ok (.ifCond .lt 8, 3) := by decide +kernel
theorem dX5_sign_4 : decode cX5_sign 4 = .ok (.iload_n 1, 1) := by decide +kernel
theorem dX5_sign_5 : decode cX5_sign 5 = .ok (.iconst 2, 1) := by decide +kernel
theorem dX5_sign_6 : decode cX5_sign 6 = .ok (.if_icmp .le 8, 3) := by decide +kernel
theorem dX5_sign_9 : decode cX5_sign 9 = .ok (.aload_n 0, 1) := by decide +kernel
theorem dX5_sign_10 : decode cX5_sign 10 = .ok (.invokevirtual 59, 3) := by decide +kernel
theorem dX5_sign_13 : decode cX5_sign 13 = .ok (.ireturn, 1) := by decide +kernel
theorem dX5_sign_14 : decode cX5_sign 14 = .ok (.aload_n 0, 1) := by decide +kernel
theorem dX5_sign_15 : decode cX5_sign 15 = .ok (.iload_n 1, 1) := by decide +kernel
theorem dX5_sign_16 : decode cX5_sign 16 = .ok (.invokevirtual 243, 3) := by decide +kernel
theorem dX5_sign_19 : decode cX5_sign 19 = .ok (.ireturn, 1) := by decide +kernel
theorem dX5_limb_0 : decode cX5_limb 0 = .ok (.iload_n 1, 1) := by decide +kernel
theorem dX5_limb_1 : decode cX5_limb 1 = .ok (.ifCond .lt 12, 3) := by decide +kernel
theorem dX5_limb_4 : decode cX5_limb 4 = .ok (.iload_n 1, 1) := by decide +kernel
theorem dX5_limb_5 : decode cX5_limb 5 = .ok (.iconst 1, 1) := by decide +kernel
theorem dX5_limb_6 : decode cX5_limb 6 = .ok (.if_icmp .gt 7, 3) := by decide +kernel
theorem dX5_limb_9 : decode cX5_limb 9 = .ok (.iload_n 2, 1) := by decide +kernel
theorem dX5_limb_10 : decode cX5_limb 10 = .ok (.ifCond .ge 8, 3) := by decide +kernel
theorem dX5_limb_13 : decode cX5_limb 13 = .ok (.aload_n 0, 1) := by decide +kernel
theorem dX5_limb_14 : decode cX5_limb 14 = .ok (.invokevirtual 59, 3) := by decide +kernel
theorem dX5_limb_17 : decode cX5_limb 17 = .ok (.ireturn, 1) := by decide +kernel
theorem dX5_limb_18 : decode cX5_limb 18 = .ok (.iload_n 2, 1) := by decide +kernel
theorem dX5_limb_19 : decode cX5_limb 19 = .ok (.aload_n 0, 1) := by decide +kernel
theorem dX5_limb_20 : decode cX5_limb 20 = .ok (.iload_n 1, 1) := by decide +kernel
theorem dX5_limb_21 : decode cX5_limb 21 = .ok (.iconst 1, 1) := by decide +kernel
theorem dX5_limb_22 : decode cX5_limb 22 = .ok (.iadd, 1) := by decide +kernel
theorem dX5_limb_23 : decode cX5_limb 23 = .ok (.invokevirtual 243, 3) := by decide +kernel
theorem dX5_limb_26 : decode cX5_limb 26 = .ok (.if_icmp .lt 5, 3) := by decide +kernel
theorem dX5_limb_29 : decode cX5_limb 29 = .ok (.iconst (-1), 1) := by decide +kernel
theorem dX5_limb_30 : decode cX5_limb 30 = .ok (.ireturn, 1) := by decide +kernel
theorem dX5_limb_31 : decode cX5_limb 31 = .ok (.aload_n 0, 1) := by decide +kernel
theorem dX5_limb_32 : decode cX5_limb 32 = .ok (.getfield 44, 3) := by decide +kernel
theorem dX5_limb_35 : decode cX5_limb 35 = .ok (.iload_n 1, 1) := by decide +kernel
theorem dX5_limb_36 : decode cX5_limb 36 = .ok (.iload_n 2, 1) := by decide +kernel
theorem dX5_limb_37 : decode cX5_limb 37 = .ok (.invokevirtual 246, 3) := by decide +kernel
theorem dX5_limb_40 : decode cX5_limb 40 = .ok (.ireturn, 1) := by decide +kernel
theorem dX5_image_0 : decode cX5_image 0 = .ok (.iload_n 1, 1) := by decide +kernel
theorem dX5_image_1 : decode cX5_image 1 = .ok (.ifCond .lt 12, 3) := by decide +kernel
theorem dX5_image_4 : decode cX5_image 4 = .ok (.iload_n 1, 1) := by decide +kernel
theorem dX5_image_5 : decode cX5_image 5 = .ok (.aload_n 0, 1) := by decide +kernel
theorem dX5_image_6 : decode cX5_image 6 = .ok (.getfield 16, 3) := by decide +kernel
theorem dX5_image_9 : decode cX5_image 9 = .ok (.arraylength, 1) := by decide +kernel
theorem dX5_image_10 : decode cX5_image 10 = .ok (.if_icmp .lt 8, 3) := by decide +kernel
theorem dX5_image_13 : decode cX5_image 13 = .ok (.aload_n 0, 1) := by decide +kernel
theorem dX5_image_14 : decode cX5_image 14 = .ok (.invokevirtual 59, 3) := by decide +kernel
theorem dX5_image_17 : decode cX5_image 17 = .ok (.ireturn, 1) := by decide +kernel
theorem dX5_image_18 : decode cX5_image 18 = .ok (.aload_n 0, 1) := by decide +kernel
theorem dX5_image_19 : decode cX5_image 19 = .ok (.getfield 16, 3) := by decide +kernel
theorem dX5_image_22 : decode cX5_image 22 = .ok (.iload_n 1, 1) := by decide +kernel
theorem dX5_image_23 : decode cX5_image 23 = .ok (.aaload, 1) := by decide +kernel
theorem dX5_image_24 : decode cX5_image 24 = .ok (.astore_n 2, 1) := by decide +kernel
theorem dX5_image_25 : decode cX5_image 25 = .ok (.aload_n 2, 1) := by decide +kernel
theorem dX5_image_26 : decode cX5_image 26 = .ok (.ifnonnull 18, 3) := by decide +kernel
theorem dX5_image_29 : decode cX5_image 29 = .ok (.new 9, 3) := by decide +kernel
theorem dX5_image_32 : decode cX5_image 32 = .ok (.dup, 1) := by decide +kernel
theorem dX5_image_33 : decode cX5_image 33 = .ok (.invokespecial 11, 3) := by decide +kernel
theorem dX5_image_36 : decode cX5_image 36 = .ok (.astore_n 2, 1) := by decide +kernel
theorem dX5_image_37 : decode cX5_image 37 = .ok (.aload_n 0, 1) := by decide +kernel
theorem dX5_image_38 : decode cX5_image 38 = .ok (.getfield 16, 3) := by decide +kernel
theorem dX5_image_41 : decode cX5_image 41 = .ok (.iload_n 1, 1) := by decide +kernel
theorem dX5_image_42 : decode cX5_image 42 = .ok (.aload_n 2, 1) := by decide +kernel
theorem dX5_image_43 : decode cX5_image 43 = .ok (.aastore, 1) := by decide +kernel
theorem dX5_image_44 : decode cX5_image 44 = .ok (.aload_n 2, 1) := by decide +kernel
theorem dX5_image_45 : decode cX5_image 45 = .ok (.aload_n 0, 1) := by decide +kernel
theorem dX5_image_46 : decode cX5_image 46 = .ok (.getfield 12, 3) := by decide +kernel
theorem dX5_image_49 : decode cX5_image 49 = .ok (.invokevirtual 249, 3) := by decide +kernel
theorem dX5_image_52 : decode cX5_image 52 = .ok (.iconst 1, 1) := by decide +kernel
theorem dX5_image_53 : decode cX5_image 53 = .ok (.ireturn, 1) := by decide +kernel
theorem dX5_from_0 : decode cX5_from 0 = .ok (.iload_n 1, 1) := by decide +kernel
theorem dX5_from_1 : decode cX5_from 1 = .ok (.ifCond .lt 12, 3) := by decide +kernel
theorem dX5_from_4 : decode cX5_from 4 = .ok (.iload_n 1, 1) := by decide +kernel
theorem dX5_from_5 : decode cX5_from 5 = .ok (.aload_n 0, 1) := by decide +kernel
theorem dX5_from_6 : decode cX5_from 6 = .ok (.getfield 16, 3) := by decide +kernel
theorem dX5_from_9 : decode cX5_from 9 = .ok (.arraylength, 1) := by decide +kernel
theorem dX5_from_10 : decode cX5_from 10 = .ok (.if_icmp .lt 8, 3) := by decide +kernel
theorem dX5_from_13 : decode cX5_from 13 = .ok (.aload_n 0, 1) := by decide +kernel
theorem dX5_from_14 : decode cX5_from 14 = .ok (.invokevirtual 59, 3) := by decide +kernel
theorem dX5_from_17 : decode cX5_from 17 = .ok (.ireturn, 1) := by decide +kernel
theorem dX5_from_18 : decode cX5_from 18 = .ok (.aload_n 0, 1) := by decide +kernel
theorem dX5_from_19 : decode cX5_from 19 = .ok (.getfield 16, 3) := by decide +kernel
theorem dX5_from_22 : decode cX5_from 22 = .ok (.iload_n 1, 1) := by decide +kernel
theorem dX5_from_23 : decode cX5_from 23 = .ok (.aaload, 1) := by decide +kernel
theorem dX5_from_24 : decode cX5_from 24 = .ok (.astore_n 2, 1) := by decide +kernel
theorem dX5_from_25 : decode cX5_from 25 = .ok (.aload_n 2, 1) := by decide +kernel
theorem dX5_from_26 : decode cX5_from 26 = .ok (.ifnonnull 8, 3) := by decide +kernel
theorem dX5_from_29 : decode cX5_from 29 = .ok (.aload_n 0, 1) := by decide +kernel
theorem dX5_from_30 : decode cX5_from 30 = .ok (.invokevirtual 90, 3) := by decide +kernel
theorem dX5_from_33 : decode cX5_from 33 = .ok (.ireturn, 1) := by decide +kernel
theorem dX5_from_34 : decode cX5_from 34 = .ok (.aload_n 0, 1) := by decide +kernel
theorem dX5_from_35 : decode cX5_from 35 = .ok (.getfield 12, 3) := by decide +kernel
theorem dX5_from_38 : decode cX5_from 38 = .ok (.aload_n 2, 1) := by decide +kernel
theorem dX5_from_39 : decode cX5_from 39 = .ok (.invokevirtual 249, 3) := by decide +kernel
theorem dX5_from_42 : decode cX5_from 42 = .ok (.aload_n 0, 1) := by decide +kernel
theorem dX5_from_43 : decode cX5_from 43 = .ok (.invokevirtual 77, 3) := by decide +kernel
theorem dX5_from_46 : decode cX5_from 46 = .ok (.iconst 1, 1) := by decide +kernel
theorem dX5_from_47 : decode cX5_from 47 = .ok (.ireturn, 1) := by decide +kernel
theorem dX5_status_0 : decode cX5_status 0 = .ok (.iload_n 1, 1) := by decide +kernel
theorem dX5_status_1 : decode cX5_status 1 = .ok (.ifCond .lt 12, 3) := by decide +kernel
theorem dX5_status_4 : decode cX5_status 4 = .ok (.iload_n 1, 1) := by decide +kernel
theorem dX5_status_5 : decode cX5_status 5 = .ok (.aload_n 0, 1) := by decide +kernel
theorem dX5_status_6 : decode cX5_status 6 = .ok (.getfield 48, 3) := by decide +kernel
theorem dX5_status_9 : decode cX5_status 9 = .ok (.arraylength, 1) := by decide +kernel
theorem dX5_status_10 : decode cX5_status 10 = .ok (.if_icmp .lt 10, 3) := by decide +kernel
theorem dX5_status_13 : decode cX5_status 13 = .ok (.aload_n 0, 1) := by decide +kernel
theorem dX5_status_14 : decode cX5_status 14 = .ok (.invokevirtual 59, 3) := by decide +kernel
theorem dX5_status_17 : decode cX5_status 17 = .ok (.pop, 1) := by decide +kernel
theorem dX5_status_18 : decode cX5_status 18 = .ok (.iconst (-1), 1) := by decide +kernel
theorem dX5_status_19 : decode cX5_status 19 = .ok (.ireturn, 1) := by decide +kernel
theorem dX5_status_20 : decode cX5_status 20 = .ok (.aload_n 0, 1) := by decide +kernel
theorem dX5_status_21 : decode cX5_status 21 = .ok (.getfield 48, 3) := by decide +kernel
theorem dX5_status_24 : decode cX5_status 24 = .ok (.iload_n 1, 1) := by decide +kernel
theorem dX5_status_25 : decode cX5_status 25 = .ok (.iaload, 1) := by decide +kernel
theorem dX5_status_26 : decode cX5_status 26 = .ok (.ireturn, 1) := by decide +kernel
theorem dX5_count_0 : decode cX5_count 0 = .ok (.iload_n 1, 1) := by decide +kernel
theorem dX5_count_1 : decode cX5_count 1 = .ok (.ifCond .lt 8, 3) := by decide +kernel
theorem dX5_count_4 : decode cX5_count 4 = .ok (.iload_n 1, 1) := by decide +kernel
theorem dX5_count_5 : decode cX5_count 5 = .ok (.iconst 3, 1) := by decide +kernel
theorem dX5_count_6 : decode cX5_count 6 = .ok (.if_icmp .le 8, 3) := by decide +kernel
theorem dX5_count_9 : decode cX5_count 9 = .ok (.aload_n 0, 1) := by decide +kernel
theorem dX5_count_10 : decode cX5_count 10 = .ok (.invokevirtual 59, 3) := by decide +kernel
theorem dX5_count_13 : decode cX5_count 13 = .ok (.ireturn, 1) := by decide +kernel
theorem dX5_count_14 : decode cX5_count 14 = .ok (.aload_n 0, 1) := by decide +kernel
theorem dX5_count_15 : decode cX5_count 15 = .ok (.getfield 12, 3) := by decide +kernel
theorem dX5_count_18 : decode cX5_count 18 = .ok (.iload_n 1, 1) := by decide +kernel
theorem dX5_count_19 : decode cX5_count 19 = .ok (.invokevirtual 253, 3) := by decide +kernel
theorem dX5_count_22 : decode cX5_count 22 = .ok (.ireturn, 1) := by decide +kernel
theorem dX5_digest_0 : decode cX5_digest 0 = .ok (.ldc2_w 256, 3) := by decide +kernel
theorem dX5_digest_3 : decode cX5_digest 3 = .ok (.lstore_n 1, 1) := by decide +kernel
theorem dX5_digest_4 : decode cX5_digest 4 = .ok (.iconst 0, 1) := by decide +kernel
theorem dX5_digest_5 : decode cX5_digest 5 = .ok (.istore_n 3, 1) := by decide +kernel
theorem dX5_digest_6 : decode cX5_digest 6 = .ok (.iload_n 3, 1) := by decide +kernel
theorem dX5_digest_7 : decode cX5_digest 7 = .ok (.iconst 3, 1) := by decide +kernel
theorem dX5_digest_8 : decode cX5_digest 8 = .ok (.if_icmp .gt 25, 3) := by decide +kernel
theorem dX5_digest_11 : decode cX5_digest 11 = .ok (.ldc2_w 258, 3) := by decide +kernel
theorem dX5_digest_14 : decode cX5_digest 14 = .ok (.lload_n 1, 1) := by decide +kernel
theorem dX5_digest_15 : decode cX5_digest 15 = .ok (.lmul, 1) := by decide +kernel
theorem dX5_digest_16 : decode cX5_digest 16 = .ok (.aload_n 0, 1) := by decide +kernel
theorem dX5_digest_17 : decode cX5_digest 17 = .ok (.getfield 12, 3) := by decide +kernel
theorem dX5_digest_20 : decode cX5_digest 20 = .ok (.iload_n 3, 1) := by decide +kernel
theorem dX5_digest_21 : decode cX5_digest 21 = .ok (.invokevirtual 253, 3) := by decide +kernel
theorem dX5_digest_24 : decode cX5_digest 24 = .ok (.i2l, 1) := by decide +kernel
theorem dX5_digest_25 : decode cX5_digest 25 = .ok (.ladd, 1) := by decide +kernel
theorem dX5_digest_26 : decode cX5_digest 26 = .ok (.lstore_n 1, 1) := by decide +kernel
theorem dX5_digest_27 : decode cX5_digest 27 = .ok (.iinc 3 1, 3) := by decide +kernel
theorem dX5_digest_30 : decode cX5_digest 30 = .ok (.goto (-24), 3) := by decide +kernel
theorem dX5_digest_33 : decode cX5_digest 33 = .ok (.lload_n 1, 1) := by decide +kernel
theorem dX5_digest_34 : decode cX5_digest 34 = .ok (.aload_n 0, 1) := by decide +kernel
theorem dX5_digest_35 : decode cX5_digest 35 = .ok (.getfield 12, 3) := by decide +kernel
theorem dX5_digest_38 : decode cX5_digest 38 = .ok (.getfield 70, 3) := by decide +kernel
theorem dX5_digest_41 : decode cX5_digest 41 = .ok (.aload_n 0, 1) := by decide +kernel
theorem dX5_digest_42 : decode cX5_digest 42 = .ok (.getfield 12, 3) := by decide +kernel
theorem dX5_digest_45 : decode cX5_digest 45 = .ok (.getfield 63, 3) := by decide +kernel
theorem dX5_digest_48 : decode cX5_digest 48 = .ok (.invokestatic 260, 3) := by decide +kernel
theorem dX5_digest_51 : decode cX5_digest 51 = .ok (.lstore_n 1, 1) := by decide +kernel
theorem dX5_digest_52 : decode cX5_digest 52 = .ok (.lload_n 1, 1) := by decide +kernel
theorem dX5_digest_53 : decode cX5_digest 53 = .ok (.aload_n 0, 1) := by decide +kernel
theorem dX5_digest_54 : decode cX5_digest 54 = .ok (.getfield 12, 3) := by decide +kernel
theorem dX5_digest_57 : decode cX5_digest 57 = .ok (.getfield 98, 3) := by decide +kernel
theorem dX5_digest_60 : decode cX5_digest 60 = .ok (.iconst 4, 1) := by decide +kernel
theorem dX5_digest_61 : decode cX5_digest 61 = .ok (.invokestatic 260, 3) := by decide +kernel
theorem dX5_digest_64 : decode cX5_digest 64 = .ok (.lstore_n 1, 1) := by decide +kernel
theorem dX5_digest_65 : decode cX5_digest 65 = .ok (.lload_n 1, 1) := by decide +kernel
theorem dX5_digest_66 : decode cX5_digest 66 = .ok (.aload_n 0, 1) := by decide +kernel
theorem dX5_digest_67 : decode cX5_digest 67 = .ok (.getfield 12, 3) := by decide +kernel
theorem dX5_digest_70 : decode cX5_digest 70 = .ok (.getfield 105, 3) := by decide +kernel
theorem dX5_digest_73 : decode cX5_digest 73 = .ok (.bipush 7, 2) := by decide +kernel
theorem dX5_digest_75 : decode cX5_digest 75 = .ok (.invokestatic 260, 3) := by decide +kernel
theorem dX5_digest_78 : decode cX5_digest 78 = .ok (.lstore_n 1, 1) := by decide +kernel
theorem dX5_digest_79 : decode cX5_digest 79 = .ok (.lload_n 1, 1) := by decide +kernel
theorem dX5_digest_80 : decode cX5_digest 80 = .ok (.aload_n 0, 1) := by decide +kernel
theorem dX5_digest_81 : decode cX5_digest 81 = .ok (.getfield 12, 3) := by decide +kernel
theorem dX5_digest_84 : decode cX5_digest 84 = .ok (.getfield 111, 3) := by decide +kernel
theorem dX5_digest_87 : decode cX5_digest 87 = .ok (.iconst 4, 1) := by decide +kernel
theorem dX5_digest_88 : decode cX5_digest 88 = .ok (.invokestatic 260, 3) := by decide +kernel
theorem dX5_digest_91 : decode cX5_digest 91 = .ok (.lstore_n 1, 1) := by decide +kernel
theorem dX5_digest_92 : decode cX5_digest 92 = .ok (.lload_n 1, 1) := by decide +kernel
theorem dX5_digest_93 : decode cX5_digest 93 = .ok (.aload_n 0, 1) := by decide +kernel
theorem dX5_digest_94 : decode cX5_digest 94 = .ok (.getfield 12, 3) := by decide +kernel
theorem dX5_digest_97 : decode cX5_digest 97 = .ok (.getfield 141, 3) := by decide +kernel
theorem dX5_digest_100 : decode cX5_digest 100 = .ok (.aload_n 0, 1) := by decide +kernel
theorem dX5_digest_101 : decode cX5_digest 101 = .ok (.getfield 12, 3) := by decide +kernel
theorem dX5_digest_104 : decode cX5_digest 104 = .ok (.getfield 138, 3) := by decide +kernel
theorem dX5_digest_107 : decode cX5_digest 107 = .ok (.iconst 4, 1) := by decide +kernel
theorem dX5_digest_108 : decode cX5_digest 108 = .ok (.imul, 1) := by decide +kernel
theorem dX5_digest_109 : decode cX5_digest 109 = .ok (.invokestatic 260, 3) := by decide +kernel
theorem dX5_digest_112 : decode cX5_digest 112 = .ok (.lstore_n 1, 1) := by decide +kernel
theorem dX5_digest_113 : decode cX5_digest 113 = .ok (.lload_n 1, 1) := by decide +kernel
theorem dX5_digest_114 : decode cX5_digest 114 = .ok (.aload_n 0, 1) := by decide +kernel
theorem dX5_digest_115 : decode cX5_digest 115 = .ok (.getfield 12, 3) := by decide +kernel
theorem dX5_digest_118 : decode cX5_digest 118 = .ok (.getfield 233, 3) := by decide +kernel
theorem dX5_digest_121 : decode cX5_digest 121 = .ok (.aload_n 0, 1) := by decide +kernel
theorem dX5_digest_122 : decode cX5_digest 122 = .ok (.getfield 12, 3) := by decide +kernel
theorem dX5_digest_125 : decode cX5_digest 125 = .ok (.getfield 230, 3) := by decide +kernel
theorem dX5_digest_128 : decode cX5_digest 128 = .ok (.iconst 3, 1) := by decide +kernel
theorem dX5_digest_129 : decode cX5_digest 129 = .ok (.imul, 1) := by decide +kernel
theorem dX5_digest_130 : decode cX5_digest 130 = .ok (.invokestatic 260, 3) := by decide +kernel
theorem dX5_digest_133 : decode cX5_digest 133 = .ok (.lstore_n 1, 1) := by decide +kernel
theorem dX5_digest_134 : decode cX5_digest 134 = .ok (.iconst 0, 1) := by decide +kernel
theorem dX5_digest_135 : decode cX5_digest 135 = .ok (.istore_n 3, 1) := by decide +kernel
theorem dX5_digest_136 : decode cX5_digest 136 = .ok (.iload_n 3, 1) := by decide +kernel
theorem dX5_digest_137 : decode cX5_digest 137 = .ok (.iconst 2, 1) := by decide +kernel
theorem dX5_digest_138 : decode cX5_digest 138 = .ok (.if_icmp .gt 22, 3) := by decide +kernel
theorem dX5_digest_141 : decode cX5_digest 141 = .ok (.ldc2_w 258, 3) := by decide +kernel
theorem dX5_digest_144 : decode cX5_digest 144 = .ok (.lload_n 1, 1) := by decide +kernel
theorem dX5_digest_145 : decode cX5_digest 145 = .ok (.lmul, 1) := by decide +kernel
theorem dX5_digest_146 : decode cX5_digest 146 = .ok (.aload_n 0, 1) := by decide +kernel
theorem dX5_digest_147 : decode cX5_digest 147 = .ok (.iload_n 3, 1) := by decide +kernel
theorem dX5_digest_148 : decode cX5_digest 148 = .ok (.invokevirtual 243, 3) := by decide +kernel
theorem dX5_digest_151 : decode cX5_digest 151 = .ok (.i2l, 1) := by decide +kernel
theorem dX5_digest_152 : decode cX5_digest 152 = .ok (.ladd, 1) := by decide +kernel
theorem dX5_digest_153 : decode cX5_digest 153 = .ok (.lstore_n 1, 1) := by decide +kernel
theorem dX5_digest_154 : decode cX5_digest 154 = .ok (.iinc 3 1, 3) := by decide +kernel
theorem dX5_digest_157 : decode cX5_digest 157 = .ok (.goto (-21), 3) := by decide +kernel
theorem dX5_digest_160 : decode cX5_digest 160 = .ok (.iconst 0, 1) := by decide +kernel
theorem dX5_digest_161 : decode cX5_digest 161 = .ok (.istore_n 3, 1) := by decide +kernel
theorem dX5_digest_162 : decode cX5_digest 162 = .ok (.iload_n 3, 1) := by decide +kernel
theorem dX5_digest_163 : decode cX5_digest 163 = .ok (.iconst 1, 1) := by decide +kernel
theorem dX5_digest_164 : decode cX5_digest 164 = .ok (.if_icmp .gt 48, 3) := by decide +kernel
theorem dX5_digest_167 : decode cX5_digest 167 = .ok (.iconst 0, 1) := by decide +kernel
theorem dX5_digest_168 : decode cX5_digest 168 = .ok (.istore 4, 2) := by decide +kernel
theorem dX5_digest_170 : decode cX5_digest 170 = .ok (.iload 4, 2) := by decide +kernel
theorem dX5_digest_172 : decode cX5_digest 172 = .ok (.aload_n 0, 1) := by decide +kernel
theorem dX5_digest_173 : decode cX5_digest 173 = .ok (.iload_n 3, 1) := by decide +kernel
theorem dX5_digest_174 : decode cX5_digest 174 = .ok (.iconst 1, 1) := by decide +kernel
theorem dX5_digest_175 : decode cX5_digest 175 = .ok (.iadd, 1) := by decide +kernel
theorem dX5_digest_176 : decode cX5_digest 176 = .ok (.invokevirtual 243, 3) := by decide +kernel
theorem dX5_digest_179 : decode cX5_digest 179 = .ok (.if_icmp .ge 27, 3) := by decide +kernel
theorem dX5_digest_182 : decode cX5_digest 182 = .ok (.ldc2_w 258, 3) := by decide +kernel
theorem dX5_digest_185 : decode cX5_digest 185 = .ok (.lload_n 1, 1) := by decide +kernel
theorem dX5_digest_186 : decode cX5_digest 186 = .ok (.lmul, 1) := by decide +kernel
theorem dX5_digest_187 : decode cX5_digest 187 = .ok (.aload_n 0, 1) := by decide +kernel
theorem dX5_digest_188 : decode cX5_digest 188 = .ok (.getfield 44, 3) := by decide +kernel
theorem dX5_digest_191 : decode cX5_digest 191 = .ok (.iload_n 3, 1) := by decide +kernel
theorem dX5_digest_192 : decode cX5_digest 192 = .ok (.iload 4, 2) := by decide +kernel
theorem dX5_digest_194 : decode cX5_digest 194 = .ok (.invokevirtual 246, 3) := by decide +kernel
theorem dX5_digest_197 : decode cX5_digest 197 = .ok (.i2l, 1) := by decide +kernel
theorem dX5_digest_198 : decode cX5_digest 198 = .ok (.ladd, 1) := by decide +kernel
theorem dX5_digest_199 : decode cX5_digest 199 = .ok (.lstore_n 1, 1) := by decide +kernel
theorem dX5_digest_200 : decode cX5_digest 200 = .ok (.iinc 4 1, 3) := by decide +kernel
theorem dX5_digest_203 : decode cX5_digest 203 = .ok (.goto (-33), 3) := by decide +kernel
theorem dX5_digest_206 : decode cX5_digest 206 = .ok (.iinc 3 1, 3) := by decide +kernel
theorem dX5_digest_209 : decode cX5_digest 209 = .ok (.goto (-47), 3) := by decide +kernel
theorem dX5_digest_212 : decode cX5_digest 212 = .ok (.lload_n 1, 1) := by decide +kernel
theorem dX5_digest_213 : decode cX5_digest 213 = .ok (.lreturn, 1) := by decide +kernel
theorem dX5_bad_0 : decode cX5_bad 0 = .ok (.aload_n 0, 1) := by decide +kernel
theorem dX5_bad_1 : decode cX5_bad 1 = .ok (.iconst 0, 1) := by decide +kernel
theorem dX5_bad_2 : decode cX5_bad 2 = .ok (.bipush (-2), 2) := by decide +kernel
theorem dX5_bad_4 : decode cX5_bad 4 = .ok (.invokevirtual 264, 3) := by decide +kernel
theorem dX5_bad_7 : decode cX5_bad 7 = .ok (.ireturn, 1) := by decide +kernel
theorem dX5_no_0 : decode cX5_no 0 = .ok (.aload_n 0, 1) := by decide +kernel
theorem dX5_no_1 : decode cX5_no 1 = .ok (.iconst 1, 1) := by decide +kernel
theorem dX5_no_2 : decode cX5_no 2 = .ok (.bipush (-3), 2) := by decide +kernel
theorem dX5_no_4 : decode cX5_no 4 = .ok (.invokevirtual 264, 3) := by decide +kernel
theorem dX5_no_7 : decode cX5_no 7 = .ok (.ireturn, 1) := by decide +kernel
theorem dX5_full_0 : decode cX5_full 0 = .ok (.aload_n 0, 1) := by decide +kernel
theorem dX5_full_1 : decode cX5_full 1 = .ok (.iconst 2, 1) := by decide +kernel
theorem dX5_full_2 : decode cX5_full 2 = .ok (.bipush (-4), 2) := by decide +kernel
theorem dX5_full_4 : decode cX5_full 4 = .ok (.invokevirtual 264, 3) := by decide +kernel
theorem dX5_full_7 : decode cX5_full 7 = .ok (.ireturn, 1) := by decide +kernel
theorem dX5_refuse_0 : decode cX5_refuse 0 = .ok (.aload_n 0, 1) := by decide +kernel
theorem dX5_refuse_1 : decode cX5_refuse 1 = .ok (.getfield 48, 3) := by decide +kernel
theorem dX5_refuse_4 : decode cX5_refuse 4 = .ok (.iload_n 1, 1) := by decide +kernel
theorem dX5_refuse_5 : decode cX5_refuse 5 = .ok (.aload_n 0, 1) := by decide +kernel
theorem dX5_refuse_6 : decode cX5_refuse 6 = .ok (.getfield 48, 3) := by decide +kernel
theorem dX5_refuse_9 : decode cX5_refuse 9 = .ok (.iload_n 1, 1) := by decide +kernel
theorem dX5_refuse_10 : decode cX5_refuse 10 = .ok (.invokestatic 101, 3) := by decide +kernel
theorem dX5_refuse_13 : decode cX5_refuse 13 = .ok (.iconst 1, 1) := by decide +kernel
theorem dX5_refuse_14 : decode cX5_refuse 14 = .ok (.iadd, 1) := by decide +kernel
theorem dX5_refuse_15 : decode cX5_refuse 15 = .ok (.invokestatic 73, 3) := by decide +kernel
theorem dX5_refuse_18 : decode cX5_refuse 18 = .ok (.iload_n 2, 1) := by decide +kernel
theorem dX5_refuse_19 : decode cX5_refuse 19 = .ok (.ireturn, 1) := by decide +kernel
theorem dX5_isSetting_0 : decode cX5_isSetting 0 = .ok (.iload_n 0, 1) := by decide +kernel
theorem dX5_isSetting_1 : decode cX5_isSetting 1 = .ok (.ifCond .lt 23, 3) := by decide +kernel
theorem dX5_isSetting_4 : decode cX5_isSetting 4 = .ok (.iload_n 0, 1) := by decide +kernel
theorem dX5_isSetting_5 : decode cX5_isSetting 5 = .ok (.getstatic 267, 3) := by decide +kernel
theorem dX5_isSetting_8 : decode cX5_isSetting 8 = .ok (.arraylength, 1) := by decide +kernel
theorem dX5_isSetting_9 : decode cX5_isSetting 9 = .ok (.if_icmp .ge 15, 3) := by decide +kernel
theorem dX5_isSetting_12 : decode cX5_isSetting 12 = .ok (.iload_n 0, 1) := by decide +kernel
theorem dX5_isSetting_13 : decode cX5_isSetting 13 = .ok (.getstatic 270, 3) := by decide +kernel
theorem dX5_isSetting_16 : decode cX5_isSetting 16 = .ok (.arraylength, 1) := by decide +kernel
theorem dX5_isSetting_17 : decode cX5_isSetting 17 = .ok (.if_icmp .ge 7, 3) := by decide +kernel
theorem dX5_isSetting_20 : decode cX5_isSetting 20 = .ok (.iconst 1, 1) := by decide +kernel
theorem dX5_isSetting_21 : decode cX5_isSetting 21 = .ok (.goto 4, 3) := by decide +kernel
theorem dX5_isSetting_24 : decode cX5_isSetting 24 = .ok (.iconst 0, 1) := by decide +kernel
theorem dX5_isSetting_25 : decode cX5_isSetting 25 = .ok (.istore_n 2, 1) := by decide +kernel
theorem dX5_isSetting_26 : decode cX5_isSetting 26 = .ok (.iload_n 2, 1) := by decide +kernel
theorem dX5_isSetting_27 : decode cX5_isSetting 27 = .ok (.ifCond .eq 25, 3) := by decide +kernel
theorem dX5_isSetting_30 : decode cX5_isSetting 30 = .ok (.iload_n 1, 1) := by decide +kernel
theorem dX5_isSetting_31 : decode cX5_isSetting 31 = .ok (.getstatic 267, 3) := by decide +kernel
theorem dX5_isSetting_34 : decode cX5_isSetting 34 = .ok (.iload_n 0, 1) := by decide +kernel
theorem dX5_isSetting_35 : decode cX5_isSetting 35 = .ok (.iaload, 1) := by decide +kernel
theorem dX5_isSetting_36 : decode cX5_isSetting 36 = .ok (.if_icmp .lt 16, 3) := by decide +kernel
theorem dX5_isSetting_39 : decode cX5_isSetting 39 = .ok (.iload_n 1, 1) := by decide +kernel
theorem dX5_isSetting_40 : decode cX5_isSetting 40 = .ok (.getstatic 270, 3) := by decide +kernel
theorem dX5_isSetting_43 : decode cX5_isSetting 43 = .ok (.iload_n 0, 1) := by decide +kernel
theorem dX5_isSetting_44 : decode cX5_isSetting 44 = .ok (.iaload, 1) := by decide +kernel
theorem dX5_isSetting_45 : decode cX5_isSetting 45 = .ok (.if_icmp .gt 7, 3) := by decide +kernel
theorem dX5_isSetting_48 : decode cX5_isSetting 48 = .ok (.iconst 1, 1) := by decide +kernel
theorem dX5_isSetting_49 : decode cX5_isSetting 49 = .ok (.goto 4, 3) := by decide +kernel
theorem dX5_isSetting_52 : decode cX5_isSetting 52 = .ok (.iconst 0, 1) := by decide +kernel
theorem dX5_isSetting_53 : decode cX5_isSetting 53 = .ok (.ireturn, 1) := by decide +kernel
theorem dX5_isDeep_0 : decode cX5_isDeep 0 = .ok (.iload_n 0, 1) := by decide +kernel
theorem dX5_isDeep_1 : decode cX5_isDeep 1 = .ok (.iconst 1, 1) := by decide +kernel
theorem dX5_isDeep_2 : decode cX5_isDeep 2 = .ok (.if_icmp .lt 12, 3) := by decide +kernel
theorem dX5_isDeep_5 : decode cX5_isDeep 5 = .ok (.iload_n 0, 1) := by decide +kernel
theorem dX5_isDeep_6 : decode cX5_isDeep 6 = .ok (.iconst 3, 1) := by decide +kernel
theorem dX5_isDeep_7 : decode cX5_isDeep 7 = .ok (.if_icmp .gt 7, 3) := by decide +kernel
theorem dX5_isDeep_10 : decode cX5_isDeep 10 = .ok (.iconst 1, 1) := by decide +kernel
theorem dX5_isDeep_11 : decode cX5_isDeep 11 = .ok (.goto 4, 3) := by decide +kernel
theorem dX5_isDeep_14 : decode cX5_isDeep 14 = .ok (.iconst 0, 1) := by decide +kernel
theorem dX5_isDeep_15 : decode cX5_isDeep 15 = .ok (.ireturn, 1) := by decide +kernel
theorem dX5_isFault_0 : decode cX5_isFault 0 = .ok (.iload_n 0, 1) := by decide +kernel
theorem dX5_isFault_1 : decode cX5_isFault 1 = .ok (.ifCond .lt 20, 3) := by decide +kernel
theorem dX5_isFault_4 : decode cX5_isFault 4 = .ok (.iload_n 0, 1) := by decide +kernel
theorem dX5_isFault_5 : decode cX5_isFault 5 = .ok (.bipush 7, 2) := by decide +kernel
theorem dX5_isFault_7 : decode cX5_isFault 7 = .ok (.if_icmp .ge 14, 3) := by decide +kernel
theorem dX5_isFault_10 : decode cX5_isFault 10 = .ok (.iload_n 1, 1) := by decide +kernel
theorem dX5_isFault_11 : decode cX5_isFault 11 = .ok (.invokestatic 202, 3) := by decide +kernel
theorem dX5_isFault_14 : decode cX5_isFault 14 = .ok (.ifCond .eq 7, 3) := by decide +kernel
theorem dX5_isFault_17 : decode cX5_isFault 17 = .ok (.iconst 1, 1) := by decide +kernel
theorem dX5_isFault_18 : decode cX5_isFault 18 = .ok (.goto 4, 3) := by decide +kernel
theorem dX5_isFault_21 : decode cX5_isFault 21 = .ok (.iconst 0, 1) := by decide +kernel
theorem dX5_isFault_22 : decode cX5_isFault 22 = .ok (.ireturn, 1) := by decide +kernel
theorem dX5_isColor_0 : decode cX5_isColor 0 = .ok (.iload_n 0, 1) := by decide +kernel
theorem dX5_isColor_1 : decode cX5_isColor 1 = .ok (.ifCond .lt 12, 3) := by decide +kernel
theorem dX5_isColor_4 : decode cX5_isColor 4 = .ok (.iload_n 0, 1) := by decide +kernel
theorem dX5_isColor_5 : decode cX5_isColor 5 = .ok (.iconst 4, 1) := by decide +kernel
theorem dX5_isColor_6 : decode cX5_isColor 6 = .ok (.if_icmp .ge 7, 3) := by decide +kernel
theorem dX5_isColor_9 : decode cX5_isColor 9 = .ok (.iconst 1, 1) := by decide +kernel
theorem dX5_isColor_10 : decode cX5_isColor 10 = .ok (.goto 4, 3) := by decide +kernel
theorem dX5_isColor_13 : decode cX5_isColor 13 = .ok (.iconst 0, 1) := by decide +kernel
theorem dX5_isColor_14 : decode cX5_isColor 14 = .ok (.ireturn, 1) := by decide +kernel
theorem dX5_isCut_0 : decode cX5_isCut 0 = .ok (.iload_n 0, 1) := by decide +kernel
theorem dX5_isCut_1 : decode cX5_isCut 1 = .ok (.iconst (-1), 1) := by decide +kernel
theorem dX5_isCut_2 : decode cX5_isCut 2 = .ok (.if_icmp .eq 12, 3) := by decide +kernel
theorem dX5_isCut_5 : decode cX5_isCut 5 = .ok (.iload_n 0, 1) := by decide +kernel
theorem dX5_isCut_6 : decode cX5_isCut 6 = .ok (.ifCond .lt 12, 3) := by decide +kernel
theorem dX5_isCut_9 : decode cX5_isCut 9 = .ok (.iload_n 0, 1) := by decide +kernel
theorem dX5_isCut_10 : decode cX5_isCut 10 = .ok (.iconst 4, 1) := by decide +kernel
theorem dX5_isCut_11 : decode cX5_isCut 11 = .ok (.if_icmp .ge 7, 3) := by decide +kernel
theorem dX5_isCut_14 : decode cX5_isCut 14 = .ok (.iconst 1, 1) := by decide +kernel
theorem dX5_isCut_15 : decode cX5_isCut 15 = .ok (.goto 4, 3) := by decide +kernel
theorem dX5_isCut_18 : decode cX5_isCut 18 = .ok (.iconst 0, 1) := by decide +kernel
theorem dX5_isCut_19 : decode cX5_isCut 19 = .ok (.ireturn, 1) := by decide +kernel
theorem dX5_isPlan_0 : decode cX5_isPlan 0 = .ok (.iload_n 0, 1) := by decide +kernel
theorem dX5_isPlan_1 : decode cX5_isPlan 1 = .ok (.invokestatic 202, 3) := by decide +kernel
theorem dX5_isPlan_4 : decode cX5_isPlan 4 = .ok (.ifCond .eq 34, 3) := by decide +kernel
theorem dX5_isPlan_7 : decode cX5_isPlan 7 = .ok (.iload_n 1, 1) := by decide +kernel
theorem dX5_isPlan_8 : decode cX5_isPlan 8 = .ok (.bipush 10, 2) := by decide +kernel
theorem dX5_isPlan_10 : decode cX5_isPlan 10 = .ok (.if_icmp .gt 28, 3) := by decide +kernel
theorem dX5_isPlan_13 : decode cX5_isPlan 13 = .ok (.iload_n 2, 1) := by decide +kernel
theorem dX5_isPlan_14 : decode cX5_isPlan 14 = .ok (.ifCond .lt 24, 3) := by decide +kernel
theorem dX5_isPlan_17 : decode cX5_isPlan 17 = .ok (.iload_n 2, 1) := by decide +kernel
theorem dX5_isPlan_18 : decode cX5_isPlan 18 = .ok (.sipush 999, 3) := by decide +kernel
theorem dX5_isPlan_21 : decode cX5_isPlan 21 = .ok (.if_icmp .gt 17, 3) := by decide +kernel
theorem dX5_isPlan_24 : decode cX5_isPlan 24 = .ok (.iload_n 3, 1) := by decide +kernel
theorem dX5_isPlan_25 : decode cX5_isPlan 25 = .ok (.ifCond .lt 13, 3) := by decide +kernel
theorem dX5_isPlan_28 : decode cX5_isPlan 28 = .ok (.iload_n 3, 1) := by decide +kernel
theorem dX5_isPlan_29 : decode cX5_isPlan 29 = .ok (.ldc 188, 2) := by decide +kernel
theorem dX5_isPlan_31 : decode cX5_isPlan 31 = .ok (.if_icmp .gt 7, 3) := by decide +kernel
theorem dX5_isPlan_34 : decode cX5_isPlan 34 = .ok (.iconst 1, 1) := by decide +kernel
theorem dX5_isPlan_35 : decode cX5_isPlan 35 = .ok (.goto 4, 3) := by decide +kernel
theorem dX5_isPlan_38 : decode cX5_isPlan 38 = .ok (.iconst 0, 1) := by decide +kernel
theorem dX5_isPlan_39 : decode cX5_isPlan 39 = .ok (.ireturn, 1) := by decide +kernel
theorem dX5_faultOf_0 : decode cX5_faultOf 0 = .ok (.iconst 3, 1) := by decide +kernel
theorem dX5_faultOf_1 : decode cX5_faultOf 1 = .ok (.iload_n 0, 1) := by decide +kernel
theorem dX5_faultOf_2 : decode cX5_faultOf 2 = .ok (.imul, 1) := by decide +kernel
theorem dX5_faultOf_3 : decode cX5_faultOf 3 = .ok (.iload_n 1, 1) := by decide +kernel
theorem dX5_faultOf_4 : decode cX5_faultOf 4 = .ok (.iadd, 1) := by decide +kernel
theorem dX5_faultOf_5 : decode cX5_faultOf 5 = .ok (.iconst 1, 1) := by decide +kernel
theorem dX5_faultOf_6 : decode cX5_faultOf 6 = .ok (.isub, 1) := by decide +kernel
theorem dX5_faultOf_7 : decode cX5_faultOf 7 = .ok (.ireturn, 1) := by decide +kernel
theorem dX5_dayChanged_0 : decode cX5_dayChanged 0 = .ok (.aload_n 0, 1) := by decide +kernel
theorem dX5_dayChanged_1 : decode cX5_dayChanged 1 = .ok (.iconst 1, 1) := by decide +kernel
theorem dX5_dayChanged_2 : decode cX5_dayChanged 2 = .ok (.putfield 52, 3) := by decide +kernel
theorem dX5_dayChanged_5 : decode cX5_dayChanged 5 = .ok (.aload_n 0, 1) := by decide +kernel
theorem dX5_dayChanged_6 : decode cX5_dayChanged 6 = .ok (.iconst 1, 1) := by decide +kernel
theorem dX5_dayChanged_7 : decode cX5_dayChanged 7 = .ok (.putfield 56, 3) := by decide +kernel
theorem dX5_dayChanged_10 : decode cX5_dayChanged 10 = .ok (.return_, 1) := by decide +kernel
theorem dX5_readDay_0 : decode cX5_readDay 0 = .ok (.aload_n 0, 1) := by decide +kernel
theorem dX5_readDay_1 : decode cX5_readDay 1 = .ok (.getfield 52, 3) := by decide +kernel
theorem dX5_readDay_4 : decode cX5_readDay 4 = .ok (.ifCond .eq 47, 3) := by decide +kernel
theorem dX5_readDay_7 : decode cX5_readDay 7 = .ok (.aload_n 0, 1) := by decide +kernel
theorem dX5_readDay_8 : decode cX5_readDay 8 = .ok (.getfield 23, 3) := by decide +kernel
theorem dX5_readDay_11 : decode cX5_readDay 11 = .ok (.aload_n 0, 1) := by decide +kernel
theorem dX5_readDay_12 : decode cX5_readDay 12 = .ok (.getfield 12, 3) := by decide +kernel
theorem dX5_readDay_15 : decode cX5_readDay 15 = .ok (.getfield 70, 3) := by decide +kernel
theorem dX5_readDay_18 : decode cX5_readDay 18 = .ok (.aload_n 0, 1) := by decide +kernel
theorem dX5_readDay_19 : decode cX5_readDay 19 = .ok (.getfield 12, 3) := by decide +kernel
theorem dX5_readDay_22 : decode cX5_readDay 22 = .ok (.getfield 63, 3) := by decide +kernel
theorem dX5_readDay_25 : decode cX5_readDay 25 = .ok (.invokevirtual 273, 3) := by decide +kernel
theorem dX5_readDay_28 : decode cX5_readDay 28 = .ok (.aload_n 0, 1) := by decide +kernel
theorem dX5_readDay_29 : decode cX5_readDay 29 = .ok (.getfield 23, 3) := by decide +kernel
theorem dX5_readDay_32 : decode cX5_readDay 32 = .ok (.aload_n 0, 1) := by decide +kernel
theorem dX5_readDay_33 : decode cX5_readDay 33 = .ok (.getfield 12, 3) := by decide +kernel
theorem dX5_readDay_36 : decode cX5_readDay 36 = .ok (.getfield 98, 3) := by decide +kernel
theorem dX5_readDay_39 : decode cX5_readDay 39 = .ok (.iconst 0, 1) := by decide +kernel
theorem dX5_readDay_40 : decode cX5_readDay 40 = .ok (.invokestatic 101, 3) := by decide +kernel
theorem dX5_readDay_43 : decode cX5_readDay 43 = .ok (.invokevirtual 196, 3) := by decide +kernel
theorem dX5_readDay_46 : decode cX5_readDay 46 = .ok (.aload_n 0, 1) := by decide +kernel
theorem dX5_readDay_47 : decode cX5_readDay 47 = .ok (.iconst 0, 1) := by decide +kernel
theorem dX5_readDay_48 : decode cX5_readDay 48 = .ok (.putfield 52, 3) := by decide +kernel
theorem dX5_readDay_51 : decode cX5_readDay 51 = .ok (.return_, 1) := by decide +kernel
theorem dX5_dayIsFaulty_0 : decode cX5_dayIsFaulty 0 = .ok (.aload_n 0, 1) := by decide +kernel
theorem dX5_dayIsFaulty_1 : decode cX5_dayIsFaulty 1 = .ok (.invokevirtual 80, 3) := by decide +kernel
theorem dX5_dayIsFaulty_4 : decode cX5_dayIsFaulty 4 = .ok (.aload_n 0, 1) := by decide +kernel
theorem dX5_dayIsFaulty_5 : decode cX5_dayIsFaulty 5 = .ok (.getfield 23, 3) := by decide +kernel
theorem dX5_dayIsFaulty_8 : decode cX5_dayIsFaulty 8 = .ok (.getfield 83, 3) := by decide +kernel
theorem dX5_dayIsFaulty_11 : decode cX5_dayIsFaulty 11 = .ok (.iconst (-1), 1) := by decide +kernel
theorem dX5_dayIsFaulty_12 : decode cX5_dayIsFaulty 12 = .ok (.if_icmp .eq 7, 3) := by decide +kernel
theorem dX5_dayIsFaulty_15 : decode cX5_dayIsFaulty 15 = .ok (.iconst 1, 1) := by decide +kernel
theorem dX5_dayIsFaulty_16 : decode cX5_dayIsFaulty 16 = .ok (.goto 4, 3) := by decide +kernel
theorem dX5_dayIsFaulty_19 : decode cX5_dayIsFaulty 19 = .ok (.iconst 0, 1) := by decide +kernel
theorem dX5_dayIsFaulty_20 : decode cX5_dayIsFaulty 20 = .ok (.ireturn, 1) := by decide +kernel
theorem dX5_noGuesses_0 : decode cX5_noGuesses 0 = .ok (.aload_n 0, 1) := by decide +kernel
theorem dX5_noGuesses_1 : decode cX5_noGuesses 1 = .ok (.invokevirtual 80, 3) := by decide +kernel
theorem dX5_noGuesses_4 : decode cX5_noGuesses 4 = .ok (.aload_n 0, 1) := by decide +kernel
theorem dX5_noGuesses_5 : decode cX5_noGuesses 5 = .ok (.getfield 23, 3) := by decide +kernel
theorem dX5_noGuesses_8 : decode cX5_noGuesses 8 = .ok (.getfield 83, 3) := by decide +kernel
theorem dX5_noGuesses_11 : decode cX5_noGuesses 11 = .ok (.iconst (-1), 1) := by decide +kernel
theorem dX5_noGuesses_12 : decode cX5_noGuesses 12 = .ok (.if_icmp .eq 5, 3) := by decide +kernel
theorem dX5_noGuesses_15 : decode cX5_noGuesses 15 = .ok (.iconst 1, 1) := by decide +kernel
theorem dX5_noGuesses_16 : decode cX5_noGuesses 16 = .ok (.ireturn, 1) := by decide +kernel
theorem dX5_noGuesses_17 : decode cX5_noGuesses 17 = .ok (.aload_n 0, 1) := by decide +kernel
theorem dX5_noGuesses_18 : decode cX5_noGuesses 18 = .ok (.getfield 56, 3) := by decide +kernel
theorem dX5_noGuesses_21 : decode cX5_noGuesses 21 = .ok (.ifCond .eq 12, 3) := by decide +kernel
theorem dX5_noGuesses_24 : decode cX5_noGuesses 24 = .ok (.aload_n 0, 1) := by decide +kernel
theorem dX5_noGuesses_25 : decode cX5_noGuesses 25 = .ok (.invokevirtual 277, 3) := by decide +kernel
theorem dX5_noGuesses_28 : decode cX5_noGuesses 28 = .ok (.aload_n 0, 1) := by decide +kernel
theorem dX5_noGuesses_29 : decode cX5_noGuesses 29 = .ok (.iconst 0, 1) := by decide +kernel
theorem dX5_noGuesses_30 : decode cX5_noGuesses 30 = .ok (.putfield 56, 3) := by decide +kernel
theorem dX5_noGuesses_33 : decode cX5_noGuesses 33 = .ok (.aload_n 0, 1) := by decide +kernel
theorem dX5_noGuesses_34 : decode cX5_noGuesses 34 = .ok (.getfield 30, 3) := by decide +kernel
theorem dX5_noGuesses_37 : decode cX5_noGuesses 37 = .ok (.getfield 151, 3) := by decide +kernel
theorem dX5_noGuesses_40 : decode cX5_noGuesses 40 = .ok (.lconst 0, 1) := by decide +kernel
theorem dX5_noGuesses_41 : decode cX5_noGuesses 41 = .ok (.lcmp, 1) := by decide +kernel
theorem dX5_noGuesses_42 : decode cX5_noGuesses 42 = .ok (.ifCond .ne 7, 3) := by decide +kernel
theorem dX5_noGuesses_45 : decode cX5_noGuesses 45 = .ok (.iconst 1, 1) := by decide +kernel
theorem dX5_noGuesses_46 : decode cX5_noGuesses 46 = .ok (.goto 4, 3) := by decide +kernel
theorem dX5_noGuesses_49 : decode cX5_noGuesses 49 = .ok (.iconst 0, 1) := by decide +kernel
theorem dX5_noGuesses_50 : decode cX5_noGuesses 50 = .ok (.ireturn, 1) := by decide +kernel
theorem dX5_weighGuesses_0 : decode cX5_weighGuesses 0 = .ok (.aload_n 0, 1) := by decide +kernel
theorem dX5_weighGuesses_1 : decode cX5_weighGuesses 1 = .ok (.getfield 30, 3) := by decide +kernel
theorem dX5_weighGuesses_4 : decode cX5_weighGuesses 4 = .ok (.aload_n 0, 1) := by decide +kernel
theorem dX5_weighGuesses_5 : decode cX5_weighGuesses 5 = .ok (.getfield 12, 3) := by decide +kernel
theorem dX5_weighGuesses_8 : decode cX5_weighGuesses 8 = .ok (.getfield 98, 3) := by decide +kernel
theorem dX5_weighGuesses_11 : decode cX5_weighGuesses 11 = .ok (.iconst 3, 1) := by decide +kernel
theorem dX5_weighGuesses_12 : decode cX5_weighGuesses 12 = .ok (.invokestatic 101, 3) := by decide +kernel
theorem dX5_weighGuesses_15 : decode cX5_weighGuesses 15 = .ok (.aload_n 0, 1) := by decide +kernel
theorem dX5_weighGuesses_16 : decode cX5_weighGuesses 16 = .ok (.getfield 12, 3) := by decide +kernel
theorem dX5_weighGuesses_19 : decode cX5_weighGuesses 19 = .ok (.getfield 105, 3) := by decide +kernel
theorem dX5_weighGuesses_22 : decode cX5_weighGuesses 22 = .ok (.invokevirtual 280, 3) := by decide +kernel
theorem dX5_weighGuesses_25 : decode cX5_weighGuesses 25 = .ok (.iconst 0, 1) := by decide +kernel
theorem dX5_weighGuesses_26 : decode cX5_weighGuesses 26 = .ok (.istore_n 1, 1) := by decide +kernel
theorem dX5_weighGuesses_27 : decode cX5_weighGuesses 27 = .ok (.iload_n 1, 1) := by decide +kernel
theorem dX5_weighGuesses_28 : decode cX5_weighGuesses 28 = .ok (.aload_n 0, 1) := by decide +kernel
theorem dX5_weighGuesses_29 : decode cX5_weighGuesses 29 = .ok (.getfield 12, 3) := by decide +kernel
theorem dX5_weighGuesses_32 : decode cX5_weighGuesses 32 = .ok (.getfield 138, 3) := by decide +kernel
theorem dX5_weighGuesses_35 : decode cX5_weighGuesses 35 = .ok (.if_icmp .ge 126, 3) := by decide +kernel
theorem dX5_weighGuesses_38 : decode cX5_weighGuesses 38 = .ok (.iload_n 1, 1) := by decide +kernel
theorem dX5_weighGuesses_39 : decode cX5_weighGuesses 39 = .ok (.iconst 4, 1) := by decide +kernel
theorem dX5_weighGuesses_40 : decode cX5_weighGuesses 40 = .ok (.imul, 1) := by decide +kernel
theorem dX5_weighGuesses_41 : decode cX5_weighGuesses 41 = .ok (.istore_n 2, 1) := by decide +kernel
theorem dX5_weighGuesses_42 : decode cX5_weighGuesses 42 = .ok (.aload_n 0, 1) := by decide +kernel
theorem dX5_weighGuesses_43 : decode cX5_weighGuesses 43 = .ok (.getfield 12, 3) := by decide +kernel
theorem dX5_weighGuesses_46 : decode cX5_weighGuesses 46 = .ok (.getfield 141, 3) := by decide +kernel
theorem dX5_weighGuesses_49 : decode cX5_weighGuesses 49 = .ok (.iload_n 2, 1) := by decide +kernel
theorem dX5_weighGuesses_50 : decode cX5_weighGuesses 50 = .ok (.invokestatic 101, 3) := by decide +kernel
theorem dX5_weighGuesses_53 : decode cX5_weighGuesses 53 = .ok (.istore_n 3, 1) := by decide +kernel
theorem dX5_weighGuesses_54 : decode cX5_weighGuesses 54 = .ok (.aload_n 0, 1) := by decide +kernel
theorem dX5_weighGuesses_55 : decode cX5_weighGuesses 55 = .ok (.getfield 23, 3) := by decide +kernel
theorem dX5_weighGuesses_58 : decode cX5_weighGuesses 58 = .ok (.iload_n 3, 1) := by decide +kernel
theorem dX5_weighGuesses_59 : decode cX5_weighGuesses 59 = .ok (.invokevirtual 121, 3) := by decide +kernel
theorem dX5_weighGuesses_62 : decode cX5_weighGuesses 62 = .ok (.ifCond .eq 93, 3) := by decide +kernel
theorem dX5_weighGuesses_65 : decode cX5_weighGuesses 65 = .ok (.aload_n 0, 1) := by decide +kernel
theorem dX5_weighGuesses_66 : decode cX5_weighGuesses 66 = .ok (.getfield 23, 3) := by decide +kernel
theorem dX5_weighGuesses_69 : decode cX5_weighGuesses 69 = .ok (.iload_n 3, 1) := by decide +kernel
theorem dX5_weighGuesses_70 : decode cX5_weighGuesses 70 = .ok (.aload_n 0, 1) := by decide +kernel
theorem dX5_weighGuesses_71 : decode cX5_weighGuesses 71 = .ok (.getfield 12, 3) := by decide +kernel
theorem dX5_weighGuesses_74 : decode cX5_weighGuesses 74 = .ok (.getfield 141, 3) := by decide +kernel
theorem dX5_weighGuesses_77 : decode cX5_weighGuesses 77 = .ok (.iload_n 2, 1) := by decide +kernel
theorem dX5_weighGuesses_78 : decode cX5_weighGuesses 78 = .ok (.iconst 1, 1) := by decide +kernel
theorem dX5_weighGuesses_79 : decode cX5_weighGuesses 79 = .ok (.iadd, 1) := by decide +kernel
theorem dX5_weighGuesses_80 : decode cX5_weighGuesses 80 = .ok (.invokestatic 101, 3) := by decide +kernel
theorem dX5_weighGuesses_83 : decode cX5_weighGuesses 83 = .ok (.aload_n 0, 1) := by decide +kernel
theorem dX5_weighGuesses_84 : decode cX5_weighGuesses 84 = .ok (.getfield 30, 3) := by decide +kernel
theorem dX5_weighGuesses_87 : decode cX5_weighGuesses 87 = .ok (.getfield 173, 3) := by decide +kernel
theorem dX5_weighGuesses_90 : decode cX5_weighGuesses 90 = .ok (.invokevirtual 176, 3) := by decide +kernel
theorem dX5_weighGuesses_93 : decode cX5_weighGuesses 93 = .ok (.aload_n 0, 1) := by decide +kernel
theorem dX5_weighGuesses_94 : decode cX5_weighGuesses 94 = .ok (.getfield 30, 3) := by decide +kernel
theorem dX5_weighGuesses_97 : decode cX5_weighGuesses 97 = .ok (.aload_n 0, 1) := by decide +kernel
theorem dX5_weighGuesses_98 : decode cX5_weighGuesses 98 = .ok (.getfield 12, 3) := by decide +kernel
theorem dX5_weighGuesses_101 : decode cX5_weighGuesses 101 = .ok (.getfield 141, 3) := by decide +kernel
theorem dX5_weighGuesses_104 : decode cX5_weighGuesses 104 = .ok (.iload_n 2, 1) := by decide +kernel
theorem dX5_weighGuesses_105 : decode cX5_weighGuesses 105 = .ok (.iconst 2, 1) := by decide +kernel
theorem dX5_weighGuesses_106 : decode cX5_weighGuesses 106 = .ok (.iadd, 1) := by decide +kernel
theorem dX5_weighGuesses_107 : decode cX5_weighGuesses 107 = .ok (.invokestatic 101, 3) := by decide +kernel
theorem dX5_weighGuesses_110 : decode cX5_weighGuesses 110 = .ok (.invokevirtual 180, 3) := by decide +kernel
theorem dX5_weighGuesses_113 : decode cX5_weighGuesses 113 = .ok (.aload_n 0, 1) := by decide +kernel
theorem dX5_weighGuesses_114 : decode cX5_weighGuesses 114 = .ok (.getfield 30, 3) := by decide +kernel
theorem dX5_weighGuesses_117 : decode cX5_weighGuesses 117 = .ok (.aload_n 0, 1) := by decide +kernel
theorem dX5_weighGuesses_118 : decode cX5_weighGuesses 118 = .ok (.getfield 12, 3) := by decide +kernel
theorem dX5_weighGuesses_121 : decode cX5_weighGuesses 121 = .ok (.getfield 141, 3) := by decide +kernel
theorem dX5_weighGuesses_124 : decode cX5_weighGuesses 124 = .ok (.iload_n 2, 1) := by decide +kernel
theorem dX5_weighGuesses_125 : decode cX5_weighGuesses 125 = .ok (.iconst 3, 1) := by decide +kernel
theorem dX5_weighGuesses_126 : decode cX5_weighGuesses 126 = .ok (.iadd, 1) := by decide +kernel
theorem dX5_weighGuesses_127 : decode cX5_weighGuesses 127 = .ok (.invokestatic 101, 3) := by decide +kernel
theorem dX5_weighGuesses_130 : decode cX5_weighGuesses 130 = .ok (.aload_n 0, 1) := by decide +kernel
theorem dX5_weighGuesses_131 : decode cX5_weighGuesses 131 = .ok (.getfield 12, 3) := by decide +kernel
theorem dX5_weighGuesses_134 : decode cX5_weighGuesses 134 = .ok (.getfield 98, 3) := by decide +kernel
theorem dX5_weighGuesses_137 : decode cX5_weighGuesses 137 = .ok (.iconst 1, 1) := by decide +kernel
theorem dX5_weighGuesses_138 : decode cX5_weighGuesses 138 = .ok (.invokestatic 101, 3) := by decide +kernel
theorem dX5_weighGuesses_141 : decode cX5_weighGuesses 141 = .ok (.aload_n 0, 1) := by decide +kernel
theorem dX5_weighGuesses_142 : decode cX5_weighGuesses 142 = .ok (.getfield 12, 3) := by decide +kernel
theorem dX5_weighGuesses_145 : decode cX5_weighGuesses 145 = .ok (.getfield 98, 3) := by decide +kernel
theorem dX5_weighGuesses_148 : decode cX5_weighGuesses 148 = .ok (.iconst 2, 1) := by decide +kernel
theorem dX5_weighGuesses_149 : decode cX5_weighGuesses 149 = .ok (.invokestatic 101, 3) := by decide +kernel
theorem dX5_weighGuesses_152 : decode cX5_weighGuesses 152 = .ok (.invokevirtual 284, 3) := by decide +kernel
theorem dX5_weighGuesses_155 : decode cX5_weighGuesses 155 = .ok (.iinc 1 1, 3) := by decide +kernel
theorem dX5_weighGuesses_158 : decode cX5_weighGuesses 158 = .ok (.goto (-131), 3) := by decide +kernel
theorem dX5_weighGuesses_161 : decode cX5_weighGuesses 161 = .ok (.aload_n 0, 1) := by decide +kernel
theorem dX5_weighGuesses_162 : decode cX5_weighGuesses 162 = .ok (.getfield 30, 3) := by decide +kernel
theorem dX5_weighGuesses_165 : decode cX5_weighGuesses 165 = .ok (.invokevirtual 287, 3) := by decide +kernel
theorem dX5_weighGuesses_168 : decode cX5_weighGuesses 168 = .ok (.return_, 1) := by decide +kernel
theorem dX5_smokeOf_0 : decode cX5_smokeOf 0 = .ok (.iconst 0, 1) := by decide +kernel
theorem dX5_smokeOf_1 : decode cX5_smokeOf 1 = .ok (.istore 4, 2) := by decide +kernel
theorem dX5_smokeOf_3 : decode cX5_smokeOf 3 = .ok (.iconst 0, 1) := by decide +kernel
theorem dX5_smokeOf_4 : decode cX5_smokeOf 4 = .ok (.istore 5, 2) := by decide +kernel
theorem dX5_smokeOf_6 : decode cX5_smokeOf 6 = .ok (.iload 5, 2) := by decide +kernel
theorem dX5_smokeOf_8 : decode cX5_smokeOf 8 = .ok (.iconst 4, 1) := by decide +kernel
theorem dX5_smokeOf_9 : decode cX5_smokeOf 9 = .ok (.if_icmp .ge 51, 3) := by decide +kernel
theorem dX5_smokeOf_12 : decode cX5_smokeOf 12 = .ok (.aload_n 0, 1) := by decide +kernel
theorem dX5_smokeOf_13 : decode cX5_smokeOf 13 = .ok (.getfield 12, 3) := by decide +kernel
theorem dX5_smokeOf_16 : decode cX5_smokeOf 16 = .ok (.getfield 111, 3) := by decide +kernel
theorem dX5_smokeOf_19 : decode cX5_smokeOf 19 = .ok (.iload 5, 2) := by decide +kernel
theorem dX5_smokeOf_21 : decode cX5_smokeOf 21 = .ok (.invokestatic 101, 3) := by decide +kernel
theorem dX5_smokeOf_24 : decode cX5_smokeOf 24 = .ok (.istore 6, 2) := by decide +kernel
theorem dX5_smokeOf_26 : decode cX5_smokeOf 26 = .ok (.iload 6, 2) := by decide +kernel
theorem dX5_smokeOf_28 : decode cX5_smokeOf 28 = .ok (.iconst (-1), 1) := by decide +kernel
theorem dX5_smokeOf_29 : decode cX5_smokeOf 29 = .ok (.if_icmp .eq 25, 3) := by decide +kernel
theorem dX5_smokeOf_32 : decode cX5_smokeOf 32 = .ok (.iload 5, 2) := by decide +kernel
theorem dX5_smokeOf_34 : decode cX5_smokeOf 34 = .ok (.iload_n 3, 1) := by decide +kernel
theorem dX5_smokeOf_35 : decode cX5_smokeOf 35 = .ok (.if_icmp .eq 19, 3) := by decide +kernel
theorem dX5_smokeOf_38 : decode cX5_smokeOf 38 = .ok (.iload 4, 2) := by decide +kernel
theorem dX5_smokeOf_40 : decode cX5_smokeOf 40 = .ok (.aload_n 0, 1) := by decide +kernel
theorem dX5_smokeOf_41 : decode cX5_smokeOf 41 = .ok (.getfield 23, 3) := by decide +kernel
theorem dX5_smokeOf_44 : decode cX5_smokeOf 44 = .ok (.iload 6, 2) := by decide +kernel
theorem dX5_smokeOf_46 : decode cX5_smokeOf 46 = .ok (.iload_n 1, 1) := by decide +kernel
theorem dX5_smokeOf_47 : decode cX5_smokeOf 47 = .ok (.iload_n 2, 1) := by decide +kernel
theorem dX5_smokeOf_48 : decode cX5_smokeOf 48 = .ok (.invokevirtual 128, 3) := by decide +kernel
theorem dX5_smokeOf_51 : decode cX5_smokeOf 51 = .ok (.iadd, 1) := by decide +kernel
theorem dX5_smokeOf_52 : decode cX5_smokeOf 52 = .ok (.istore 4, 2) := by decide +kernel
theorem dX5_smokeOf_54 : decode cX5_smokeOf 54 = .ok (.iinc 5 1, 3) := by decide +kernel
theorem dX5_smokeOf_57 : decode cX5_smokeOf 57 = .ok (.goto (-51), 3) := by decide +kernel
theorem dX5_smokeOf_60 : decode cX5_smokeOf 60 = .ok (.iload 4, 2) := by decide +kernel
theorem dX5_smokeOf_62 : decode cX5_smokeOf 62 = .ok (.ireturn, 1) := by decide +kernel
theorem dX5_signOf_0 : decode cX5_signOf 0 = .ok (.aload_n 0, 1) := by decide +kernel
theorem dX5_signOf_1 : decode cX5_signOf 1 = .ok (.getfield 44, 3) := by decide +kernel
theorem dX5_signOf_4 : decode cX5_signOf 4 = .ok (.getfield 290, 3) := by decide +kernel
theorem dX5_signOf_7 : decode cX5_signOf 7 = .ok (.invokestatic 293, 3) := by decide +kernel
theorem dX5_signOf_10 : decode cX5_signOf 10 = .ok (.istore_n 2, 1) := by decide +kernel
theorem dX5_signOf_11 : decode cX5_signOf 11 = .ok (.iload_n 1, 1) := by decide +kernel
theorem dX5_signOf_12 : decode cX5_signOf 12 = .ok (.ifCond .ne 13, 3) := by decide +kernel
theorem dX5_signOf_15 : decode cX5_signOf 15 = .ok (.iload_n 2, 1) := by decide +kernel
theorem dX5_signOf_16 : decode cX5_signOf 16 = .ok (.ifCond .le 7, 3) := by decide +kernel
theorem dX5_signOf_19 : decode cX5_signOf 19 = .ok (.iconst 1, 1) := by decide +kernel
theorem dX5_signOf_20 : decode cX5_signOf 20 = .ok (.goto 4, 3) := by decide +kernel
theorem dX5_signOf_23 : decode cX5_signOf 23 = .ok (.iconst 0, 1) := by decide +kernel
theorem dX5_signOf_24 : decode cX5_signOf 24 = .ok (.ireturn, 1) := by decide +kernel
theorem dX5_signOf_25 : decode cX5_signOf 25 = .ok (.iload_n 1, 1) := by decide +kernel
theorem dX5_signOf_26 : decode cX5_signOf 26 = .ok (.iconst 1, 1) := by decide +kernel
theorem dX5_signOf_27 : decode cX5_signOf 27 = .ok (.if_icmp .ne 7, 3) := by decide +kernel
theorem dX5_signOf_30 : decode cX5_signOf 30 = .ok (.iload_n 2, 1) := by decide +kernel
theorem dX5_signOf_31 : decode cX5_signOf 31 = .ok (.goto 13, 3) := by decide +kernel
theorem dX5_signOf_34 : decode cX5_signOf 34 = .ok (.aload_n 0, 1) := by decide +kernel
theorem dX5_signOf_35 : decode cX5_signOf 35 = .ok (.getfield 44, 3) := by decide +kernel
theorem dX5_signOf_38 : decode cX5_signOf 38 = .ok (.getfield 297, 3) := by decide +kernel
theorem dX5_signOf_41 : decode cX5_signOf 41 = .ok (.invokestatic 293, 3) := by decide +kernel
theorem dX5_signOf_44 : decode cX5_signOf 44 = .ok (.ireturn, 1) := by decide +kernel
theorem dX5_mixed_0 : decode cX5_mixed 0 = .ok (.lload_n 0, 1) := by decide +kernel
theorem dX5_mixed_1 : decode cX5_mixed 1 = .ok (.lstore 4, 2) := by decide +kernel
theorem dX5_mixed_3 : decode cX5_mixed 3 = .ok (.iconst 0, 1) := by decide +kernel
theorem dX5_mixed_4 : decode cX5_mixed 4 = .ok (.istore 6, 2) := by decide +kernel
theorem dX5_mixed_6 : decode cX5_mixed 6 = .ok (.iload 6, 2) := by decide +kernel
theorem dX5_mixed_8 : decode cX5_mixed 8 = .ok (.iload_n 3, 1) := by decide +kernel
theorem dX5_mixed_9 : decode cX5_mixed 9 = .ok (.if_icmp .ge 30, 3) := by decide +kernel
theorem dX5_mixed_12 : decode cX5_mixed 12 = .ok (.iload 6, 2) := by decide +kernel
theorem dX5_mixed_14 : decode cX5_mixed 14 = .ok (.aload_n 2, 1) := by decide +kernel
theorem dX5_mixed_15 : decode cX5_mixed 15 = .ok (.arraylength, 1) := by decide +kernel
theorem dX5_mixed_16 : decode cX5_mixed 16 = .ok (.if_icmp .ge 23, 3) := by decide +kernel
theorem dX5_mixed_19 : decode cX5_mixed 19 = .ok (.ldc2_w 258, 3) := by decide +kernel
theorem dX5_mixed_22 : decode cX5_mixed 22 = .ok (.lload 4, 2) := by decide +kernel
theorem dX5_mixed_24 : decode cX5_mixed 24 = .ok (.lmul, 1) := by decide +kernel
theorem dX5_mixed_25 : decode cX5_mixed 25 = .ok (.aload_n 2, 1) := by decide +kernel
theorem dX5_mixed_26 : decode cX5_mixed 26 = .ok (.iload 6, 2) := by decide +kernel
theorem dX5_mixed_28 : decode cX5_mixed 28 = .ok (.iaload, 1) := by decide +kernel
theorem dX5_mixed_29 : decode cX5_mixed 29 = .ok (.i2l, 1) := by decide +kernel
theorem dX5_mixed_30 : decode cX5_mixed 30 = .ok (.ladd, 1) := by decide +kernel
theorem dX5_mixed_31 : decode cX5_mixed 31 = .ok (.lstore 4, 2) := by decide +kernel
theorem dX5_mixed_33 : decode cX5_mixed 33 = .ok (.iinc 6 1, 3) := by decide +kernel
theorem dX5_mixed_36 : decode cX5_mixed 36 = .ok (.goto (-30), 3) := by decide +kernel
theorem dX5_mixed_39 : decode cX5_mixed 39 = .ok (.lload 4, 2) := by decide +kernel
theorem dX5_mixed_41 : decode cX5_mixed 41 = .ok (.lreturn, 1) := by decide +kernel
theorem dX5_at_0 : decode cX5_at 0 = .ok (.aload_n 0, 1) := by decide +kernel
theorem dX5_at_1 : decode cX5_at 1 = .ok (.ifnull 19, 3) := by decide +kernel
theorem dX5_at_4 : decode cX5_at 4 = .ok (.iload_n 1, 1) := by decide +kernel
theorem dX5_at_5 : decode cX5_at 5 = .ok (.ifCond .lt 15, 3) := by decide +kernel
theorem dX5_at_8 : decode cX5_at 8 = .ok (.iload_n 1, 1) := by decide +kernel
theorem dX5_at_9 : decode cX5_at 9 = .ok (.aload_n 0, 1) := by decide +kernel
theorem dX5_at_10 : decode cX5_at 10 = .ok (.arraylength, 1) := by decide +kernel
theorem dX5_at_11 : decode cX5_at 11 = .ok (.if_icmp .ge 9, 3) := by decide +kernel
theorem dX5_at_14 : decode cX5_at 14 = .ok (.aload_n 0, 1) := by decide +kernel
theorem dX5_at_15 : decode cX5_at 15 = .ok (.iload_n 1, 1) := by decide +kernel
theorem dX5_at_16 : decode cX5_at 16 = .ok (.iaload, 1) := by decide +kernel
theorem dX5_at_17 : decode cX5_at 17 = .ok (.goto 4, 3) := by decide +kernel
theorem dX5_at_20 : decode cX5_at 20 = .ok (.iconst 0, 1) := by decide +kernel
theorem dX5_at_21 : decode cX5_at 21 = .ok (.ireturn, 1) := by decide +kernel
theorem dX5_at__0 : decode cX5_at_ 0 = .ok (.aload_n 0, 1) := by decide +kernel
theorem dX5_at__1 : decode cX5_at_ 1 = .ok (.ifnull 19, 3) := by decide +kernel
theorem dX5_at__4 : decode cX5_at_ 4 = .ok (.iload_n 1, 1) := by decide +kernel
theorem dX5_at__5 : decode cX5_at_ 5 = .ok (.ifCond .lt 15, 3) := by decide +kernel
theorem dX5_at__8 : decode cX5_at_ 8 = .ok (.iload_n 1, 1) := by decide +kernel
theorem dX5_at__9 : decode cX5_at_ 9 = .ok (.aload_n 0, 1) := by decide +kernel
theorem dX5_at__10 : decode cX5_at_ 10 = .ok (.arraylength, 1) := by decide +kernel
theorem dX5_at__11 : decode cX5_at_ 11 = .ok (.if_icmp .ge 9, 3) := by decide +kernel
theorem dX5_at__14 : decode cX5_at_ 14 = .ok (.aload_n 0, 1) := by decide +kernel
theorem dX5_at__15 : decode cX5_at_ 15 = .ok (.iload_n 1, 1) := by decide +kernel
theorem dX5_at__16 : decode cX5_at_ 16 = .ok (.laload, 1) := by decide +kernel
theorem dX5_at__17 : decode cX5_at_ 17 = .ok (.goto 4, 3) := by decide +kernel
theorem dX5_at__20 : decode cX5_at_ 20 = .ok (.lconst 0, 1) := by decide +kernel
theorem dX5_at__21 : decode cX5_at_ 21 = .ok (.lreturn, 1) := by decide +kernel
theorem dX5_set_0 : decode cX5_set 0 = .ok (.aload_n 0, 1) := by decide +kernel
theorem dX5_set_1 : decode cX5_set 1 = .ok (.ifnull 17, 3) := by decide +kernel
theorem dX5_set_4 : decode cX5_set 4 = .ok (.iload_n 1, 1) := by decide +kernel
theorem dX5_set_5 : decode cX5_set 5 = .ok (.ifCond .lt 13, 3) := by decide +kernel
theorem dX5_set_8 : decode cX5_set 8 = .ok (.iload_n 1, 1) := by decide +kernel
theorem dX5_set_9 : decode cX5_set 9 = .ok (.aload_n 0, 1) := by decide +kernel
theorem dX5_set_10 : decode cX5_set 10 = .ok (.arraylength, 1) := by decide +kernel
theorem dX5_set_11 : decode cX5_set 11 = .ok (.if_icmp .ge 7, 3) := by decide +kernel
theorem dX5_set_14 : decode cX5_set 14 = .ok (.aload_n 0, 1) := by decide +kernel
theorem dX5_set_15 : decode cX5_set 15 = .ok (.iload_n 1, 1) := by decide +kernel
theorem dX5_set_16 : decode cX5_set 16 = .ok (.iload_n 2, 1) := by decide +kernel
theorem dX5_set_17 : decode cX5_set 17 = .ok (.iastore, 1) := by decide +kernel
theorem dX5_set_18 : decode cX5_set 18 = .ok (.return_, 1) := by decide +kernel
theorem dX5_set__0 : decode cX5_set_ 0 = .ok (.aload_n 0, 1) := by decide +kernel
theorem dX5_set__1 : decode cX5_set_ 1 = .ok (.ifnull 17, 3) := by decide +kernel
theorem dX5_set__4 : decode cX5_set_ 4 = .ok (.iload_n 1, 1) := by decide +kernel
theorem dX5_set__5 : decode cX5_set_ 5 = .ok (.ifCond .lt 13, 3) := by decide +kernel
theorem dX5_set__8 : decode cX5_set_ 8 = .ok (.iload_n 1, 1) := by decide +kernel
theorem dX5_set__9 : decode cX5_set_ 9 = .ok (.aload_n 0, 1) := by decide +kernel
theorem dX5_set__10 : decode cX5_set_ 10 = .ok (.arraylength, 1) := by decide +kernel
theorem dX5_set__11 : decode cX5_set_ 11 = .ok (.if_icmp .ge 7, 3) := by decide +kernel
theorem dX5_set__14 : decode cX5_set_ 14 = .ok (.aload_n 0, 1) := by decide +kernel
theorem dX5_set__15 : decode cX5_set_ 15 = .ok (.iload_n 1, 1) := by decide +kernel
theorem dX5_set__16 : decode cX5_set_ 16 = .ok (.lload_n 2, 1) := by decide +kernel
theorem dX5_set__17 : decode cX5_set_ 17 = .ok (.lastore, 1) := by decide +kernel
theorem dX5_set__18 : decode cX5_set_ 18 = .ok (.return_, 1) := by decide +kernel
theorem dX5_copy_0 : decode cX5_copy 0 = .ok (.iconst 0, 1) := by decide +kernel
theorem dX5_copy_1 : decode cX5_copy 1 = .ok (.istore_n 2, 1) := by decide +kernel
theorem dX5_copy_2 : decode cX5_copy 2 = .ok (.iload_n 2, 1) := by decide +kernel
theorem dX5_copy_3 : decode cX5_copy 3 = .ok (.aload_n 0, 1) := by decide +kernel
theorem dX5_copy_4 : decode cX5_copy 4 = .ok (.arraylength, 1) := by decide +kernel
theorem dX5_copy_5 : decode cX5_copy 5 = .ok (.if_icmp .ge 21, 3) := by decide +kernel
theorem dX5_copy_8 : decode cX5_copy 8 = .ok (.iload_n 2, 1) := by decide +kernel
theorem dX5_copy_9 : decode cX5_copy 9 = .ok (.aload_n 1, 1) := by decide +kernel
theorem dX5_copy_10 : decode cX5_copy 10 = .ok (.arraylength, 1) := by decide +kernel
theorem dX5_copy_11 : decode cX5_copy 11 = .ok (.if_icmp .ge 15, 3) := by decide +kernel
theorem dX5_copy_14 : decode cX5_copy 14 = .ok (.aload_n 1, 1) := by decide +kernel
theorem dX5_copy_15 : decode cX5_copy 15 = .ok (.iload_n 2, 1) := by decide +kernel
theorem dX5_copy_16 : decode cX5_copy 16 = .ok (.aload_n 0, 1) := by decide +kernel
theorem dX5_copy_17 : decode cX5_copy 17 = .ok (.iload_n 2, 1) := by decide +kernel
theorem dX5_copy_18 : decode cX5_copy 18 = .ok (.iaload, 1) := by decide +kernel
theorem dX5_copy_19 : decode cX5_copy 19 = .ok (.iastore, 1) := by decide +kernel
theorem dX5_copy_20 : decode cX5_copy 20 = .ok (.iinc 2 1, 3) := by decide +kernel
theorem dX5_copy_23 : decode cX5_copy 23 = .ok (.goto (-21), 3) := by decide +kernel
theorem dX5_copy_26 : decode cX5_copy 26 = .ok (.return_, 1) := by decide +kernel
theorem dX6_in_0 : decode cX6_in 0 = .ok (.lload_n 0, 1) := by decide +kernel
theorem dX6_in_1 : decode cX6_in 1 = .ok (.lload_n 2, 1) := by decide +kernel
theorem dX6_in_2 : decode cX6_in 2 = .ok (.lcmp, 1) := by decide +kernel
theorem dX6_in_3 : decode cX6_in 3 = .ok (.ifCond .lt 14, 3) := by decide +kernel
theorem dX6_in_6 : decode cX6_in 6 = .ok (.lload_n 0, 1) := by decide +kernel
theorem dX6_in_7 : decode cX6_in 7 = .ok (.lload 4, 2) := by decide +kernel
theorem dX6_in_9 : decode cX6_in 9 = .ok (.lcmp, 1) := by decide +kernel
theorem dX6_in_10 : decode cX6_in 10 = .ok (.ifCond .gt 7, 3) := by decide +kernel
theorem dX6_in_13 : decode cX6_in 13 = .ok (.iconst 1, 1) := by decide +kernel
theorem dX6_in_14 : decode cX6_in 14 = .ok (.goto 4, 3) := by decide +kernel
theorem dX6_in_17 : decode cX6_in 17 = .ok (.iconst 0, 1) := by decide +kernel
theorem dX6_in_18 : decode cX6_in 18 = .ok (.ireturn, 1) := by decide +kernel
theorem dX6_init_0 : decode cX6_init 0 = .ok (.aload_n 0, 1) := by decide +kernel
theorem dX6_init_1 : decode cX6_init 1 = .ok (.invokespecial 1, 3) := by decide +kernel
theorem dX6_init_4 : decode cX6_init 4 = .ok (.aload_n 0, 1) := by decide +kernel
theorem dX6_init_5 : decode cX6_init 5 = .ok (.sipush 200, 3) := by decide +kernel
theorem dX6_init_8 : decode cX6_init 8 = .ok (.newarray .int, 2) := by decide +kernel
theorem dX6_init_10 : decode cX6_init 10 = .ok (.putfield 7, 3) := by decide +kernel
theorem dX6_init_13 : decode cX6_init 13 = .ok (.aload_n 0, 1) := by decide +kernel
theorem dX6_init_14 : decode cX6_init 14 = .ok (.sipush 400, 3) := by decide +kernel
theorem dX6_init_17 : decode cX6_init 17 = .ok (.newarray .int, 2) := by decide +kernel
theorem dX6_init_19 : decode cX6_init 19 = .ok (.putfield 13, 3) := by decide +kernel
theorem dX6_init_22 : decode cX6_init 22 = .ok (.aload_n 0, 1) := by decide +kernel
theorem dX6_init_23 : decode cX6_init 23 = .ok (.iconst 2, 1) := by decide +kernel
theorem dX6_init_24 : decode cX6_init 24 = .ok (.newarray .boolean, 2) := by decide +kernel
theorem dX6_init_26 : decode cX6_init 26 = .ok (.putfield 16, 3) := by decide +kernel
theorem dX6_init_29 : decode cX6_init 29 = .ok (.aload_n 0, 1) := by decide +kernel
theorem dX6_init_30 : decode cX6_init 30 = .ok (.iconst 3, 1) := by decide +kernel
theorem dX6_init_31 : decode cX6_init 31 = .ok (.newarray .int, 2) := by decide +kernel
theorem dX6_init_33 : decode cX6_init 33 = .ok (.putfield 20, 3) := by decide +kernel
theorem dX6_init_36 : decode cX6_init 36 = .ok (.aload_n 0, 1) := by decide +kernel
theorem dX6_init_37 : decode cX6_init 37 = .ok (.bipush 84, 2) := by decide +kernel
theorem dX6_init_39 : decode cX6_init 39 = .ok (.newarray .int, 2) := by decide +kernel
theorem dX6_init_41 : decode cX6_init 41 = .ok (.putfield 23, 3) := by decide +kernel
theorem dX6_init_44 : decode cX6_init 44 = .ok (.aload_n 0, 1) := by decide +kernel
theorem dX6_init_45 : decode cX6_init 45 = .ok (.bipush 7, 2) := by decide +kernel
theorem dX6_init_47 : decode cX6_init 47 = .ok (.newarray .int, 2) := by decide +kernel
theorem dX6_init_49 : decode cX6_init 49 = .ok (.putfield 26, 3) := by decide +kernel
theorem dX6_init_52 : decode cX6_init 52 = .ok (.aload_n 0, 1) := by decide +kernel
theorem dX6_init_53 : decode cX6_init 53 = .ok (.bipush 120, 2) := by decide +kernel
theorem dX6_init_55 : decode cX6_init 55 = .ok (.newarray .int, 2) := by decide +kernel
theorem dX6_init_57 : decode cX6_init 57 = .ok (.putfield 29, 3) := by decide +kernel
theorem dX6_init_60 : decode cX6_init 60 = .ok (.aload_n 0, 1) := by decide +kernel
theorem dX6_init_61 : decode cX6_init 61 = .ok (.bipush 120, 2) := by decide +kernel
theorem dX6_init_63 : decode cX6_init 63 = .ok (.newarray .int, 2) := by decide +kernel
theorem dX6_init_65 : decode cX6_init 65 = .ok (.putfield 32, 3) := by decide +kernel
theorem dX6_init_68 : decode cX6_init 68 = .ok (.aload_n 0, 1) := by decide +kernel
theorem dX6_init_69 : decode cX6_init 69 = .ok (.bipush 121, 2) := by decide +kernel
theorem dX6_init_71 : decode cX6_init 71 = .ok (.newarray .int, 2) := by decide +kernel
theorem dX6_init_73 : decode cX6_init 73 = .ok (.putfield 35, 3) := by decide +kernel
theorem dX6_init_76 : decode cX6_init 76 = .ok (.aload_n 0, 1) := by decide +kernel
theorem dX6_init_77 : decode cX6_init 77 = .ok (.sipush 10080, 3) := by decide +kernel
theorem dX6_init_80 : decode cX6_init 80 = .ok (.newarray .int, 2) := by decide +kernel
theorem dX6_init_82 : decode cX6_init 82 = .ok (.putfield 38, 3) := by decide +kernel
theorem dX6_init_85 : decode cX6_init 85 = .ok (.aload_n 0, 1) := by decide +kernel
theorem dX6_init_86 : decode cX6_init 86 = .ok (.sipush 2731, 3) := by decide +kernel
theorem dX6_init_89 : decode cX6_init 89 = .ok (.newarray .long, 2) := by decide +kernel
theorem dX6_init_91 : decode cX6_init 91 = .ok (.putfield 41, 3) := by decide +kernel
theorem dX6_init_94 : decode cX6_init 94 = .ok (.aload_n 0, 1) := by decide +kernel
theorem dX6_init_95 : decode cX6_init 95 = .ok (.iconst 3, 1) := by decide +kernel
theorem dX6_init_96 : decode cX6_init 96 = .ok (.newarray .long, 2) := by decide +kernel
theorem dX6_init_98 : decode cX6_init 98 = .ok (.putfield 45, 3) := by decide +kernel
theorem dX6_init_101 : decode cX6_init 101 = .ok (.aload_n 0, 1) := by decide +kernel
theorem dX6_init_102 : decode cX6_init 102 = .ok (.bipush 21, 2) := by decide +kernel
theorem dX6_init_104 : decode cX6_init 104 = .ok (.newarray .int, 2) := by decide +kernel
theorem dX6_init_106 : decode cX6_init 106 = .ok (.putfield 48, 3) := by decide +kernel
theorem dX6_init_109 : decode cX6_init 109 = .ok (.aload_n 0, 1) := by decide +kernel
theorem dX6_init_110 : decode cX6_init 110 = .ok (.bipush 44, 2) := by decide +kernel
theorem dX6_init_112 : decode cX6_init 112 = .ok (.newarray .long, 2) := by decide +kernel
theorem dX6_init_114 : decode cX6_init 114 = .ok (.putfield 51, 3) := by decide +kernel
theorem dX6_init_117 : decode cX6_init 117 = .ok (.aload_n 0, 1) := by decide +kernel
theorem dX6_init_118 : decode cX6_init 118 = .ok (.getfield 7, 3) := by decide +kernel
theorem dX6_init_121 : decode cX6_init 121 = .ok (.iconst 5, 1) := by decide +kernel
theorem dX6_init_122 : decode cX6_init 122 = .ok (.iconst 5, 1) := by decide +kernel
theorem dX6_init_123 : decode cX6_init 123 = .ok (.iastore, 1) := by decide +kernel
theorem dX6_init_124 : decode cX6_init 124 = .ok (.aload_n 0, 1) := by decide +kernel
theorem dX6_init_125 : decode cX6_init 125 = .ok (.getfield 7, 3) := by decide +kernel
theorem dX6_init_128 : decode cX6_init 128 = .ok (.bipush 6, 2) := by decide +kernel
theorem dX6_init_130 : decode cX6_init 130 = .ok (.bipush 8, 2) := by decide +kernel
theorem dX6_init_132 : decode cX6_init 132 = .ok (.iastore, 1) := by decide +kernel
theorem dX6_init_133 : decode cX6_init 133 = .ok (.aload_n 0, 1) := by decide +kernel
theorem dX6_init_134 : decode cX6_init 134 = .ok (.getfield 7, 3) := by decide +kernel
theorem dX6_init_137 : decode cX6_init 137 = .ok (.bipush 7, 2) := by decide +kernel
theorem dX6_init_139 : decode cX6_init 139 = .ok (.bipush 9, 2) := by decide +kernel
theorem dX6_init_141 : decode cX6_init 141 = .ok (.iastore, 1) := by decide +kernel
theorem dX6_init_142 : decode cX6_init 142 = .ok (.iconst 0, 1) := by decide +kernel
theorem dX6_init_143 : decode cX6_init 143 = .ok (.istore_n 1, 1) := by decide +kernel
theorem dX6_init_144 : decode cX6_init 144 = .ok (.iload_n 1, 1) := by decide +kernel
theorem dX6_init_145 : decode cX6_init 145 = .ok (.bipush 7, 2) := by decide +kernel
theorem dX6_init_147 : decode cX6_init 147 = .ok (.if_icmp .ge 19, 3) := by decide +kernel
theorem dX6_init_150 : decode cX6_init 150 = .ok (.aload_n 0, 1) := by decide +kernel
theorem dX6_init_151 : decode cX6_init 151 = .ok (.getfield 7, 3) := by decide +kernel
theorem dX6_init_154 : decode cX6_init 154 = .ok (.bipush 8, 2) := by decide +kernel
theorem dX6_init_156 : decode cX6_init 156 = .ok (.iload_n 1, 1) := by decide +kernel
theorem dX6_init_157 : decode cX6_init 157 = .ok (.iadd, 1) := by decide +kernel
theorem dX6_init_158 : decode cX6_init 158 = .ok (.iconst 1, 1) := by decide +kernel
theorem dX6_init_159 : decode cX6_init 159 = .ok (.iastore, 1) := by decide +kernel
theorem dX6_init_160 : decode cX6_init 160 = .ok (.iinc 1 1, 3) := by decide +kernel
theorem dX6_init_163 : decode cX6_init 163 = .ok (.goto (-19), 3) := by decide +kernel
theorem dX6_init_166 : decode cX6_init 166 = .ok (.iconst 0, 1) := by decide +kernel
theorem dX6_init_167 : decode cX6_init 167 = .ok (.istore_n 1, 1) := by decide +kernel
theorem dX6_init_168 : decode cX6_init 168 = .ok (.iload_n 1, 1) := by decide +kernel
theorem dX6_init_169 : decode cX6_init 169 = .ok (.iconst 4, 1) := by decide +kernel
theorem dX6_init_170 : decode cX6_init 170 = .ok (.if_icmp .ge 19, 3) := by decide +kernel
theorem dX6_init_173 : decode cX6_init 173 = .ok (.aload_n 0, 1) := by decide +kernel
theorem dX6_init_174 : decode cX6_init 174 = .ok (.getfield 7, 3) := by decide +kernel
theorem dX6_init_177 : decode cX6_init 177 = .ok (.bipush 15, 2) := by decide +kernel
theorem dX6_init_179 : decode cX6_init 179 = .ok (.iload_n 1, 1) := by decide +kernel
theorem dX6_init_180 : decode cX6_init 180 = .ok (.iadd, 1) := by decide +kernel
theorem dX6_init_181 : decode cX6_init 181 = .ok (.iconst (-1), 1) := by decide +kernel
theorem dX6_init_182 : decode cX6_init 182 = .ok (.iastore, 1) := by decide +kernel
theorem dX6_init_183 : decode cX6_init 183 = .ok (.iinc 1 1, 3) := by decide +kernel
theorem dX6_init_186 : decode cX6_init 186 = .ok (.goto (-18), 3) := by decide +kernel
theorem dX6_init_189 : decode cX6_init 189 = .ok (.aload_n 0, 1) := by decide +kernel
theorem dX6_init_190 : decode cX6_init 190 = .ok (.iconst 1, 1) := by decide +kernel
theorem dX6_init_191 : decode cX6_init 191 = .ok (.lconst 1, 1) := by decide +kernel
theorem dX6_init_192 : decode cX6_init 192 = .ok (.invokevirtual 54, 3) := by decide +kernel
theorem dX6_init_195 : decode cX6_init 195 = .ok (.return_, 1) := by decide +kernel
theorem dX6_refuses_0 : decode cX6_refuses 0 = .ok (.aload_n 0, 1) := by decide +kernel
theorem dX6_refuses_1 : decode cX6_refuses 1 = .ok (.getfield 20, 3) := by decide +kernel
theorem dX6_refuses_4 : decode cX6_refuses 4 = .ok (.iload_n 1, 1) := by decide +kernel
theorem dX6_refuses_5 : decode cX6_refuses 5 = .ok (.dup2, 1) := by decide +kernel
theorem dX6_refuses_6 : decode cX6_refuses 6 = .ok (.iaload, 1) := by decide +kernel
theorem dX6_refuses_7 : decode cX6_refuses 7 = .ok (.iconst 1, 1) := by decide +kernel
theorem dX6_refuses_8 : decode cX6_refuses 8 = .ok (.iadd, 1) := by decide +kernel
theorem dX6_refuses_9 : decode cX6_refuses 9 = .ok (.iastore, 1) := by decide +kernel
theorem dX6_refuses_10 : decode cX6_refuses 10 = .ok (.iload_n 2, 1) := by decide +kernel
theorem dX6_refuses_11 : decode cX6_refuses 11 = .ok (.ireturn, 1) := by decide +kernel
theorem dX6_bad_0 : decode cX6_bad 0 = .ok (.aload_n 0, 1) := by decide +kernel
theorem dX6_bad_1 : decode cX6_bad 1 = .ok (.iconst 0, 1) := by decide +kernel
theorem dX6_bad_2 : decode cX6_bad 2 = .ok (.bipush (-2), 2) := by decide +kernel
theorem dX6_bad_4 : decode cX6_bad 4 = .ok (.invokevirtual 58, 3) := by decide +kernel
theorem dX6_bad_7 : decode cX6_bad 7 = .ok (.ireturn, 1) := by decide +kernel
theorem dX6_no_0 : decode cX6_no 0 = .ok (.aload_n 0, 1) := by decide +kernel
theorem dX6_no_1 : decode cX6_no 1 = .ok (.iconst 1, 1) := by decide +kernel
theorem dX6_no_2 : decode cX6_no 2 = .ok (.bipush (-3), 2) := by decide +kernel
theorem dX6_no_4 : decode cX6_no 4 = .ok (.invokevirtual 58, 3) := by decide +kernel
theorem dX6_no_7 : decode cX6_no 7 = .ok (.ireturn, 1) := by decide +kernel
theorem dX6_full_0 : decode cX6_full 0 = .ok (.aload_n 0, 1) := by decide +kernel
theorem dX6_full_1 : decode cX6_full 1 = .ok (.iconst 2, 1) := by decide +kernel
theorem dX6_full_2 : decode cX6_full 2 = .ok (.bipush (-4), 2) := by decide +kernel
theorem dX6_full_4 : decode cX6_full 4 = .ok (.invokevirtual 58, 3) := by decide +kernel
theorem dX6_full_7 : decode cX6_full 7 = .ok (.ireturn, 1) := by decide +kernel
theorem dX6_trims_0 : decode cX6_trims 0 = .ok (.aload_n 0, 1) := by decide +kernel
theorem dX6_trims_1 : decode cX6_trims 1 = .ok (.getfield 26, 3) := by decide +kernel
theorem dX6_trims_4 : decode cX6_trims 4 = .ok (.iload_n 1, 1) := by decide +kernel
theorem dX6_trims_5 : decode cX6_trims 5 = .ok (.iaload, 1) := by decide +kernel
theorem dX6_trims_6 : decode cX6_trims 6 = .ok (.ifCond .le 37, 3) := by decide +kernel
theorem dX6_trims_9 : decode cX6_trims 9 = .ok (.aload_n 0, 1) := by decide +kernel
theorem dX6_trims_10 : decode cX6_trims 10 = .ok (.getfield 23, 3) := by decide +kernel
theorem dX6_trims_13 : decode cX6_trims 13 = .ok (.bipush 12, 2) := by decide +kernel
theorem dX6_trims_15 : decode cX6_trims 15 = .ok (.iload_n 1, 1) := by decide +kernel
theorem dX6_trims_16 : decode cX6_trims 16 = .ok (.imul, 1) := by decide +kernel
theorem dX6_trims_17 : decode cX6_trims 17 = .ok (.aload_n 0, 1) := by decide +kernel
theorem dX6_trims_18 : decode cX6_trims 18 = .ok (.getfield 26, 3) := by decide +kernel
theorem dX6_trims_21 : decode cX6_trims 21 = .ok (.iload_n 1, 1) := by decide +kernel
theorem dX6_trims_22 : decode cX6_trims 22 = .ok (.iaload, 1) := by decide +kernel
theorem dX6_trims_23 : decode cX6_trims 23 = .ok (.iadd, 1) := by decide +kernel
theorem dX6_trims_24 : decode cX6_trims 24 = .ok (.iconst 1, 1) := by decide +kernel
theorem dX6_trims_25 : decode cX6_trims 25 = .ok (.isub, 1) := by decide +kernel
theorem dX6_trims_26 : decode cX6_trims 26 = .ok (.iaload, 1) := by decide +kernel
theorem dX6_trims_27 : decode cX6_trims 27 = .ok (.ifCond .ne 16, 3) := by decide +kernel
theorem dX6_trims_30 : decode cX6_trims 30 = .ok (.aload_n 0, 1) := by decide +kernel
theorem dX6_trims_31 : decode cX6_trims 31 = .ok (.getfield 26, 3) := by decide +kernel
theorem dX6_trims_34 : decode cX6_trims 34 = .ok (.iload_n 1, 1) := by decide +kernel
theorem dX6_trims_35 : decode cX6_trims 35 = .ok (.dup2, 1) := by decide +kernel
theorem dX6_trims_36 : decode cX6_trims 36 = .ok (.iaload, 1) := by decide +kernel
theorem dX6_trims_37 : decode cX6_trims 37 = .ok (.iconst 1, 1) := by decide +kernel
theorem dX6_trims_38 : decode cX6_trims 38 = .ok (.isub, 1) := by decide +kernel
theorem dX6_trims_39 : decode cX6_trims 39 = .ok (.iastore, 1) := by decide +kernel
theorem dX6_trims_40 : decode cX6_trims 40 = .ok (.goto (-40), 3) := by decide +kernel
theorem dX6_trims_43 : decode cX6_trims 43 = .ok (.return_, 1) := by decide +kernel
theorem dX6_sets_0 : decode cX6_sets 0 = .ok (.iconst 0, 1) := by decide +kernel
theorem dX6_sets_1 : decode cX6_sets 1 = .ok (.istore 4, 2) := by decide +kernel
theorem dX6_sets_3 : decode cX6_sets 3 = .ok (.iload 4, 2) := by decide +kernel
theorem dX6_sets_5 : decode cX6_sets 5 = .ok (.bipush 12, 2) := by decide +kernel
theorem dX6_sets_7 : decode cX6_sets 7 = .ok (.if_icmp .ge 43, 3) := by decide +kernel
theorem dX6_sets_10 : decode cX6_sets 10 = .ok (.aload_n 0, 1) := by decide +kernel
theorem dX6_sets_11 : decode cX6_sets 11 = .ok (.getfield 23, 3) := by decide +kernel
theorem dX6_sets_14 : decode cX6_sets 14 = .ok (.bipush 12, 2) := by decide +kernel
theorem dX6_sets_16 : decode cX6_sets 16 = .ok (.iload_n 1, 1) := by decide +kernel
theorem dX6_sets_17 : decode cX6_sets 17 = .ok (.imul, 1) := by decide +kernel
theorem dX6_sets_18 : decode cX6_sets 18 = .ok (.iload 4, 2) := by decide +kernel
theorem dX6_sets_20 : decode cX6_sets 20 = .ok (.iadd, 1) := by decide +kernel
theorem dX6_sets_21 : decode cX6_sets 21 = .ok (.iload 4, 2) := by decide +kernel
theorem dX6_sets_23 : decode cX6_sets 23 = .ok (.iconst 3, 1) := by decide +kernel
theorem dX6_sets_24 : decode cX6_sets 24 = .ok (.if_icmp .ge 18, 3) := by decide +kernel
theorem dX6_sets_27 : decode cX6_sets 27 = .ok (.lload_n 2, 1) := by decide +kernel
theorem dX6_sets_28 : decode cX6_sets 28 = .ok (.bipush 30, 2) := by decide +kernel
theorem dX6_sets_30 : decode cX6_sets 30 = .ok (.iload 4, 2) := by decide +kernel
theorem dX6_sets_32 : decode cX6_sets 32 = .ok (.imul, 1) := by decide +kernel
theorem dX6_sets_33 : decode cX6_sets 33 = .ok (.lshr, 1) := by decide +kernel
theorem dX6_sets_34 : decode cX6_sets 34 = .ok (.ldc2_w 62, 3) := by decide +kernel
theorem dX6_sets_37 : decode cX6_sets 37 = .ok (.land, 1) := by decide +kernel
theorem dX6_sets_38 : decode cX6_sets 38 = .ok (.l2i, 1) := by decide +kernel
theorem dX6_sets_39 : decode cX6_sets 39 = .ok (.goto 4, 3) := by decide +kernel
theorem dX6_sets_42 : decode cX6_sets 42 = .ok (.iconst 0, 1) := by decide +kernel
theorem dX6_sets_43 : decode cX6_sets 43 = .ok (.iastore, 1) := by decide +kernel
theorem dX6_sets_44 : decode cX6_sets 44 = .ok (.iinc 4 1, 3) := by decide +kernel
theorem dX6_sets_47 : decode cX6_sets 47 = .ok (.goto (-44), 3) := by decide +kernel
theorem dX6_sets_50 : decode cX6_sets 50 = .ok (.aload_n 0, 1) := by decide +kernel
theorem dX6_sets_51 : decode cX6_sets 51 = .ok (.getfield 26, 3) := by decide +kernel
theorem dX6_sets_54 : decode cX6_sets 54 = .ok (.iload_n 1, 1) := by decide +kernel
theorem dX6_sets_55 : decode cX6_sets 55 = .ok (.iconst 3, 1) := by decide +kernel
theorem dX6_sets_56 : decode cX6_sets 56 = .ok (.iastore, 1) := by decide +kernel
theorem dX6_sets_57 : decode cX6_sets 57 = .ok (.aload_n 0, 1) := by decide +kernel
theorem dX6_sets_58 : decode cX6_sets 58 = .ok (.iload_n 1, 1) := by decide +kernel
theorem dX6_sets_59 : decode cX6_sets 59 = .ok (.invokevirtual 64, 3) := by decide +kernel
theorem dX6_sets_62 : decode cX6_sets 62 = .ok (.return_, 1) := by decide +kernel
theorem dX6_copies_0 : decode cX6_copies 0 = .ok (.iconst 0, 1) := by decide +kernel
theorem dX6_copies_1 : decode cX6_copies 1 = .ok (.istore_n 3, 1) := by decide +kernel
theorem dX6_copies_2 : decode cX6_copies 2 = .ok (.iload_n 3, 1) := by decide +kernel
theorem dX6_copies_3 : decode cX6_copies 3 = .ok (.bipush 12, 2) := by decide +kernel
theorem dX6_copies_5 : decode cX6_copies 5 = .ok (.if_icmp .ge 31, 3) := by decide +kernel
theorem dX6_copies_8 : decode cX6_copies 8 = .ok (.aload_n 0, 1) := by decide +kernel
theorem dX6_copies_9 : decode cX6_copies 9 = .ok (.getfield 23, 3) := by decide +kernel
theorem dX6_copies_12 : decode cX6_copies 12 = .ok (.bipush 12, 2) := by decide +kernel
theorem dX6_copies_14 : decode cX6_copies 14 = .ok (.iload_n 1, 1) := by decide +kernel
theorem dX6_copies_15 : decode cX6_copies 15 = .ok (.imul, 1) := by decide +kernel
theorem dX6_copies_16 : decode cX6_copies 16 = .ok (.iload_n 3, 1) := by decide +kernel
theorem dX6_copies_17 : decode cX6_copies 17 = .ok (.iadd, 1) := by decide +kernel
theorem dX6_copies_18 : decode cX6_copies 18 = .ok (.aload_n 0, 1) := by decide +kernel
theorem dX6_copies_19 : decode cX6_copies 19 = .ok (.getfield 23, 3) := by decide +kernel
theorem dX6_copies_22 : decode cX6_copies 22 = .ok (.bipush 12, 2) := by decide +kernel
theorem dX6_copies_24 : decode cX6_copies 24 = .ok (.iload_n 2, 1) := by decide +kernel
theorem dX6_copies_25 : decode cX6_copies 25 = .ok (.imul, 1) := by decide +kernel
theorem dX6_copies_26 : decode cX6_copies 26 = .ok (.iload_n 3, 1) := by decide +kernel
theorem dX6_copies_27 : decode cX6_copies 27 = .ok (.iadd, 1) := by decide +kernel
theorem dX6_copies_28 : decode cX6_copies 28 = .ok (.iaload, 1) := by decide +kernel
theorem dX6_copies_29 : decode cX6_copies 29 = .ok (.iastore, 1) := by decide +kernel
theorem dX6_copies_30 : decode cX6_copies 30 = .ok (.iinc 3 1, 3) := by decide +kernel
theorem dX6_copies_33 : decode cX6_copies 33 = .ok (.goto (-31), 3) := by decide +kernel
theorem dX6_copies_36 : decode cX6_copies 36 = .ok (.aload_n 0, 1) := by decide +kernel
theorem dX6_copies_37 : decode cX6_copies 37 = .ok (.getfield 26, 3) := by decide +kernel
theorem dX6_copies_40 : decode cX6_copies 40 = .ok (.iload_n 1, 1) := by decide +kernel
theorem dX6_copies_41 : decode cX6_copies 41 = .ok (.aload_n 0, 1) := by decide +kernel
theorem dX6_copies_42 : decode cX6_copies 42 = .ok (.getfield 26, 3) := by decide +kernel
theorem dX6_copies_45 : decode cX6_copies 45 = .ok (.iload_n 2, 1) := by decide +kernel
theorem dX6_copies_46 : decode cX6_copies 46 = .ok (.iaload, 1) := by decide +kernel
theorem dX6_copies_47 : decode cX6_copies 47 = .ok (.iastore, 1) := by decide +kernel
theorem dX6_copies_48 : decode cX6_copies 48 = .ok (.return_, 1) := by decide +kernel
theorem dX6_times_0 : decode cX6_times 0 = .ok (.lconst 0, 1) := by decide +kernel
theorem dX6_times_1 : decode cX6_times 1 = .ok (.lstore_n 3, 1) := by decide +kernel
theorem dX6_times_2 : decode cX6_times 2 = .ok (.iconst 0, 1) := by decide +kernel
theorem dX6_times_3 : decode cX6_times 3 = .ok (.istore 5, 2) := by decide +kernel
theorem dX6_times_5 : decode cX6_times 5 = .ok (.iload 5, 2) := by decide +kernel
theorem dX6_times_7 : decode cX6_times 7 = .ok (.aload_n 0, 1) := by decide +kernel
theorem dX6_times_8 : decode cX6_times 8 = .ok (.getfield 26, 3) := by decide +kernel
theorem dX6_times_11 : decode cX6_times 11 = .ok (.iload_n 1, 1) := by decide +kernel
theorem dX6_times_12 : decode cX6_times 12 = .ok (.iaload, 1) := by decide +kernel
theorem dX6_times_13 : decode cX6_times 13 = .ok (.if_icmp .ge 54, 3) := by decide +kernel
theorem dX6_times_16 : decode cX6_times 16 = .ok (.aload_n 0, 1) := by decide +kernel
theorem dX6_times_17 : decode cX6_times 17 = .ok (.getfield 23, 3) := by decide +kernel
theorem dX6_times_20 : decode cX6_times 20 = .ok (.bipush 12, 2) := by decide +kernel
theorem dX6_times_22 : decode cX6_times 22 = .ok (.iload_n 1, 1) := by decide +kernel
theorem dX6_times_23 : decode cX6_times 23 = .ok (.imul, 1) := by decide +kernel
theorem dX6_times_24 : decode cX6_times 24 = .ok (.iload 5, 2) := by decide +kernel
theorem dX6_times_26 : decode cX6_times 26 = .ok (.iadd, 1) := by decide +kernel
theorem dX6_times_27 : decode cX6_times 27 = .ok (.iaload, 1) := by decide +kernel
theorem dX6_times_28 : decode cX6_times 28 = .ok (.i2l, 1) := by decide +kernel
theorem dX6_times_29 : decode cX6_times 29 = .ok (.iload_n 2, 1) := by decide +kernel
theorem dX6_times_30 : decode cX6_times 30 = .ok (.i2l, 1) := by decide +kernel
theorem dX6_times_31 : decode cX6_times 31 = .ok (.lmul, 1) := by decide +kernel
theorem dX6_times_32 : decode cX6_times 32 = .ok (.lload_n 3, 1) := by decide +kernel
theorem dX6_times_33 : decode cX6_times 33 = .ok (.ladd, 1) := by decide +kernel
theorem dX6_times_34 : decode cX6_times 34 = .ok (.lstore 6, 2) := by decide +kernel
theorem dX6_times_36 : decode cX6_times 36 = .ok (.aload_n 0, 1) := by decide +kernel
theorem dX6_times_37 : decode cX6_times 37 = .ok (.getfield 23, 3) := by decide +kernel
theorem dX6_times_40 : decode cX6_times 40 = .ok (.bipush 12, 2) := by decide +kernel
theorem dX6_times_42 : decode cX6_times 42 = .ok (.iload_n 1, 1) := by decide +kernel
theorem dX6_times_43 : decode cX6_times 43 = .ok (.imul, 1) := by decide +kernel
theorem dX6_times_44 : decode cX6_times 44 = .ok (.iload 5, 2) := by decide +kernel
theorem dX6_times_46 : decode cX6_times 46 = .ok (.iadd, 1) := by decide +kernel
theorem dX6_times_47 : decode cX6_times 47 = .ok (.lload 6, 2) := by decide +kernel
theorem dX6_times_49 : decode cX6_times 49 = .ok (.ldc2_w 62, 3) := by decide +kernel
theorem dX6_times_52 : decode cX6_times 52 = .ok (.land, 1) := by decide +kernel
theorem dX6_times_53 : decode cX6_times 53 = .ok (.l2i, 1) := by decide +kernel
theorem dX6_times_54 : decode cX6_times 54 = .ok (.iastore, 1) := by decide +kernel
theorem dX6_times_55 : decode cX6_times 55 = .ok (.lload 6, 2) := by decide +kernel
theorem dX6_times_57 : decode cX6_times 57 = .ok (.bipush 30, 2) := by decide +kernel
theorem dX6_times_59 : decode cX6_times 59 = .ok (.lshr, 1) := by decide +kernel
theorem dX6_times_60 : decode cX6_times 60 = .ok (.lstore_n 3, 1) := by decide +kernel
theorem dX6_times_61 : decode cX6_times 61 = .ok (.iinc 5 1, 3) := by decide +kernel
theorem dX6_times_64 : decode cX6_times 64 = .ok (.goto (-59), 3) := by decide +kernel
theorem dX6_times_67 : decode cX6_times 67 = .ok (.lload_n 3, 1) := by decide +kernel
theorem dX6_times_68 : decode cX6_times 68 = .ok (.lconst 0, 1) := by decide +kernel
theorem dX6_times_69 : decode cX6_times 69 = .ok (.lcmp, 1) := by decide +kernel
theorem dX6_times_70 : decode cX6_times 70 = .ok (.ifCond .le 31, 3) := by decide +kernel
theorem dX6_times_73 : decode cX6_times 73 = .ok (.aload_n 0, 1) := by decide +kernel
theorem dX6_times_74 : decode cX6_times 74 = .ok (.getfield 23, 3) := by decide +kernel
theorem dX6_times_77 : decode cX6_times 77 = .ok (.bipush 12, 2) := by decide +kernel
theorem dX6_times_79 : decode cX6_times 79 = .ok (.iload_n 1, 1) := by decide +kernel
theorem dX6_times_80 : decode cX6_times 80 = .ok (.imul, 1) := by decide +kernel
theorem dX6_times_81 : decode cX6_times 81 = .ok (.aload_n 0, 1) := by decide +kernel
theorem dX6_times_82 : decode cX6_times 82 = .ok (.getfield 26, 3) := by decide +kernel
theorem dX6_times_85 : decode cX6_times 85 = .ok (.iload_n 1, 1) := by decide +kernel
theorem dX6_times_86 : decode cX6_times 86 = .ok (.iaload, 1) := by decide +kernel
theorem dX6_times_87 : decode cX6_times 87 = .ok (.iadd, 1) := by decide +kernel
theorem dX6_times_88 : decode cX6_times 88 = .ok (.lload_n 3, 1) := by decide +kernel
theorem dX6_times_89 : decode cX6_times 89 = .ok (.l2i, 1) := by decide +kernel
theorem dX6_times_90 : decode cX6_times 90 = .ok (.iastore, 1) := by decide +kernel
theorem dX6_times_91 : decode cX6_times 91 = .ok (.aload_n 0, 1) := by decide +kernel
theorem dX6_times_92 : decode cX6_times 92 = .ok (.getfield 26, 3) := by decide +kernel
theorem dX6_times_95 : decode cX6_times 95 = .ok (.iload_n 1, 1) := by decide +kernel
theorem dX6_times_96 : decode cX6_times 96 = .ok (.dup2, 1) := by decide +kernel
theorem dX6_times_97 : decode cX6_times 97 = .ok (.iaload, 1) := by decide +kernel
theorem dX6_times_98 : decode cX6_times 98 = .ok (.iconst 1, 1) := by decide +kernel
theorem dX6_times_99 : decode cX6_times 99 = .ok (.iadd, 1) := by decide +kernel
theorem dX6_times_100 : decode cX6_times 100 = .ok (.iastore, 1) := by decide +kernel
theorem dX6_times_101 : decode cX6_times 101 = .ok (.aload_n 0, 1) := by decide +kernel
theorem dX6_times_102 : decode cX6_times 102 = .ok (.iload_n 1, 1) := by decide +kernel
theorem dX6_times_103 : decode cX6_times 103 = .ok (.invokevirtual 64, 3) := by decide +kernel
theorem dX6_times_106 : decode cX6_times 106 = .ok (.return_, 1) := by decide +kernel
theorem dX6_adds_0 : decode cX6_adds 0 = .ok (.iconst 0, 1) := by decide +kernel
theorem dX6_adds_1 : decode cX6_adds 1 = .ok (.istore_n 3, 1) := by decide +kernel
theorem dX6_adds_2 : decode cX6_adds 2 = .ok (.aload_n 0, 1) := by decide +kernel
theorem dX6_adds_3 : decode cX6_adds 3 = .ok (.getfield 26, 3) := by decide +kernel
theorem dX6_adds_6 : decode cX6_adds 6 = .ok (.iload_n 1, 1) := by decide +kernel
theorem dX6_adds_7 : decode cX6_adds 7 = .ok (.iaload, 1) := by decide +kernel
theorem dX6_adds_8 : decode cX6_adds 8 = .ok (.aload_n 0, 1) := by decide +kernel
theorem dX6_adds_9 : decode cX6_adds 9 = .ok (.getfield 26, 3) := by decide +kernel
theorem dX6_adds_12 : decode cX6_adds 12 = .ok (.iload_n 2, 1) := by decide +kernel
theorem dX6_adds_13 : decode cX6_adds 13 = .ok (.iaload, 1) := by decide +kernel
theorem dX6_adds_14 : decode cX6_adds 14 = .ok (.if_icmp .le 12, 3) := by decide +kernel
theorem dX6_adds_17 : decode cX6_adds 17 = .ok (.aload_n 0, 1) := by decide +kernel
theorem dX6_adds_18 : decode cX6_adds 18 = .ok (.getfield 26, 3) := by decide +kernel
theorem dX6_adds_21 : decode cX6_adds 21 = .ok (.iload_n 1, 1) := by decide +kernel
theorem dX6_adds_22 : decode cX6_adds 22 = .ok (.iaload, 1) := by decide +kernel
theorem dX6_adds_23 : decode cX6_adds 23 = .ok (.goto 9, 3) := by decide +kernel
theorem dX6_adds_26 : decode cX6_adds 26 = .ok (.aload_n 0, 1) := by decide +kernel
theorem dX6_adds_27 : decode cX6_adds 27 = .ok (.getfield 26, 3) := by decide +kernel
theorem dX6_adds_30 : decode cX6_adds 30 = .ok (.iload_n 2, 1) := by decide +kernel
theorem dX6_adds_31 : decode cX6_adds 31 = .ok (.iaload, 1) := by decide +kernel
theorem dX6_adds_32 : decode cX6_adds 32 = .ok (.istore 4, 2) := by decide +kernel
theorem dX6_adds_34 : decode cX6_adds 34 = .ok (.iconst 0, 1) := by decide +kernel
theorem dX6_adds_35 : decode cX6_adds 35 = .ok (.istore 5, 2) := by decide +kernel
theorem dX6_adds_37 : decode cX6_adds 37 = .ok (.iload 5, 2) := by decide +kernel
theorem dX6_adds_39 : decode cX6_adds 39 = .ok (.iload 4, 2) := by decide +kernel
theorem dX6_adds_41 : decode cX6_adds 41 = .ok (.if_icmp .ge 61, 3) := by decide +kernel
theorem dX6_adds_44 : decode cX6_adds 44 = .ok (.aload_n 0, 1) := by decide +kernel
theorem dX6_adds_45 : decode cX6_adds 45 = .ok (.getfield 23, 3) := by decide +kernel
theorem dX6_adds_48 : decode cX6_adds 48 = .ok (.bipush 12, 2) := by decide +kernel
theorem dX6_adds_50 : decode cX6_adds 50 = .ok (.iload_n 1, 1) := by decide +kernel
theorem dX6_adds_51 : decode cX6_adds 51 = .ok (.imul, 1) := by decide +kernel
theorem dX6_adds_52 : decode cX6_adds 52 = .ok (.iload 5, 2) := by decide +kernel
theorem dX6_adds_54 : decode cX6_adds 54 = .ok (.iadd, 1) := by decide +kernel
theorem dX6_adds_55 : decode cX6_adds 55 = .ok (.iaload, 1) := by decide +kernel
theorem dX6_adds_56 : decode cX6_adds 56 = .ok (.aload_n 0, 1) := by decide +kernel
theorem dX6_adds_57 : decode cX6_adds 57 = .ok (.getfield 23, 3) := by decide +kernel
theorem dX6_adds_60 : decode cX6_adds 60 = .ok (.bipush 12, 2) := by decide +kernel
theorem dX6_adds_62 : decode cX6_adds 62 = .ok (.iload_n 2, 1) := by decide +kernel
theorem dX6_adds_63 : decode cX6_adds 63 = .ok (.imul, 1) := by decide +kernel
theorem dX6_adds_64 : decode cX6_adds 64 = .ok (.iload 5, 2) := by decide +kernel
theorem dX6_adds_66 : decode cX6_adds 66 = .ok (.iadd, 1) := by decide +kernel
theorem dX6_adds_67 : decode cX6_adds 67 = .ok (.iaload, 1) := by decide +kernel
theorem dX6_adds_68 : decode cX6_adds 68 = .ok (.iadd, 1) := by decide +kernel
theorem dX6_adds_69 : decode cX6_adds 69 = .ok (.iload_n 3, 1) := by decide +kernel
theorem dX6_adds_70 : decode cX6_adds 70 = .ok (.iadd, 1) := by decide +kernel
theorem dX6_adds_71 : decode cX6_adds 71 = .ok (.istore 6, 2) := by decide +kernel
theorem dX6_adds_73 : decode cX6_adds 73 = .ok (.aload_n 0, 1) := by decide +kernel
theorem dX6_adds_74 : decode cX6_adds 74 = .ok (.getfield 23, 3) := by decide +kernel
theorem dX6_adds_77 : decode cX6_adds 77 = .ok (.bipush 12, 2) := by decide +kernel
theorem dX6_adds_79 : decode cX6_adds 79 = .ok (.iload_n 1, 1) := by decide +kernel
theorem dX6_adds_80 : decode cX6_adds 80 = .ok (.imul, 1) := by decide +kernel
theorem dX6_adds_81 : decode cX6_adds 81 = .ok (.iload 5, 2) := by decide +kernel
theorem dX6_adds_83 : decode cX6_adds 83 = .ok (.iadd, 1) := by decide +kernel
theorem dX6_adds_84 : decode cX6_adds 84 = .ok (.iload 6, 2) := by decide +kernel
theorem dX6_adds_86 : decode cX6_adds 86 = .ok (.ldc 72, 2) := by decide +kernel
theorem dX6_adds_88 : decode cX6_adds 88 = .ok (.iand, 1) := by decide +kernel
theorem dX6_adds_89 : decode cX6_adds 89 = .ok (.iastore, 1) := by decide +kernel
theorem dX6_adds_90 : decode cX6_adds 90 = .ok (.iload 6, 2) := by decide +kernel
theorem dX6_adds_92 : decode cX6_adds 92 = .ok (.bipush 30, 2) := by decide +kernel
theorem dX6_adds_94 : decode cX6_adds 94 = .ok (.iushr, 1) := by decide +kernel
theorem dX6_adds_95 : decode cX6_adds 95 = .ok (.istore_n 3, 1) := by decide +kernel
theorem dX6_adds_96 : decode cX6_adds 96 = .ok (.iinc 5 1, 3) := by decide +kernel
theorem dX6_adds_99 : decode cX6_adds 99 = .ok (.goto (-62), 3) := by decide +kernel
theorem dX6_adds_102 : decode cX6_adds 102 = .ok (.aload_n 0, 1) := by decide +kernel
theorem dX6_adds_103 : decode cX6_adds 103 = .ok (.getfield 23, 3) := by decide +kernel
theorem dX6_adds_106 : decode cX6_adds 106 = .ok (.bipush 12, 2) := by decide +kernel
theorem dX6_adds_108 : decode cX6_adds 108 = .ok (.iload_n 1, 1) := by decide +kernel
theorem dX6_adds_109 : decode cX6_adds 109 = .ok (.imul, 1) := by decide +kernel
theorem dX6_adds_110 : decode cX6_adds 110 = .ok (.iload 4, 2) := by decide +kernel
theorem dX6_adds_112 : decode cX6_adds 112 = .ok (.iadd, 1) := by decide +kernel
theorem dX6_adds_113 : decode cX6_adds 113 = .ok (.iload_n 3, 1) := by decide +kernel
theorem dX6_adds_114 : decode cX6_adds 114 = .ok (.iastore, 1) := by decide +kernel
theorem dX6_adds_115 : decode cX6_adds 115 = .ok (.aload_n 0, 1) := by decide +kernel
theorem dX6_adds_116 : decode cX6_adds 116 = .ok (.getfield 26, 3) := by decide +kernel
theorem dX6_adds_119 : decode cX6_adds 119 = .ok (.iload_n 1, 1) := by decide +kernel
theorem dX6_adds_120 : decode cX6_adds 120 = .ok (.iload 4, 2) := by decide +kernel
theorem dX6_adds_122 : decode cX6_adds 122 = .ok (.iload_n 3, 1) := by decide +kernel
theorem dX6_adds_123 : decode cX6_adds 123 = .ok (.iadd, 1) := by decide +kernel
theorem dX6_adds_124 : decode cX6_adds 124 = .ok (.iastore, 1) := by decide +kernel
theorem dX6_adds_125 : decode cX6_adds 125 = .ok (.aload_n 0, 1) := by decide +kernel
theorem dX6_adds_126 : decode cX6_adds 126 = .ok (.iload_n 1, 1) := by decide +kernel
theorem dX6_adds_127 : decode cX6_adds 127 = .ok (.invokevirtual 64, 3) := by decide +kernel
theorem dX6_adds_130 : decode cX6_adds 130 = .ok (.return_, 1) := by decide +kernel
theorem dX6_lessens_0 : decode cX6_lessens 0 = .ok (.iconst 0, 1) := by decide +kernel
theorem dX6_lessens_1 : decode cX6_lessens 1 = .ok (.istore_n 3, 1) := by decide +kernel
theorem dX6_lessens_2 : decode cX6_lessens 2 = .ok (.iconst 0, 1) := by decide +kernel
theorem dX6_lessens_3 : decode cX6_lessens 3 = .ok (.istore 4, 2) := by decide +kernel
theorem dX6_lessens_5 : decode cX6_lessens 5 = .ok (.iload 4, 2) := by decide +kernel
theorem dX6_lessens_7 : decode cX6_lessens 7 = .ok (.aload_n 0, 1) := by decide +kernel
theorem dX6_lessens_8 : decode cX6_lessens 8 = .ok (.getfield 26, 3) := by decide +kernel
theorem dX6_lessens_11 : decode cX6_lessens 11 = .ok (.iload_n 1, 1) := by decide +kernel
theorem dX6_lessens_12 : decode cX6_lessens 12 = .ok (.iaload, 1) := by decide +kernel
theorem dX6_lessens_13 : decode cX6_lessens 13 = .ok (.if_icmp .ge 66, 3) := by decide +kernel
theorem dX6_lessens_16 : decode cX6_lessens 16 = .ok (.aload_n 0, 1) := by decide +kernel
theorem dX6_lessens_17 : decode cX6_lessens 17 = .ok (.getfield 23, 3) := by decide +kernel
theorem dX6_lessens_20 : decode cX6_lessens 20 = .ok (.bipush 12, 2) := by decide +kernel
theorem dX6_lessens_22 : decode cX6_lessens 22 = .ok (.iload_n 1, 1) := by decide +kernel
theorem dX6_lessens_23 : decode cX6_lessens 23 = .ok (.imul, 1) := by decide +kernel
theorem dX6_lessens_24 : decode cX6_lessens 24 = .ok (.iload 4, 2) := by decide +kernel
theorem dX6_lessens_26 : decode cX6_lessens 26 = .ok (.iadd, 1) := by decide +kernel
theorem dX6_lessens_27 : decode cX6_lessens 27 = .ok (.iaload, 1) := by decide +kernel
theorem dX6_lessens_28 : decode cX6_lessens 28 = .ok (.aload_n 0, 1) := by decide +kernel
theorem dX6_lessens_29 : decode cX6_lessens 29 = .ok (.getfield 23, 3) := by decide +kernel
theorem dX6_lessens_32 : decode cX6_lessens 32 = .ok (.bipush 12, 2) := by decide +kernel
theorem dX6_lessens_34 : decode cX6_lessens 34 = .ok (.iload_n 2, 1) := by decide +kernel
theorem dX6_lessens_35 : decode cX6_lessens 35 = .ok (.imul, 1) := by decide +kernel
theorem dX6_lessens_36 : decode cX6_lessens 36 = .ok (.iload 4, 2) := by decide +kernel
theorem dX6_lessens_38 : decode cX6_lessens 38 = .ok (.iadd, 1) := by decide +kernel
theorem dX6_lessens_39 : decode cX6_lessens 39 = .ok (.iaload, 1) := by decide +kernel
theorem dX6_lessens_40 : decode cX6_lessens 40 = .ok (.isub, 1) := by decide +kernel
theorem dX6_lessens_41 : decode cX6_lessens 41 = .ok (.iload_n 3, 1) := by decide +kernel
theorem dX6_lessens_42 : decode cX6_lessens 42 = .ok (.isub, 1) := by decide +kernel
theorem dX6_lessens_43 : decode cX6_lessens 43 = .ok (.istore 5, 2) := by decide +kernel
theorem dX6_lessens_45 : decode cX6_lessens 45 = .ok (.aload_n 0, 1) := by decide +kernel
theorem dX6_lessens_46 : decode cX6_lessens 46 = .ok (.getfield 23, 3) := by decide +kernel
theorem dX6_lessens_49 : decode cX6_lessens 49 = .ok (.bipush 12, 2) := by decide +kernel
theorem dX6_lessens_51 : decode cX6_lessens 51 = .ok (.iload_n 1, 1) := by decide +kernel
theorem dX6_lessens_52 : decode cX6_lessens 52 = .ok (.imul, 1) := by decide +kernel
theorem dX6_lessens_53 : decode cX6_lessens 53 = .ok (.iload 4, 2) := by decide +kernel
theorem dX6_lessens_55 : decode cX6_lessens 55 = .ok (.iadd, 1) := by decide +kernel
theorem dX6_lessens_56 : decode cX6_lessens 56 = .ok (.iload 5, 2) := by decide +kernel
theorem dX6_lessens_58 : decode cX6_lessens 58 = .ok (.ldc 72, 2) := by decide +kernel
theorem dX6_lessens_60 : decode cX6_lessens 60 = .ok (.iand, 1) := by decide +kernel
theorem dX6_lessens_61 : decode cX6_lessens 61 = .ok (.iastore, 1) := by decide +kernel
theorem dX6_lessens_62 : decode cX6_lessens 62 = .ok (.iload 5, 2) := by decide +kernel
theorem dX6_lessens_64 : decode cX6_lessens 64 = .ok (.ifCond .ge 7, 3) := by decide +kernel
theorem dX6_lessens_67 : decode cX6_lessens 67 = .ok (.iconst 1, 1) := by decide +kernel
theorem dX6_lessens_68 : decode cX6_lessens 68 = .ok (.goto 4, 3) := by decide +kernel
theorem dX6_lessens_71 : decode cX6_lessens 71 = .ok (.iconst 0, 1) := by decide +kernel
theorem dX6_lessens_72 : decode cX6_lessens 72 = .ok (.istore_n 3, 1) := by decide +kernel
theorem dX6_lessens_73 : decode cX6_lessens 73 = .ok (.iinc 4 1, 3) := by decide +kernel
theorem dX6_lessens_76 : decode cX6_lessens 76 = .ok (.goto (-71), 3) := by decide +kernel
theorem dX6_lessens_79 : decode cX6_lessens 79 = .ok (.aload_n 0, 1) := by decide +kernel
theorem dX6_lessens_80 : decode cX6_lessens 80 = .ok (.iload_n 1, 1) := by decide +kernel
theorem dX6_lessens_81 : decode cX6_lessens 81 = .ok (.invokevirtual 64, 3) := by decide +kernel
theorem dX6_lessens_84 : decode cX6_lessens 84 = .ok (.return_, 1) := by decide +kernel
theorem dX6_against_0 : decode cX6_against 0 = .ok (.aload_n 0, 1) := by decide +kernel
theorem dX6_against_1 : decode cX6_against 1 = .ok (.getfield 26, 3) := by decide +kernel
theorem dX6_against_4 : decode cX6_against 4 = .ok (.iload_n 1, 1) := by decide +kernel
theorem dX6_against_5 : decode cX6_against 5 = .ok (.iaload, 1) := by decide +kernel
theorem dX6_against_6 : decode cX6_against 6 = .ok (.aload_n 0, 1) := by decide +kernel
theorem dX6_against_7 : decode cX6_against 7 = .ok (.getfield 26, 3) := by decide +kernel
theorem dX6_against_10 : decode cX6_against 10 = .ok (.iload_n 2, 1) := by decide +kernel
theorem dX6_against_11 : decode cX6_against 11 = .ok (.iaload, 1) := by decide +kernel
theorem dX6_against_12 : decode cX6_against 12 = .ok (.if_icmp .eq 24, 3) := by decide +kernel
theorem dX6_against_15 : decode cX6_against 15 = .ok (.aload_n 0, 1) := by decide +kernel
theorem dX6_against_16 : decode cX6_against 16 = .ok (.getfield 26, 3) := by decide +kernel
theorem dX6_against_19 : decode cX6_against 19 = .ok (.iload_n 1, 1) := by decide +kernel
theorem dX6_against_20 : decode cX6_against 20 = .ok (.iaload, 1) := by decide +kernel
theorem dX6_against_21 : decode cX6_against 21 = .ok (.aload_n 0, 1) := by decide +kernel
theorem dX6_against_22 : decode cX6_against 22 = .ok (.getfield 26, 3) := by decide +kernel
theorem dX6_against_25 : decode cX6_against 25 = .ok (.iload_n 2, 1) := by decide +kernel
theorem dX6_against_26 : decode cX6_against 26 = .ok (.iaload, 1) := by decide +kernel
theorem dX6_against_27 : decode cX6_against 27 = .ok (.if_icmp .ge 7, 3) := by decide +kernel
theorem dX6_against_30 : decode cX6_against 30 = .ok (.iconst (-1), 1) := by decide +kernel
theorem dX6_against_31 : decode cX6_against 31 = .ok (.goto 4, 3) := by decide +kernel
theorem dX6_against_34 : decode cX6_against 34 = .ok (.iconst 1, 1) := by decide +kernel
theorem dX6_against_35 : decode cX6_against 35 = .ok (.ireturn, 1) := by decide +kernel
theorem dX6_against_36 : decode cX6_against 36 = .ok (.aload_n 0, 1) := by decide +kernel
theorem dX6_against_37 : decode cX6_against 37 = .ok (.getfield 26, 3) := by decide +kernel
theorem dX6_against_40 : decode cX6_against 40 = .ok (.iload_n 1, 1) := by decide +kernel
theorem dX6_against_41 : decode cX6_against 41 = .ok (.iaload, 1) := by decide +kernel
theorem dX6_against_42 : decode cX6_against 42 = .ok (.iconst 1, 1) := by decide +kernel
theorem dX6_against_43 : decode cX6_against 43 = .ok (.isub, 1) := by decide +kernel
theorem dX6_against_44 : decode cX6_against 44 = .ok (.istore_n 3, 1) := by decide +kernel
theorem dX6_against_45 : decode cX6_against 45 = .ok (.iload_n 3, 1) := by decide +kernel
theorem dX6_against_46 : decode cX6_against 46 = .ok (.ifCond .lt 65, 3) := by decide +kernel
theorem dX6_against_49 : decode cX6_against 49 = .ok (.aload_n 0, 1) := by decide +kernel
theorem dX6_against_50 : decode cX6_against 50 = .ok (.getfield 23, 3) := by decide +kernel
theorem dX6_against_53 : decode cX6_against 53 = .ok (.bipush 12, 2) := by decide +kernel
theorem dX6_against_55 : decode cX6_against 55 = .ok (.iload_n 1, 1) := by decide +kernel
theorem dX6_against_56 : decode cX6_against 56 = .ok (.imul, 1) := by decide +kernel
theorem dX6_against_57 : decode cX6_against 57 = .ok (.iload_n 3, 1) := by decide +kernel
theorem dX6_against_58 : decode cX6_against 58 = .ok (.iadd, 1) := by decide +kernel
theorem dX6_against_59 : decode cX6_against 59 = .ok (.iaload, 1) := by decide +kernel
theorem dX6_against_60 : decode cX6_against 60 = .ok (.aload_n 0, 1) := by decide +kernel
theorem dX6_against_61 : decode cX6_against 61 = .ok (.getfield 23, 3) := by decide +kernel
theorem dX6_against_64 : decode cX6_against 64 = .ok (.bipush 12, 2) := by decide +kernel
theorem dX6_against_66 : decode cX6_against 66 = .ok (.iload_n 2, 1) := by decide +kernel
theorem dX6_against_67 : decode cX6_against 67 = .ok (.imul, 1) := by decide +kernel
theorem dX6_against_68 : decode cX6_against 68 = .ok (.iload_n 3, 1) := by decide +kernel
theorem dX6_against_69 : decode cX6_against 69 = .ok (.iadd, 1) := by decide +kernel
theorem dX6_against_70 : decode cX6_against 70 = .ok (.iaload, 1) := by decide +kernel
theorem dX6_against_71 : decode cX6_against 71 = .ok (.if_icmp .eq 34, 3) := by decide +kernel
theorem dX6_against_74 : decode cX6_against 74 = .ok (.aload_n 0, 1) := by decide +kernel
theorem dX6_against_75 : decode cX6_against 75 = .ok (.getfield 23, 3) := by decide +kernel
theorem dX6_against_78 : decode cX6_against 78 = .ok (.bipush 12, 2) := by decide +kernel
theorem dX6_against_80 : decode cX6_against 80 = .ok (.iload_n 1, 1) := by decide +kernel
theorem dX6_against_81 : decode cX6_against 81 = .ok (.imul, 1) := by decide +kernel
