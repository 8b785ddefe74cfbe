theorem dX5_type_97 : decode cX5_type 97 = .ok (.aload_n 0, 1) := by decide +kernel
theorem dX5_type_98 : decode cX5_type 98 = .ok (.getfield 12, 3) := by decide +kernel
theorem dX5_type_101 : decode cX5_type 101 = .ok (.getfield 63, 3) := by decide +kernel
theorem dX5_type_104 : decode cX5_type 104 = .ok (.ireturn, 1) := by decide +kernel
theorem dX5_clear_0 : decode cX5_clear 0 = .ok (.aload_n 0, 1) := by decide +kernel
theorem dX5_clear_1 : decode cX5_clear 1 = .ok (.getfield 12, 3) := by decide +kernel
theorem dX5_clear_4 : decode cX5_clear 4 = .ok (.getfield 63, 3) := by decide +kernel
theorem dX5_clear_7 : decode cX5_clear 7 = .ok (.istore_n 1, 1) := by decide +kernel
theorem dX5_clear_8 : decode cX5_clear 8 = .ok (.aload_n 0, 1) := by decide +kernel
theorem dX5_clear_9 : decode cX5_clear 9 = .ok (.getfield 12, 3) := by decide +kernel
theorem dX5_clear_12 : decode cX5_clear 12 = .ok (.iconst 0, 1) := by decide +kernel
theorem dX5_clear_13 : decode cX5_clear 13 = .ok (.putfield 63, 3) := by decide +kernel
theorem dX5_clear_16 : decode cX5_clear 16 = .ok (.aload_n 0, 1) := by decide +kernel
theorem dX5_clear_17 : decode cX5_clear 17 = .ok (.invokevirtual 77, 3) := by decide +kernel
theorem dX5_clear_20 : decode cX5_clear 20 = .ok (.iload_n 1, 1) := by decide +kernel
theorem dX5_clear_21 : decode cX5_clear 21 = .ok (.ireturn, 1) := by decide +kernel
theorem dX5_faulty_0 : decode cX5_faulty 0 = .ok (.aload_n 0, 1) := by decide +kernel
theorem dX5_faulty_1 : decode cX5_faulty 1 = .ok (.invokevirtual 80, 3) := by decide +kernel
theorem dX5_faulty_4 : decode cX5_faulty 4 = .ok (.aload_n 0, 1) := by decide +kernel
theorem dX5_faulty_5 : decode cX5_faulty 5 = .ok (.getfield 23, 3) := by decide +kernel
theorem dX5_faulty_8 : decode cX5_faulty 8 = .ok (.getfield 83, 3) := by decide +kernel
theorem dX5_faulty_11 : decode cX5_faulty 11 = .ok (.ireturn, 1) := by decide +kernel
theorem dX5_minutes_0 : decode cX5_minutes 0 = .ok (.aload_n 0, 1) := by decide +kernel
theorem dX5_minutes_1 : decode cX5_minutes 1 = .ok (.invokevirtual 86, 3) := by decide +kernel
theorem dX5_minutes_4 : decode cX5_minutes 4 = .ok (.ifCond .eq 8, 3) := by decide +kernel
theorem dX5_minutes_7 : decode cX5_minutes 7 = .ok (.aload_n 0, 1) := by decide +kernel
theorem dX5_minutes_8 : decode cX5_minutes 8 = .ok (.invokevirtual 90, 3) := by decide +kernel
theorem dX5_minutes_11 : decode cX5_minutes 11 = .ok (.ireturn, 1) := by decide +kernel
theorem dX5_minutes_12 : decode cX5_minutes 12 = .ok (.aload_n 0, 1) := by decide +kernel
theorem dX5_minutes_13 : decode cX5_minutes 13 = .ok (.getfield 23, 3) := by decide +kernel
theorem dX5_minutes_16 : decode cX5_minutes 16 = .ok (.getfield 93, 3) := by decide +kernel
theorem dX5_minutes_19 : decode cX5_minutes 19 = .ok (.ireturn, 1) := by decide +kernel
theorem dX5_put_0 : decode cX5_put 0 = .ok (.iload_n 1, 1) := by decide +kernel
theorem dX5_put_1 : decode cX5_put 1 = .ok (.iload_n 2, 1) := by decide +kernel
theorem dX5_put_2 : decode cX5_put 2 = .ok (.invokestatic 94, 3) := by decide +kernel
theorem dX5_put_5 : decode cX5_put 5 = .ok (.ifCond .ne 8, 3) := by decide +kernel
theorem dX5_put_8 : decode cX5_put 8 = .ok (.aload_n 0, 1) := by decide +kernel
theorem dX5_put_9 : decode cX5_put 9 = .ok (.invokevirtual 59, 3) := by decide +kernel
theorem dX5_put_12 : decode cX5_put 12 = .ok (.ireturn, 1) := by decide +kernel
theorem dX5_put_13 : decode cX5_put 13 = .ok (.aload_n 0, 1) := by decide +kernel
theorem dX5_put_14 : decode cX5_put 14 = .ok (.getfield 12, 3) := by decide +kernel
theorem dX5_put_17 : decode cX5_put 17 = .ok (.getfield 98, 3) := by decide +kernel
theorem dX5_put_20 : decode cX5_put 20 = .ok (.iload_n 1, 1) := by decide +kernel
theorem dX5_put_21 : decode cX5_put 21 = .ok (.invokestatic 101, 3) := by decide +kernel
theorem dX5_put_24 : decode cX5_put 24 = .ok (.istore_n 3, 1) := by decide +kernel
theorem dX5_put_25 : decode cX5_put 25 = .ok (.aload_n 0, 1) := by decide +kernel
theorem dX5_put_26 : decode cX5_put 26 = .ok (.getfield 12, 3) := by decide +kernel
theorem dX5_put_29 : decode cX5_put 29 = .ok (.getfield 98, 3) := by decide +kernel
theorem dX5_put_32 : decode cX5_put 32 = .ok (.iload_n 1, 1) := by decide +kernel
theorem dX5_put_33 : decode cX5_put 33 = .ok (.iload_n 2, 1) := by decide +kernel
theorem dX5_put_34 : decode cX5_put 34 = .ok (.invokestatic 73, 3) := by decide +kernel
theorem dX5_put_37 : decode cX5_put 37 = .ok (.aload_n 0, 1) := by decide +kernel
theorem dX5_put_38 : decode cX5_put 38 = .ok (.invokevirtual 77, 3) := by decide +kernel
theorem dX5_put_41 : decode cX5_put 41 = .ok (.iload_n 3, 1) := by decide +kernel
theorem dX5_put_42 : decode cX5_put 42 = .ok (.ireturn, 1) := by decide +kernel
theorem dX5_prior_0 : decode cX5_prior 0 = .ok (.iload_n 1, 1) := by decide +kernel
theorem dX5_prior_1 : decode cX5_prior 1 = .ok (.ifCond .lt 19, 3) := by decide +kernel
theorem dX5_prior_4 : decode cX5_prior 4 = .ok (.iload_n 1, 1) := by decide +kernel
theorem dX5_prior_5 : decode cX5_prior 5 = .ok (.bipush 7, 2) := by decide +kernel
theorem dX5_prior_7 : decode cX5_prior 7 = .ok (.if_icmp .ge 13, 3) := by decide +kernel
theorem dX5_prior_10 : decode cX5_prior 10 = .ok (.iload_n 2, 1) := by decide +kernel
theorem dX5_prior_11 : decode cX5_prior 11 = .ok (.ifCond .lt 9, 3) := by decide +kernel
theorem dX5_prior_14 : decode cX5_prior 14 = .ok (.iload_n 2, 1) := by decide +kernel
theorem dX5_prior_15 : decode cX5_prior 15 = .ok (.bipush 9, 2) := by decide +kernel
theorem dX5_prior_17 : decode cX5_prior 17 = .ok (.if_icmp .le 8, 3) := by decide +kernel
theorem dX5_prior_20 : decode cX5_prior 20 = .ok (.aload_n 0, 1) := by decide +kernel
theorem dX5_prior_21 : decode cX5_prior 21 = .ok (.invokevirtual 59, 3) := by decide +kernel
theorem dX5_prior_24 : decode cX5_prior 24 = .ok (.ireturn, 1) := by decide +kernel
theorem dX5_prior_25 : decode cX5_prior 25 = .ok (.aload_n 0, 1) := by decide +kernel
theorem dX5_prior_26 : decode cX5_prior 26 = .ok (.getfield 12, 3) := by decide +kernel
theorem dX5_prior_29 : decode cX5_prior 29 = .ok (.getfield 105, 3) := by decide +kernel
theorem dX5_prior_32 : decode cX5_prior 32 = .ok (.iload_n 1, 1) := by decide +kernel
theorem dX5_prior_33 : decode cX5_prior 33 = .ok (.invokestatic 101, 3) := by decide +kernel
theorem dX5_prior_36 : decode cX5_prior 36 = .ok (.istore_n 3, 1) := by decide +kernel
theorem dX5_prior_37 : decode cX5_prior 37 = .ok (.aload_n 0, 1) := by decide +kernel
theorem dX5_prior_38 : decode cX5_prior 38 = .ok (.getfield 12, 3) := by decide +kernel
theorem dX5_prior_41 : decode cX5_prior 41 = .ok (.getfield 105, 3) := by decide +kernel
theorem dX5_prior_44 : decode cX5_prior 44 = .ok (.iload_n 1, 1) := by decide +kernel
theorem dX5_prior_45 : decode cX5_prior 45 = .ok (.iload_n 2, 1) := by decide +kernel
theorem dX5_prior_46 : decode cX5_prior 46 = .ok (.invokestatic 73, 3) := by decide +kernel
theorem dX5_prior_49 : decode cX5_prior 49 = .ok (.aload_n 0, 1) := by decide +kernel
theorem dX5_prior_50 : decode cX5_prior 50 = .ok (.iconst 1, 1) := by decide +kernel
theorem dX5_prior_51 : decode cX5_prior 51 = .ok (.putfield 56, 3) := by decide +kernel
theorem dX5_prior_54 : decode cX5_prior 54 = .ok (.iload_n 3, 1) := by decide +kernel
theorem dX5_prior_55 : decode cX5_prior 55 = .ok (.ireturn, 1) := by decide +kernel
theorem dX5_fault_0 : decode cX5_fault 0 = .ok (.iload_n 2, 1) := by decide +kernel
theorem dX5_fault_1 : decode cX5_fault 1 = .ok (.iconst (-1), 1) := by decide +kernel
theorem dX5_fault_2 : decode cX5_fault 2 = .ok (.if_icmp .ne 11, 3) := by decide +kernel
theorem dX5_fault_5 : decode cX5_fault 5 = .ok (.iload_n 3, 1) := by decide +kernel
theorem dX5_fault_6 : decode cX5_fault 6 = .ok (.ifCond .ne 7, 3) := by decide +kernel
theorem dX5_fault_9 : decode cX5_fault 9 = .ok (.iconst 1, 1) := by decide +kernel
theorem dX5_fault_10 : decode cX5_fault 10 = .ok (.goto 4, 3) := by decide +kernel
theorem dX5_fault_13 : decode cX5_fault 13 = .ok (.iconst 0, 1) := by decide +kernel
theorem dX5_fault_14 : decode cX5_fault 14 = .ok (.istore 4, 2) := by decide +kernel
theorem dX5_fault_16 : decode cX5_fault 16 = .ok (.iload_n 1, 1) := by decide +kernel
theorem dX5_fault_17 : decode cX5_fault 17 = .ok (.ifCond .lt 21, 3) := by decide +kernel
theorem dX5_fault_20 : decode cX5_fault 20 = .ok (.iload_n 1, 1) := by decide +kernel
theorem dX5_fault_21 : decode cX5_fault 21 = .ok (.iconst 4, 1) := by decide +kernel
theorem dX5_fault_22 : decode cX5_fault 22 = .ok (.if_icmp .ge 16, 3) := by decide +kernel
theorem dX5_fault_25 : decode cX5_fault 25 = .ok (.iload 4, 2) := by decide +kernel
theorem dX5_fault_27 : decode cX5_fault 27 = .ok (.ifCond .ne 16, 3) := by decide +kernel
theorem dX5_fault_30 : decode cX5_fault 30 = .ok (.iload_n 2, 1) := by decide +kernel
theorem dX5_fault_31 : decode cX5_fault 31 = .ok (.iload_n 3, 1) := by decide +kernel
theorem dX5_fault_32 : decode cX5_fault 32 = .ok (.invokestatic 108, 3) := by decide +kernel
theorem dX5_fault_35 : decode cX5_fault 35 = .ok (.ifCond .ne 8, 3) := by decide +kernel
theorem dX5_fault_38 : decode cX5_fault 38 = .ok (.aload_n 0, 1) := by decide +kernel
theorem dX5_fault_39 : decode cX5_fault 39 = .ok (.invokevirtual 59, 3) := by decide +kernel
theorem dX5_fault_42 : decode cX5_fault 42 = .ok (.ireturn, 1) := by decide +kernel
theorem dX5_fault_43 : decode cX5_fault 43 = .ok (.aload_n 0, 1) := by decide +kernel
theorem dX5_fault_44 : decode cX5_fault 44 = .ok (.getfield 12, 3) := by decide +kernel
theorem dX5_fault_47 : decode cX5_fault 47 = .ok (.getfield 111, 3) := by decide +kernel
theorem dX5_fault_50 : decode cX5_fault 50 = .ok (.iload_n 1, 1) := by decide +kernel
theorem dX5_fault_51 : decode cX5_fault 51 = .ok (.iload 4, 2) := by decide +kernel
theorem dX5_fault_53 : decode cX5_fault 53 = .ok (.ifCond .eq 7, 3) := by decide +kernel
theorem dX5_fault_56 : decode cX5_fault 56 = .ok (.iconst (-1), 1) := by decide +kernel
theorem dX5_fault_57 : decode cX5_fault 57 = .ok (.goto 8, 3) := by decide +kernel
theorem dX5_fault_60 : decode cX5_fault 60 = .ok (.iload_n 2, 1) := by decide +kernel
theorem dX5_fault_61 : decode cX5_fault 61 = .ok (.iload_n 3, 1) := by decide +kernel
theorem dX5_fault_62 : decode cX5_fault 62 = .ok (.invokestatic 114, 3) := by decide +kernel
theorem dX5_fault_65 : decode cX5_fault 65 = .ok (.invokestatic 73, 3) := by decide +kernel
theorem dX5_fault_68 : decode cX5_fault 68 = .ok (.iconst 1, 1) := by decide +kernel
theorem dX5_fault_69 : decode cX5_fault 69 = .ok (.ireturn, 1) := by decide +kernel
theorem dX5_warm_0 : decode cX5_warm 0 = .ok (.aload_n 0, 1) := by decide +kernel
theorem dX5_warm_1 : decode cX5_warm 1 = .ok (.invokevirtual 86, 3) := by decide +kernel
theorem dX5_warm_4 : decode cX5_warm 4 = .ok (.ifCond .eq 8, 3) := by decide +kernel
theorem dX5_warm_7 : decode cX5_warm 7 = .ok (.aload_n 0, 1) := by decide +kernel
theorem dX5_warm_8 : decode cX5_warm 8 = .ok (.invokevirtual 90, 3) := by decide +kernel
theorem dX5_warm_11 : decode cX5_warm 11 = .ok (.ireturn, 1) := by decide +kernel
theorem dX5_warm_12 : decode cX5_warm 12 = .ok (.iload_n 1, 1) := by decide +kernel
theorem dX5_warm_13 : decode cX5_warm 13 = .ok (.ifCond .lt 14, 3) := by decide +kernel
theorem dX5_warm_16 : decode cX5_warm 16 = .ok (.iload_n 1, 1) := by decide +kernel
theorem dX5_warm_17 : decode cX5_warm 17 = .ok (.aload_n 0, 1) := by decide +kernel
theorem dX5_warm_18 : decode cX5_warm 18 = .ok (.getfield 23, 3) := by decide +kernel
theorem dX5_warm_21 : decode cX5_warm 21 = .ok (.getfield 93, 3) := by decide +kernel
theorem dX5_warm_24 : decode cX5_warm 24 = .ok (.if_icmp .le 8, 3) := by decide +kernel
theorem dX5_warm_27 : decode cX5_warm 27 = .ok (.aload_n 0, 1) := by decide +kernel
theorem dX5_warm_28 : decode cX5_warm 28 = .ok (.invokevirtual 59, 3) := by decide +kernel
theorem dX5_warm_31 : decode cX5_warm 31 = .ok (.ireturn, 1) := by decide +kernel
theorem dX5_warm_32 : decode cX5_warm 32 = .ok (.aload_n 0, 1) := by decide +kernel
theorem dX5_warm_33 : decode cX5_warm 33 = .ok (.getfield 23, 3) := by decide +kernel
theorem dX5_warm_36 : decode cX5_warm 36 = .ok (.getfield 118, 3) := by decide +kernel
theorem dX5_warm_39 : decode cX5_warm 39 = .ok (.iload_n 1, 1) := by decide +kernel
theorem dX5_warm_40 : decode cX5_warm 40 = .ok (.invokestatic 101, 3) := by decide +kernel
theorem dX5_warm_43 : decode cX5_warm 43 = .ok (.ireturn, 1) := by decide +kernel
theorem dX5_gives_0 : decode cX5_gives 0 = .ok (.aload_n 0, 1) := by decide +kernel
theorem dX5_gives_1 : decode cX5_gives 1 = .ok (.invokevirtual 86, 3) := by decide +kernel
theorem dX5_gives_4 : decode cX5_gives 4 = .ok (.ifCond .eq 8, 3) := by decide +kernel
theorem dX5_gives_7 : decode cX5_gives 7 = .ok (.aload_n 0, 1) := by decide +kernel
theorem dX5_gives_8 : decode cX5_gives 8 = .ok (.invokevirtual 90, 3) := by decide +kernel
theorem dX5_gives_11 : decode cX5_gives 11 = .ok (.ireturn, 1) := by decide +kernel
theorem dX5_gives_12 : decode cX5_gives 12 = .ok (.iload_n 1, 1) := by decide +kernel
theorem dX5_gives_13 : decode cX5_gives 13 = .ok (.iload_n 2, 1) := by decide +kernel
theorem dX5_gives_14 : decode cX5_gives 14 = .ok (.invokestatic 108, 3) := by decide +kernel
theorem dX5_gives_17 : decode cX5_gives 17 = .ok (.ifCond .eq 22, 3) := by decide +kernel
theorem dX5_gives_20 : decode cX5_gives 20 = .ok (.aload_n 0, 1) := by decide +kernel
theorem dX5_gives_21 : decode cX5_gives 21 = .ok (.getfield 23, 3) := by decide +kernel
theorem dX5_gives_24 : decode cX5_gives 24 = .ok (.iload_n 3, 1) := by decide +kernel
theorem dX5_gives_25 : decode cX5_gives 25 = .ok (.invokevirtual 121, 3) := by decide +kernel
theorem dX5_gives_28 : decode cX5_gives 28 = .ok (.ifCond .eq 11, 3) := by decide +kernel
theorem dX5_gives_31 : decode cX5_gives 31 = .ok (.iload 4, 2) := by decide +kernel
theorem dX5_gives_33 : decode cX5_gives 33 = .ok (.invokestatic 125, 3) := by decide +kernel
theorem dX5_gives_36 : decode cX5_gives 36 = .ok (.ifCond .ne 8, 3) := by decide +kernel
theorem dX5_gives_39 : decode cX5_gives 39 = .ok (.aload_n 0, 1) := by decide +kernel
theorem dX5_gives_40 : decode cX5_gives 40 = .ok (.invokevirtual 59, 3) := by decide +kernel
theorem dX5_gives_43 : decode cX5_gives 43 = .ok (.ireturn, 1) := by decide +kernel
theorem dX5_gives_44 : decode cX5_gives 44 = .ok (.aload_n 0, 1) := by decide +kernel
theorem dX5_gives_45 : decode cX5_gives 45 = .ok (.getfield 23, 3) := by decide +kernel
theorem dX5_gives_48 : decode cX5_gives 48 = .ok (.iload_n 1, 1) := by decide +kernel
theorem dX5_gives_49 : decode cX5_gives 49 = .ok (.iload_n 2, 1) := by decide +kernel
theorem dX5_gives_50 : decode cX5_gives 50 = .ok (.invokestatic 114, 3) := by decide +kernel
theorem dX5_gives_53 : decode cX5_gives 53 = .ok (.iload_n 3, 1) := by decide +kernel
theorem dX5_gives_54 : decode cX5_gives 54 = .ok (.iload 4, 2) := by decide +kernel
theorem dX5_gives_56 : decode cX5_gives 56 = .ok (.invokevirtual 128, 3) := by decide +kernel
theorem dX5_gives_59 : decode cX5_gives 59 = .ok (.ireturn, 1) := by decide +kernel
theorem dX5_smoke_0 : decode cX5_smoke 0 = .ok (.aload_n 0, 1) := by decide +kernel
theorem dX5_smoke_1 : decode cX5_smoke 1 = .ok (.invokevirtual 86, 3) := by decide +kernel
theorem dX5_smoke_4 : decode cX5_smoke 4 = .ok (.ifCond .eq 8, 3) := by decide +kernel
theorem dX5_smoke_7 : decode cX5_smoke 7 = .ok (.aload_n 0, 1) := by decide +kernel
theorem dX5_smoke_8 : decode cX5_smoke 8 = .ok (.invokevirtual 90, 3) := by decide +kernel
theorem dX5_smoke_11 : decode cX5_smoke 11 = .ok (.ireturn, 1) := by decide +kernel
theorem dX5_smoke_12 : decode cX5_smoke 12 = .ok (.aload_n 0, 1) := by decide +kernel
theorem dX5_smoke_13 : decode cX5_smoke 13 = .ok (.getfield 23, 3) := by decide +kernel
theorem dX5_smoke_16 : decode cX5_smoke 16 = .ok (.iload_n 1, 1) := by decide +kernel
theorem dX5_smoke_17 : decode cX5_smoke 17 = .ok (.invokevirtual 121, 3) := by decide +kernel
theorem dX5_smoke_20 : decode cX5_smoke 20 = .ok (.ifCond .eq 17, 3) := by decide +kernel
theorem dX5_smoke_23 : decode cX5_smoke 23 = .ok (.iload_n 2, 1) := by decide +kernel
theorem dX5_smoke_24 : decode cX5_smoke 24 = .ok (.invokestatic 125, 3) := by decide +kernel
theorem dX5_smoke_27 : decode cX5_smoke 27 = .ok (.ifCond .eq 10, 3) := by decide +kernel
theorem dX5_smoke_30 : decode cX5_smoke 30 = .ok (.iload_n 3, 1) := by decide +kernel
theorem dX5_smoke_31 : decode cX5_smoke 31 = .ok (.invokestatic 132, 3) := by decide +kernel
theorem dX5_smoke_34 : decode cX5_smoke 34 = .ok (.ifCond .ne 8, 3) := by decide +kernel
theorem dX5_smoke_37 : decode cX5_smoke 37 = .ok (.aload_n 0, 1) := by decide +kernel
theorem dX5_smoke_38 : decode cX5_smoke 38 = .ok (.invokevirtual 59, 3) := by decide +kernel
theorem dX5_smoke_41 : decode cX5_smoke 41 = .ok (.ireturn, 1) := by decide +kernel
theorem dX5_smoke_42 : decode cX5_smoke 42 = .ok (.aload_n 0, 1) := by decide +kernel
theorem dX5_smoke_43 : decode cX5_smoke 43 = .ok (.iload_n 1, 1) := by decide +kernel
theorem dX5_smoke_44 : decode cX5_smoke 44 = .ok (.iload_n 2, 1) := by decide +kernel
theorem dX5_smoke_45 : decode cX5_smoke 45 = .ok (.iload_n 3, 1) := by decide +kernel
theorem dX5_smoke_46 : decode cX5_smoke 46 = .ok (.invokevirtual 135, 3) := by decide +kernel
theorem dX5_smoke_49 : decode cX5_smoke 49 = .ok (.ireturn, 1) := by decide +kernel
theorem dX5_goes_0 : decode cX5_goes 0 = .ok (.iload_n 1, 1) := by decide +kernel
theorem dX5_goes_1 : decode cX5_goes 1 = .ok (.ifCond .lt 8, 3) := by decide +kernel
theorem dX5_goes_4 : decode cX5_goes 4 = .ok (.iload_n 1, 1) := by decide +kernel
theorem dX5_goes_5 : decode cX5_goes 5 = .ok (.iconst 1, 1) := by decide +kernel
theorem dX5_goes_6 : decode cX5_goes 6 = .ok (.if_icmp .le 8, 3) := by decide +kernel
theorem dX5_goes_9 : decode cX5_goes 9 = .ok (.aload_n 0, 1) := by decide +kernel
theorem dX5_goes_10 : decode cX5_goes 10 = .ok (.invokevirtual 59, 3) := by decide +kernel
theorem dX5_goes_13 : decode cX5_goes 13 = .ok (.ireturn, 1) := by decide +kernel
theorem dX5_goes_14 : decode cX5_goes 14 = .ok (.aload_n 0, 1) := by decide +kernel
theorem dX5_goes_15 : decode cX5_goes 15 = .ok (.invokevirtual 86, 3) := by decide +kernel
theorem dX5_goes_18 : decode cX5_goes 18 = .ok (.ifCond .eq 8, 3) := by decide +kernel
theorem dX5_goes_21 : decode cX5_goes 21 = .ok (.aload_n 0, 1) := by decide +kernel
theorem dX5_goes_22 : decode cX5_goes 22 = .ok (.invokevirtual 90, 3) := by decide +kernel
theorem dX5_goes_25 : decode cX5_goes 25 = .ok (.ireturn, 1) := by decide +kernel
theorem dX5_goes_26 : decode cX5_goes 26 = .ok (.iconst 0, 1) := by decide +kernel
theorem dX5_goes_27 : decode cX5_goes 27 = .ok (.istore_n 2, 1) := by decide +kernel
theorem dX5_goes_28 : decode cX5_goes 28 = .ok (.iconst 0, 1) := by decide +kernel
theorem dX5_goes_29 : decode cX5_goes 29 = .ok (.istore_n 3, 1) := by decide +kernel
theorem dX5_goes_30 : decode cX5_goes 30 = .ok (.iload_n 3, 1) := by decide +kernel
theorem dX5_goes_31 : decode cX5_goes 31 = .ok (.aload_n 0, 1) := by decide +kernel
theorem dX5_goes_32 : decode cX5_goes 32 = .ok (.getfield 23, 3) := by decide +kernel
theorem dX5_goes_35 : decode cX5_goes 35 = .ok (.getfield 93, 3) := by decide +kernel
theorem dX5_goes_38 : decode cX5_goes 38 = .ok (.if_icmp .ge 27, 3) := by decide +kernel
theorem dX5_goes_41 : decode cX5_goes 41 = .ok (.iload_n 2, 1) := by decide +kernel
theorem dX5_goes_42 : decode cX5_goes 42 = .ok (.aload_n 0, 1) := by decide +kernel
theorem dX5_goes_43 : decode cX5_goes 43 = .ok (.iload_n 3, 1) := by decide +kernel
theorem dX5_goes_44 : decode cX5_goes 44 = .ok (.iload_n 1, 1) := by decide +kernel
theorem dX5_goes_45 : decode cX5_goes 45 = .ok (.ifCond .ne 7, 3) := by decide +kernel
theorem dX5_goes_48 : decode cX5_goes 48 = .ok (.iconst 0, 1) := by decide +kernel
theorem dX5_goes_49 : decode cX5_goes 49 = .ok (.goto 4, 3) := by decide +kernel
theorem dX5_goes_52 : decode cX5_goes 52 = .ok (.iconst 1, 1) := by decide +kernel
theorem dX5_goes_53 : decode cX5_goes 53 = .ok (.iconst (-1), 1) := by decide +kernel
theorem dX5_goes_54 : decode cX5_goes 54 = .ok (.invokevirtual 135, 3) := by decide +kernel
theorem dX5_goes_57 : decode cX5_goes 57 = .ok (.iadd, 1) := by decide +kernel
theorem dX5_goes_58 : decode cX5_goes 58 = .ok (.istore_n 2, 1) := by decide +kernel
theorem dX5_goes_59 : decode cX5_goes 59 = .ok (.iinc 3 1, 3) := by decide +kernel
theorem dX5_goes_62 : decode cX5_goes 62 = .ok (.goto (-32), 3) := by decide +kernel
theorem dX5_goes_65 : decode cX5_goes 65 = .ok (.iload_n 2, 1) := by decide +kernel
theorem dX5_goes_66 : decode cX5_goes 66 = .ok (.ireturn, 1) := by decide +kernel
theorem dX5_look_0 : decode cX5_look 0 = .ok (.iload_n 1, 1) := by decide +kernel
theorem dX5_look_1 : decode cX5_look 1 = .ok (.ifCond .lt 27, 3) := by decide +kernel
theorem dX5_look_4 : decode cX5_look 4 = .ok (.iload_n 1, 1) := by decide +kernel
theorem dX5_look_5 : decode cX5_look 5 = .ok (.bipush 120, 2) := by decide +kernel
theorem dX5_look_7 : decode cX5_look 7 = .ok (.if_icmp .ge 21, 3) := by decide +kernel
theorem dX5_look_10 : decode cX5_look 10 = .ok (.iload_n 2, 1) := by decide +kernel
theorem dX5_look_11 : decode cX5_look 11 = .ok (.invokestatic 125, 3) := by decide +kernel
theorem dX5_look_14 : decode cX5_look 14 = .ok (.ifCond .eq 14, 3) := by decide +kernel
theorem dX5_look_17 : decode cX5_look 17 = .ok (.iload_n 3, 1) := by decide +kernel
theorem dX5_look_18 : decode cX5_look 18 = .ok (.invokestatic 132, 3) := by decide +kernel
theorem dX5_look_21 : decode cX5_look 21 = .ok (.ifCond .eq 7, 3) := by decide +kernel
theorem dX5_look_24 : decode cX5_look 24 = .ok (.iconst 1, 1) := by decide +kernel
theorem dX5_look_25 : decode cX5_look 25 = .ok (.goto 4, 3) := by decide +kernel
theorem dX5_look_28 : decode cX5_look 28 = .ok (.iconst 0, 1) := by decide +kernel
theorem dX5_look_29 : decode cX5_look 29 = .ok (.istore 5, 2) := by decide +kernel
theorem dX5_look_31 : decode cX5_look 31 = .ok (.iload 5, 2) := by decide +kernel
theorem dX5_look_33 : decode cX5_look 33 = .ok (.ifCond .eq 14, 3) := by decide +kernel
theorem dX5_look_36 : decode cX5_look 36 = .ok (.iload 4, 2) := by decide +kernel
theorem dX5_look_38 : decode cX5_look 38 = .ok (.ifCond .lt 9, 3) := by decide +kernel
theorem dX5_look_41 : decode cX5_look 41 = .ok (.iload 4, 2) := by decide +kernel
theorem dX5_look_43 : decode cX5_look 43 = .ok (.iconst 3, 1) := by decide +kernel
theorem dX5_look_44 : decode cX5_look 44 = .ok (.if_icmp .lt 8, 3) := by decide +kernel
theorem dX5_look_47 : decode cX5_look 47 = .ok (.aload_n 0, 1) := by decide +kernel
theorem dX5_look_48 : decode cX5_look 48 = .ok (.invokevirtual 59, 3) := by decide +kernel
theorem dX5_look_51 : decode cX5_look 51 = .ok (.ireturn, 1) := by decide +kernel
theorem dX5_look_52 : decode cX5_look 52 = .ok (.aload_n 0, 1) := by decide +kernel
theorem dX5_look_53 : decode cX5_look 53 = .ok (.getfield 12, 3) := by decide +kernel
theorem dX5_look_56 : decode cX5_look 56 = .ok (.getfield 138, 3) := by decide +kernel
theorem dX5_look_59 : decode cX5_look 59 = .ok (.bipush 8, 2) := by decide +kernel
theorem dX5_look_61 : decode cX5_look 61 = .ok (.if_icmp .lt 8, 3) := by decide +kernel
theorem dX5_look_64 : decode cX5_look 64 = .ok (.aload_n 0, 1) := by decide +kernel
theorem dX5_look_65 : decode cX5_look 65 = .ok (.invokevirtual 67, 3) := by decide +kernel
theorem dX5_look_68 : decode cX5_look 68 = .ok (.ireturn, 1) := by decide +kernel
theorem dX5_look_69 : decode cX5_look 69 = .ok (.aload_n 0, 1) := by decide +kernel
theorem dX5_look_70 : decode cX5_look 70 = .ok (.getfield 12, 3) := by decide +kernel
theorem dX5_look_73 : decode cX5_look 73 = .ok (.getfield 138, 3) := by decide +kernel
theorem dX5_look_76 : decode cX5_look 76 = .ok (.iconst 4, 1) := by decide +kernel
theorem dX5_look_77 : decode cX5_look 77 = .ok (.imul, 1) := by decide +kernel
theorem dX5_look_78 : decode cX5_look 78 = .ok (.istore 6, 2) := by decide +kernel
theorem dX5_look_80 : decode cX5_look 80 = .ok (.aload_n 0, 1) := by decide +kernel
theorem dX5_look_81 : decode cX5_look 81 = .ok (.getfield 12, 3) := by decide +kernel
theorem dX5_look_84 : decode cX5_look 84 = .ok (.getfield 141, 3) := by decide +kernel
theorem dX5_look_87 : decode cX5_look 87 = .ok (.iload 6, 2) := by decide +kernel
theorem dX5_look_89 : decode cX5_look 89 = .ok (.iload_n 1, 1) := by decide +kernel
theorem dX5_look_90 : decode cX5_look 90 = .ok (.invokestatic 73, 3) := by decide +kernel
theorem dX5_look_93 : decode cX5_look 93 = .ok (.aload_n 0, 1) := by decide +kernel
theorem dX5_look_94 : decode cX5_look 94 = .ok (.getfield 12, 3) := by decide +kernel
theorem dX5_look_97 : decode cX5_look 97 = .ok (.getfield 141, 3) := by decide +kernel
theorem dX5_look_100 : decode cX5_look 100 = .ok (.iload 6, 2) := by decide +kernel
theorem dX5_look_102 : decode cX5_look 102 = .ok (.iconst 1, 1) := by decide +kernel
theorem dX5_look_103 : decode cX5_look 103 = .ok (.iadd, 1) := by decide +kernel
theorem dX5_look_104 : decode cX5_look 104 = .ok (.iload_n 2, 1) := by decide +kernel
theorem dX5_look_105 : decode cX5_look 105 = .ok (.invokestatic 73, 3) := by decide +kernel
theorem dX5_look_108 : decode cX5_look 108 = .ok (.aload_n 0, 1) := by decide +kernel
theorem dX5_look_109 : decode cX5_look 109 = .ok (.getfield 12, 3) := by decide +kernel
theorem dX5_look_112 : decode cX5_look 112 = .ok (.getfield 141, 3) := by decide +kernel
theorem dX5_look_115 : decode cX5_look 115 = .ok (.iload 6, 2) := by decide +kernel
theorem dX5_look_117 : decode cX5_look 117 = .ok (.iconst 2, 1) := by decide +kernel
theorem dX5_look_118 : decode cX5_look 118 = .ok (.iadd, 1) := by decide +kernel
theorem dX5_look_119 : decode cX5_look 119 = .ok (.iload_n 3, 1) := by decide +kernel
theorem dX5_look_120 : decode cX5_look 120 = .ok (.invokestatic 73, 3) := by decide +kernel
theorem dX5_look_123 : decode cX5_look 123 = .ok (.aload_n 0, 1) := by decide +kernel
theorem dX5_look_124 : decode cX5_look 124 = .ok (.getfield 12, 3) := by decide +kernel
theorem dX5_look_127 : decode cX5_look 127 = .ok (.getfield 141, 3) := by decide +kernel
theorem dX5_look_130 : decode cX5_look 130 = .ok (.iload 6, 2) := by decide +kernel
theorem dX5_look_132 : decode cX5_look 132 = .ok (.iconst 3, 1) := by decide +kernel
theorem dX5_look_133 : decode cX5_look 133 = .ok (.iadd, 1) := by decide +kernel
theorem dX5_look_134 : decode cX5_look 134 = .ok (.iload 4, 2) := by decide +kernel
theorem dX5_look_136 : decode cX5_look 136 = .ok (.invokestatic 73, 3) := by decide +kernel
theorem dX5_look_139 : decode cX5_look 139 = .ok (.aload_n 0, 1) := by decide +kernel
theorem dX5_look_140 : decode cX5_look 140 = .ok (.iconst 1, 1) := by decide +kernel
theorem dX5_look_141 : decode cX5_look 141 = .ok (.putfield 56, 3) := by decide +kernel
theorem dX5_look_144 : decode cX5_look 144 = .ok (.aload_n 0, 1) := by decide +kernel
theorem dX5_look_145 : decode cX5_look 145 = .ok (.getfield 12, 3) := by decide +kernel
theorem dX5_look_148 : decode cX5_look 148 = .ok (.dup, 1) := by decide +kernel
theorem dX5_look_149 : decode cX5_look 149 = .ok (.getfield 138, 3) := by decide +kernel
theorem dX5_look_152 : decode cX5_look 152 = .ok (.dup_x1, 1) := by decide +kernel
theorem dX5_look_153 : decode cX5_look 153 = .ok (.iconst 1, 1) := by decide +kernel
theorem dX5_look_154 : decode cX5_look 154 = .ok (.iadd, 1) := by decide +kernel
theorem dX5_look_155 : decode cX5_look 155 = .ok (.putfield 138, 3) := by decide +kernel
theorem dX5_look_158 : decode cX5_look 158 = .ok (.ireturn, 1) := by decide +kernel
theorem dX5_odds_0 : decode cX5_odds 0 = .ok (.iload_n 1, 1) := by decide +kernel
theorem dX5_odds_1 : decode cX5_odds 1 = .ok (.ifCond .lt 18, 3) := by decide +kernel
theorem dX5_odds_4 : decode cX5_odds 4 = .ok (.iload_n 1, 1) := by decide +kernel
theorem dX5_odds_5 : decode cX5_odds 5 = .ok (.iconst 4, 1) := by decide +kernel
theorem dX5_odds_6 : decode cX5_odds 6 = .ok (.if_icmp .ge 13, 3) := by decide +kernel
theorem dX5_odds_9 : decode cX5_odds 9 = .ok (.iload_n 2, 1) := by decide +kernel
theorem dX5_odds_10 : decode cX5_odds 10 = .ok (.ifCond .lt 9, 3) := by decide +kernel
theorem dX5_odds_13 : decode cX5_odds 13 = .ok (.iload_n 2, 1) := by decide +kernel
theorem dX5_odds_14 : decode cX5_odds 14 = .ok (.bipush 7, 2) := by decide +kernel
theorem dX5_odds_16 : decode cX5_odds 16 = .ok (.if_icmp .le 8, 3) := by decide +kernel
theorem dX5_odds_19 : decode cX5_odds 19 = .ok (.aload_n 0, 1) := by decide +kernel
theorem dX5_odds_20 : decode cX5_odds 20 = .ok (.invokevirtual 59, 3) := by decide +kernel
theorem dX5_odds_23 : decode cX5_odds 23 = .ok (.ireturn, 1) := by decide +kernel
theorem dX5_odds_24 : decode cX5_odds 24 = .ok (.aload_n 0, 1) := by decide +kernel
theorem dX5_odds_25 : decode cX5_odds 25 = .ok (.invokevirtual 144, 3) := by decide +kernel
theorem dX5_odds_28 : decode cX5_odds 28 = .ok (.ifCond .eq 8, 3) := by decide +kernel
theorem dX5_odds_31 : decode cX5_odds 31 = .ok (.aload_n 0, 1) := by decide +kernel
theorem dX5_odds_32 : decode cX5_odds 32 = .ok (.invokevirtual 90, 3) := by decide +kernel
theorem dX5_odds_35 : decode cX5_odds 35 = .ok (.ireturn, 1) := by decide +kernel
theorem dX5_odds_36 : decode cX5_odds 36 = .ok (.aload_n 0, 1) := by decide +kernel
theorem dX5_odds_37 : decode cX5_odds 37 = .ok (.getfield 44, 3) := by decide +kernel
theorem dX5_odds_40 : decode cX5_odds 40 = .ok (.aload_n 0, 1) := by decide +kernel
theorem dX5_odds_41 : decode cX5_odds 41 = .ok (.getfield 30, 3) := by decide +kernel
theorem dX5_odds_44 : decode cX5_odds 44 = .ok (.iload_n 1, 1) := by decide +kernel
theorem dX5_odds_45 : decode cX5_odds 45 = .ok (.iload_n 2, 1) := by decide +kernel
theorem dX5_odds_46 : decode cX5_odds 46 = .ok (.invokevirtual 147, 3) := by decide +kernel
theorem dX5_odds_49 : decode cX5_odds 49 = .ok (.aload_n 0, 1) := by decide +kernel
theorem dX5_odds_50 : decode cX5_odds 50 = .ok (.getfield 30, 3) := by decide +kernel
theorem dX5_odds_53 : decode cX5_odds 53 = .ok (.getfield 151, 3) := by decide +kernel
theorem dX5_odds_56 : decode cX5_odds 56 = .ok (.invokevirtual 155, 3) := by decide +kernel
theorem dX5_odds_59 : decode cX5_odds 59 = .ok (.iconst 1, 1) := by decide +kernel
theorem dX5_odds_60 : decode cX5_odds 60 = .ok (.ireturn, 1) := by decide +kernel
theorem dX5_two_0 : decode cX5_two 0 = .ok (.aload_n 0, 1) := by decide +kernel
theorem dX5_two_1 : decode cX5_two 1 = .ok (.invokevirtual 144, 3) := by decide +kernel
theorem dX5_two_4 : decode cX5_two 4 = .ok (.ifCond .eq 8, 3) := by decide +kernel
theorem dX5_two_7 : decode cX5_two 7 = .ok (.aload_n 0, 1) := by decide +kernel
theorem dX5_two_8 : decode cX5_two 8 = .ok (.invokevirtual 90, 3) := by decide +kernel
theorem dX5_two_11 : decode cX5_two 11 = .ok (.ireturn, 1) := by decide +kernel
theorem dX5_two_12 : decode cX5_two 12 = .ok (.aload_n 0, 1) := by decide +kernel
theorem dX5_two_13 : decode cX5_two 13 = .ok (.getfield 44, 3) := by decide +kernel
theorem dX5_two_16 : decode cX5_two 16 = .ok (.aload_n 0, 1) := by decide +kernel
theorem dX5_two_17 : decode cX5_two 17 = .ok (.getfield 30, 3) := by decide +kernel
theorem dX5_two_20 : decode cX5_two 20 = .ok (.invokevirtual 159, 3) := by decide +kernel
theorem dX5_two_23 : decode cX5_two 23 = .ok (.aload_n 0, 1) := by decide +kernel
theorem dX5_two_24 : decode cX5_two 24 = .ok (.getfield 30, 3) := by decide +kernel
theorem dX5_two_27 : decode cX5_two 27 = .ok (.getfield 151, 3) := by decide +kernel
theorem dX5_two_30 : decode cX5_two 30 = .ok (.invokevirtual 155, 3) := by decide +kernel
theorem dX5_two_33 : decode cX5_two 33 = .ok (.iconst 1, 1) := by decide +kernel
theorem dX5_two_34 : decode cX5_two 34 = .ok (.ireturn, 1) := by decide +kernel
theorem dX5_likeliest_0 : decode cX5_likeliest 0 = .ok (.aload_n 0, 1) := by decide +kernel
theorem dX5_likeliest_1 : decode cX5_likeliest 1 = .ok (.invokevirtual 144, 3) := by decide +kernel
theorem dX5_likeliest_4 : decode cX5_likeliest 4 = .ok (.ifCond .eq 8, 3) := by decide +kernel
theorem dX5_likeliest_7 : decode cX5_likeliest 7 = .ok (.aload_n 0, 1) := by decide +kernel
theorem dX5_likeliest_8 : decode cX5_likeliest 8 = .ok (.invokevirtual 90, 3) := by decide +kernel
theorem dX5_likeliest_11 : decode cX5_likeliest 11 = .ok (.ireturn, 1) := by decide +kernel
theorem dX5_likeliest_12 : decode cX5_likeliest 12 = .ok (.aload_n 0, 1) := by decide +kernel
theorem dX5_likeliest_13 : decode cX5_likeliest 13 = .ok (.getfield 30, 3) := by decide +kernel
theorem dX5_likeliest_16 : decode cX5_likeliest 16 = .ok (.invokevirtual 163, 3) := by decide +kernel
theorem dX5_likeliest_19 : decode cX5_likeliest 19 = .ok (.ireturn, 1) := by decide +kernel
theorem dX5_guess_0 : decode cX5_guess 0 = .ok (.iload_n 1, 1) := by decide +kernel
theorem dX5_guess_1 : decode cX5_guess 1 = .ok (.ifCond .lt 19, 3) := by decide +kernel
theorem dX5_guess_4 : decode cX5_guess 4 = .ok (.iload_n 1, 1) := by decide +kernel
theorem dX5_guess_5 : decode cX5_guess 5 = .ok (.sipush 2731, 3) := by decide +kernel
theorem dX5_guess_8 : decode cX5_guess 8 = .ok (.if_icmp .ge 12, 3) := by decide +kernel
theorem dX5_guess_11 : decode cX5_guess 11 = .ok (.iload_n 2, 1) := by decide +kernel
theorem dX5_guess_12 : decode cX5_guess 12 = .ok (.ifCond .lt 8, 3) := by decide +kernel
theorem dX5_guess_15 : decode cX5_guess 15 = .ok (.iload_n 2, 1) := by decide +kernel
theorem dX5_guess_16 : decode cX5_guess 16 = .ok (.iconst 4, 1) := by decide +kernel
theorem dX5_guess_17 : decode cX5_guess 17 = .ok (.if_icmp .lt 11, 3) := by decide +kernel
theorem dX5_guess_20 : decode cX5_guess 20 = .ok (.aload_n 0, 1) := by decide +kernel
theorem dX5_guess_21 : decode cX5_guess 21 = .ok (.invokevirtual 59, 3) := by decide +kernel
theorem dX5_guess_24 : decode cX5_guess 24 = .ok (.pop, 1) := by decide +kernel
theorem dX5_guess_25 : decode cX5_guess 25 = .ok (.bipush (-10), 2) := by decide +kernel
theorem dX5_guess_27 : decode cX5_guess 27 = .ok (.ireturn, 1) := by decide +kernel
theorem dX5_guess_28 : decode cX5_guess 28 = .ok (.iload_n 1, 1) := by decide +kernel
theorem dX5_guess_29 : decode cX5_guess 29 = .ok (.iload_n 2, 1) := by decide +kernel
theorem dX5_guess_30 : decode cX5_guess 30 = .ok (.invokestatic 166, 3) := by decide +kernel
theorem dX5_guess_33 : decode cX5_guess 33 = .ok (.ireturn, 1) := by decide +kernel
theorem dX5_next_0 : decode cX5_next 0 = .ok (.aload_n 0, 1) := by decide +kernel
theorem dX5_next_1 : decode cX5_next 1 = .ok (.invokevirtual 144, 3) := by decide +kernel
theorem dX5_next_4 : decode cX5_next 4 = .ok (.ifCond .eq 8, 3) := by decide +kernel
theorem dX5_next_7 : decode cX5_next 7 = .ok (.aload_n 0, 1) := by decide +kernel
theorem dX5_next_8 : decode cX5_next 8 = .ok (.invokevirtual 90, 3) := by decide +kernel
theorem dX5_next_11 : decode cX5_next 11 = .ok (.ireturn, 1) := by decide +kernel
theorem dX5_next_12 : decode cX5_next 12 = .ok (.aload_n 0, 1) := by decide +kernel
theorem dX5_next_13 : decode cX5_next 13 = .ok (.getfield 23, 3) := by decide +kernel
theorem dX5_next_16 : decode cX5_next 16 = .ok (.iload_n 1, 1) := by decide +kernel
theorem dX5_next_17 : decode cX5_next 17 = .ok (.invokevirtual 121, 3) := by decide +kernel
theorem dX5_next_20 : decode cX5_next 20 = .ok (.ifCond .ne 8, 3) := by decide +kernel
theorem dX5_next_23 : decode cX5_next 23 = .ok (.aload_n 0, 1) := by decide +kernel
theorem dX5_next_24 : decode cX5_next 24 = .ok (.invokevirtual 59, 3) := by decide +kernel
theorem dX5_next_27 : decode cX5_next 27 = .ok (.ireturn, 1) := by decide +kernel
theorem dX5_next_28 : decode cX5_next 28 = .ok (.iconst 0, 1) := by decide +kernel
theorem dX5_next_29 : decode cX5_next 29 = .ok (.istore_n 2, 1) := by decide +kernel
theorem dX5_next_30 : decode cX5_next 30 = .ok (.ldc2_w 171, 3) := by decide +kernel
theorem dX5_next_33 : decode cX5_next 33 = .ok (.lstore_n 3, 1) := by decide +kernel
theorem dX5_next_34 : decode cX5_next 34 = .ok (.iconst 0, 1) := by decide +kernel
theorem dX5_next_35 : decode cX5_next 35 = .ok (.istore 5, 2) := by decide +kernel
theorem dX5_next_37 : decode cX5_next 37 = .ok (.iload 5, 2) := by decide +kernel
theorem dX5_next_39 : decode cX5_next 39 = .ok (.iconst 4, 1) := by decide +kernel
theorem dX5_next_40 : decode cX5_next 40 = .ok (.if_icmp .ge 89, 3) := by decide +kernel
theorem dX5_next_43 : decode cX5_next 43 = .ok (.aload_n 0, 1) := by decide +kernel
theorem dX5_next_44 : decode cX5_next 44 = .ok (.getfield 23, 3) := by decide +kernel
theorem dX5_next_47 : decode cX5_next 47 = .ok (.iload_n 1, 1) := by decide +kernel
theorem dX5_next_48 : decode cX5_next 48 = .ok (.iload 5, 2) := by decide +kernel
theorem dX5_next_50 : decode cX5_next 50 = .ok (.aload_n 0, 1) := by decide +kernel
theorem dX5_next_51 : decode cX5_next 51 = .ok (.getfield 30, 3) := by decide +kernel
theorem dX5_next_54 : decode cX5_next 54 = .ok (.getfield 173, 3) := by decide +kernel
theorem dX5_next_57 : decode cX5_next 57 = .ok (.invokevirtual 176, 3) := by decide +kernel
theorem dX5_next_60 : decode cX5_next 60 = .ok (.iconst 0, 1) := by decide +kernel
theorem dX5_next_61 : decode cX5_next 61 = .ok (.istore 6, 2) := by decide +kernel
theorem dX5_next_63 : decode cX5_next 63 = .ok (.iload 6, 2) := by decide +kernel
theorem dX5_next_65 : decode cX5_next 65 = .ok (.iconst 4, 1) := by decide +kernel
theorem dX5_next_66 : decode cX5_next 66 = .ok (.if_icmp .gt 57, 3) := by decide +kernel
theorem dX5_next_69 : decode cX5_next 69 = .ok (.aload_n 0, 1) := by decide +kernel
theorem dX5_next_70 : decode cX5_next 70 = .ok (.getfield 30, 3) := by decide +kernel
theorem dX5_next_73 : decode cX5_next 73 = .ok (.iload 6, 2) := by decide +kernel
theorem dX5_next_75 : decode cX5_next 75 = .ok (.invokevirtual 180, 3) := by decide +kernel
theorem dX5_next_78 : decode cX5_next 78 = .ok (.aload_n 0, 1) := by decide +kernel
theorem dX5_next_79 : decode cX5_next 79 = .ok (.getfield 30, 3) := by decide +kernel
theorem dX5_next_82 : decode cX5_next 82 = .ok (.aload_n 0, 1) := by decide +kernel
theorem dX5_next_83 : decode cX5_next 83 = .ok (.getfield 12, 3) := by decide +kernel
theorem dX5_next_86 : decode cX5_next 86 = .ok (.getfield 98, 3) := by decide +kernel
theorem dX5_next_89 : decode cX5_next 89 = .ok (.iconst 1, 1) := by decide +kernel
theorem dX5_next_90 : decode cX5_next 90 = .ok (.invokestatic 101, 3) := by decide +kernel
theorem dX5_next_93 : decode cX5_next 93 = .ok (.invokevirtual 184, 3) := by decide +kernel
theorem dX5_next_96 : decode cX5_next 96 = .ok (.lstore 7, 2) := by decide +kernel
theorem dX5_next_98 : decode cX5_next 98 = .ok (.lload 7, 2) := by decide +kernel
theorem dX5_next_100 : decode cX5_next 100 = .ok (.lload_n 3, 1) := by decide +kernel
theorem dX5_next_101 : decode cX5_next 101 = .ok (.lcmp, 1) := by decide +kernel
theorem dX5_next_102 : decode cX5_next 102 = .ok (.ifCond .ge 15, 3) := by decide +kernel
theorem dX5_next_105 : decode cX5_next 105 = .ok (.lload 7, 2) := by decide +kernel
theorem dX5_next_107 : decode cX5_next 107 = .ok (.lstore_n 3, 1) := by decide +kernel
theorem dX5_next_108 : decode cX5_next 108 = .ok (.bipush 10, 2) := by decide +kernel
theorem dX5_next_110 : decode cX5_next 110 = .ok (.iload 5, 2) := by decide +kernel
theorem dX5_next_112 : decode cX5_next 112 = .ok (.imul, 1) := by decide +kernel
theorem dX5_next_113 : decode cX5_next 113 = .ok (.iload 6, 2) := by decide +kernel
theorem dX5_next_115 : decode cX5_next 115 = .ok (.iadd, 1) := by decide +kernel
theorem dX5_next_116 : decode cX5_next 116 = .ok (.istore_n 2, 1) := by decide +kernel
theorem dX5_next_117 : decode cX5_next 117 = .ok (.iinc 6 1, 3) := by decide +kernel
theorem dX5_next_120 : decode cX5_next 120 = .ok (.goto (-57), 3) := by decide +kernel
theorem dX5_next_123 : decode cX5_next 123 = .ok (.iinc 5 1, 3) := by decide +kernel
theorem dX5_next_126 : decode cX5_next 126 = .ok (.goto (-89), 3) := by decide +kernel
theorem dX5_next_129 : decode cX5_next 129 = .ok (.iload_n 2, 1) := by decide +kernel
theorem dX5_next_130 : decode cX5_next 130 = .ok (.ireturn, 1) := by decide +kernel
theorem dX5_leaks_0 : decode cX5_leaks 0 = .ok (.iload_n 1, 1) := by decide +kernel
theorem dX5_leaks_1 : decode cX5_leaks 1 = .ok (.ifCond .lt 9, 3) := by decide +kernel
theorem dX5_leaks_4 : decode cX5_leaks 4 = .ok (.iload_n 1, 1) := by decide +kernel
theorem dX5_leaks_5 : decode cX5_leaks 5 = .ok (.ldc 188, 2) := by decide +kernel
theorem dX5_leaks_7 : decode cX5_leaks 7 = .ok (.if_icmp .le 8, 3) := by decide +kernel
theorem dX5_leaks_10 : decode cX5_leaks 10 = .ok (.aload_n 0, 1) := by decide +kernel
theorem dX5_leaks_11 : decode cX5_leaks 11 = .ok (.invokevirtual 59, 3) := by decide +kernel
theorem dX5_leaks_14 : decode cX5_leaks 14 = .ok (.ireturn, 1) := by decide +kernel
theorem dX5_leaks_15 : decode cX5_leaks 15 = .ok (.aload_n 0, 1) := by decide +kernel
theorem dX5_leaks_16 : decode cX5_leaks 16 = .ok (.invokevirtual 144, 3) := by decide +kernel
theorem dX5_leaks_19 : decode cX5_leaks 19 = .ok (.ifCond .eq 8, 3) := by decide +kernel
theorem dX5_leaks_22 : decode cX5_leaks 22 = .ok (.aload_n 0, 1) := by decide +kernel
theorem dX5_leaks_23 : decode cX5_leaks 23 = .ok (.invokevirtual 90, 3) := by decide +kernel
theorem dX5_leaks_26 : decode cX5_leaks 26 = .ok (.ireturn, 1) := by decide +kernel
theorem dX5_leaks_27 : decode cX5_leaks 27 = .ok (.aload_n 0, 1) := by decide +kernel
theorem dX5_leaks_28 : decode cX5_leaks 28 = .ok (.getfield 23, 3) := by decide +kernel
theorem dX5_leaks_31 : decode cX5_leaks 31 = .ok (.aload_n 0, 1) := by decide +kernel
theorem dX5_leaks_32 : decode cX5_leaks 32 = .ok (.getfield 30, 3) := by decide +kernel
theorem dX5_leaks_35 : decode cX5_leaks 35 = .ok (.getfield 173, 3) := by decide +kernel
theorem dX5_leaks_38 : decode cX5_leaks 38 = .ok (.invokevirtual 189, 3) := by decide +kernel
theorem dX5_leaks_41 : decode cX5_leaks 41 = .ok (.aload_n 0, 1) := by decide +kernel
theorem dX5_leaks_42 : decode cX5_leaks 42 = .ok (.getfield 30, 3) := by decide +kernel
theorem dX5_leaks_45 : decode cX5_leaks 45 = .ok (.iconst 4, 1) := by decide +kernel
theorem dX5_leaks_46 : decode cX5_leaks 46 = .ok (.invokevirtual 180, 3) := by decide +kernel
theorem dX5_leaks_49 : decode cX5_leaks 49 = .ok (.aload_n 0, 1) := by decide +kernel
theorem dX5_leaks_50 : decode cX5_leaks 50 = .ok (.getfield 44, 3) := by decide +kernel
theorem dX5_leaks_53 : decode cX5_leaks 53 = .ok (.aload_n 0, 1) := by decide +kernel
theorem dX5_leaks_54 : decode cX5_leaks 54 = .ok (.getfield 30, 3) := by decide +kernel
theorem dX5_leaks_57 : decode cX5_leaks 57 = .ok (.iload_n 1, 1) := by decide +kernel
theorem dX5_leaks_58 : decode cX5_leaks 58 = .ok (.invokevirtual 193, 3) := by decide +kernel
theorem dX5_leaks_61 : decode cX5_leaks 61 = .ok (.aload_n 0, 1) := by decide +kernel
theorem dX5_leaks_62 : decode cX5_leaks 62 = .ok (.getfield 30, 3) := by decide +kernel
theorem dX5_leaks_65 : decode cX5_leaks 65 = .ok (.getfield 151, 3) := by decide +kernel
theorem dX5_leaks_68 : decode cX5_leaks 68 = .ok (.invokevirtual 155, 3) := by decide +kernel
theorem dX5_leaks_71 : decode cX5_leaks 71 = .ok (.iconst 1, 1) := by decide +kernel
theorem dX5_leaks_72 : decode cX5_leaks 72 = .ok (.ireturn, 1) := by decide +kernel
theorem dX5_hidden_0 : decode cX5_hidden 0 = .ok (.aload_n 0, 1) := by decide +kernel
theorem dX5_hidden_1 : decode cX5_hidden 1 = .ok (.invokevirtual 86, 3) := by decide +kernel
theorem dX5_hidden_4 : decode cX5_hidden 4 = .ok (.ifCond .eq 8, 3) := by decide +kernel
theorem dX5_hidden_7 : decode cX5_hidden 7 = .ok (.aload_n 0, 1) := by decide +kernel
theorem dX5_hidden_8 : decode cX5_hidden 8 = .ok (.invokevirtual 90, 3) := by decide +kernel
theorem dX5_hidden_11 : decode cX5_hidden 11 = .ok (.ireturn, 1) := by decide +kernel
theorem dX5_hidden_12 : decode cX5_hidden 12 = .ok (.aload_n 0, 1) := by decide +kernel
theorem dX5_hidden_13 : decode cX5_hidden 13 = .ok (.getfield 23, 3) := by decide +kernel
theorem dX5_hidden_16 : decode cX5_hidden 16 = .ok (.bipush 100, 2) := by decide +kernel
theorem dX5_hidden_18 : decode cX5_hidden 18 = .ok (.invokevirtual 196, 3) := by decide +kernel
theorem dX5_hidden_21 : decode cX5_hidden 21 = .ok (.iconst 0, 1) := by decide +kernel
theorem dX5_hidden_22 : decode cX5_hidden 22 = .ok (.istore_n 1, 1) := by decide +kernel
theorem dX5_hidden_23 : decode cX5_hidden 23 = .ok (.iconst 0, 1) := by decide +kernel
theorem dX5_hidden_24 : decode cX5_hidden 24 = .ok (.istore_n 2, 1) := by decide +kernel
theorem dX5_hidden_25 : decode cX5_hidden 25 = .ok (.iload_n 2, 1) := by decide +kernel
theorem dX5_hidden_26 : decode cX5_hidden 26 = .ok (.bipush 7, 2) := by decide +kernel
theorem dX5_hidden_28 : decode cX5_hidden 28 = .ok (.if_icmp .ge 30, 3) := by decide +kernel
theorem dX5_hidden_31 : decode cX5_hidden 31 = .ok (.aload_n 0, 1) := by decide +kernel
theorem dX5_hidden_32 : decode cX5_hidden 32 = .ok (.getfield 23, 3) := by decide +kernel
theorem dX5_hidden_35 : decode cX5_hidden 35 = .ok (.iload_n 2, 1) := by decide +kernel
theorem dX5_hidden_36 : decode cX5_hidden 36 = .ok (.iconst 3, 1) := by decide +kernel
theorem dX5_hidden_37 : decode cX5_hidden 37 = .ok (.invokestatic 114, 3) := by decide +kernel
theorem dX5_hidden_40 : decode cX5_hidden 40 = .ok (.invokevirtual 199, 3) := by decide +kernel
theorem dX5_hidden_43 : decode cX5_hidden 43 = .ok (.ifCond .eq 9, 3) := by decide +kernel
theorem dX5_hidden_46 : decode cX5_hidden 46 = .ok (.iload_n 1, 1) := by decide +kernel
theorem dX5_hidden_47 : decode cX5_hidden 47 = .ok (.iconst 1, 1) := by decide +kernel
theorem dX5_hidden_48 : decode cX5_hidden 48 = .ok (.iload_n 2, 1) := by decide +kernel
theorem dX5_hidden_49 : decode cX5_hidden 49 = .ok (.ishl, 1) := by decide +kernel
theorem dX5_hidden_50 : decode cX5_hidden 50 = .ok (.ior, 1) := by decide +kernel
theorem dX5_hidden_51 : decode cX5_hidden 51 = .ok (.istore_n 1, 1) := by decide +kernel
theorem dX5_hidden_52 : decode cX5_hidden 52 = .ok (.iinc 2 1, 3) := by decide +kernel
theorem dX5_hidden_55 : decode cX5_hidden 55 = .ok (.goto (-30), 3) := by decide +kernel
theorem dX5_hidden_58 : decode cX5_hidden 58 = .ok (.aload_n 0, 1) := by decide +kernel
theorem dX5_hidden_59 : decode cX5_hidden 59 = .ok (.getfield 23, 3) := by decide +kernel
theorem dX5_hidden_62 : decode cX5_hidden 62 = .ok (.aload_n 0, 1) := by decide +kernel
theorem dX5_hidden_63 : decode cX5_hidden 63 = .ok (.getfield 12, 3) := by decide +kernel
theorem dX5_hidden_66 : decode cX5_hidden 66 = .ok (.getfield 98, 3) := by decide +kernel
theorem dX5_hidden_69 : decode cX5_hidden 69 = .ok (.iconst 0, 1) := by decide +kernel
theorem dX5_hidden_70 : decode cX5_hidden 70 = .ok (.invokestatic 101, 3) := by decide +kernel
theorem dX5_hidden_73 : decode cX5_hidden 73 = .ok (.invokevirtual 196, 3) := by decide +kernel
theorem dX5_hidden_76 : decode cX5_hidden 76 = .ok (.iload_n 1, 1) := by decide +kernel
theorem dX5_hidden_77 : decode cX5_hidden 77 = .ok (.ireturn, 1) := by decide +kernel
theorem dX5_gone_0 : decode cX5_gone 0 = .ok (.iload_n 1, 1) := by decide +kernel
theorem dX5_gone_1 : decode cX5_gone 1 = .ok (.invokestatic 202, 3) := by decide +kernel
theorem dX5_gone_4 : decode cX5_gone 4 = .ok (.ifCond .eq 23, 3) := by decide +kernel
theorem dX5_gone_7 : decode cX5_gone 7 = .ok (.iload_n 2, 1) := by decide +kernel
theorem dX5_gone_8 : decode cX5_gone 8 = .ok (.ifCond .lt 19, 3) := by decide +kernel
theorem dX5_gone_11 : decode cX5_gone 11 = .ok (.iload_n 2, 1) := by decide +kernel
theorem dX5_gone_12 : decode cX5_gone 12 = .ok (.bipush 9, 2) := by decide +kernel
theorem dX5_gone_14 : decode cX5_gone 14 = .ok (.if_icmp .gt 13, 3) := by decide +kernel
theorem dX5_gone_17 : decode cX5_gone 17 = .ok (.iload_n 3, 1) := by decide +kernel
theorem dX5_gone_18 : decode cX5_gone 18 = .ok (.ifCond .lt 9, 3) := by decide +kernel
theorem dX5_gone_21 : decode cX5_gone 21 = .ok (.iload_n 3, 1) := by decide +kernel
theorem dX5_gone_22 : decode cX5_gone 22 = .ok (.bipush 20, 2) := by decide +kernel
theorem dX5_gone_24 : decode cX5_gone 24 = .ok (.if_icmp .le 8, 3) := by decide +kernel
theorem dX5_gone_27 : decode cX5_gone 27 = .ok (.aload_n 0, 1) := by decide +kernel
theorem dX5_gone_28 : decode cX5_gone 28 = .ok (.invokevirtual 59, 3) := by decide +kernel
theorem dX5_gone_31 : decode cX5_gone 31 = .ok (.ireturn, 1) := by decide +kernel
theorem dX5_gone_32 : decode cX5_gone 32 = .ok (.aload_n 0, 1) := by decide +kernel
theorem dX5_gone_33 : decode cX5_gone 33 = .ok (.getfield 44, 3) := by decide +kernel
theorem dX5_gone_36 : decode cX5_gone 36 = .ok (.iload_n 1, 1) := by decide +kernel
theorem dX5_gone_37 : decode cX5_gone 37 = .ok (.iload_n 2, 1) := by decide +kernel
theorem dX5_gone_38 : decode cX5_gone 38 = .ok (.iload_n 3, 1) := by decide +kernel
theorem dX5_gone_39 : decode cX5_gone 39 = .ok (.invokevirtual 205, 3) := by decide +kernel
theorem dX5_gone_42 : decode cX5_gone 42 = .ok (.iconst 1, 1) := by decide +kernel
theorem dX5_gone_43 : decode cX5_gone 43 = .ok (.ireturn, 1) := by decide +kernel
theorem dX5_harvest_0 : decode cX5_harvest 0 = .ok (.iload_n 2, 1) := by decide +kernel
theorem dX5_harvest_1 : decode cX5_harvest 1 = .ok (.ifCond .lt 14, 3) := by decide +kernel
theorem dX5_harvest_4 : decode cX5_harvest 4 = .ok (.iload_n 1, 1) := by decide +kernel
theorem dX5_harvest_5 : decode cX5_harvest 5 = .ok (.iload_n 2, 1) := by decide +kernel
theorem dX5_harvest_6 : decode cX5_harvest 6 = .ok (.iload_n 3, 1) := by decide +kernel
theorem dX5_harvest_7 : decode cX5_harvest 7 = .ok (.iload 4, 2) := by decide +kernel
theorem dX5_harvest_9 : decode cX5_harvest 9 = .ok (.invokestatic 209, 3) := by decide +kernel
theorem dX5_harvest_12 : decode cX5_harvest 12 = .ok (.ifCond .ne 8, 3) := by decide +kernel
theorem dX5_harvest_15 : decode cX5_harvest 15 = .ok (.aload_n 0, 1) := by decide +kernel
theorem dX5_harvest_16 : decode cX5_harvest 16 = .ok (.invokevirtual 59, 3) := by decide +kernel
theorem dX5_harvest_19 : decode cX5_harvest 19 = .ok (.ireturn, 1) := by decide +kernel
theorem dX5_harvest_20 : decode cX5_harvest 20 = .ok (.aload_n 0, 1) := by decide +kernel
theorem dX5_harvest_21 : decode cX5_harvest 21 = .ok (.getfield 37, 3) := by decide +kernel
theorem dX5_harvest_24 : decode cX5_harvest 24 = .ok (.iload_n 1, 1) := by decide +kernel
theorem dX5_harvest_25 : decode cX5_harvest 25 = .ok (.iload_n 2, 1) := by decide +kernel
theorem dX5_harvest_26 : decode cX5_harvest 26 = .ok (.iload_n 3, 1) := by decide +kernel
theorem dX5_harvest_27 : decode cX5_harvest 27 = .ok (.iload 4, 2) := by decide +kernel
theorem dX5_harvest_29 : decode cX5_harvest 29 = .ok (.invokevirtual 213, 3) := by decide +kernel
theorem dX5_harvest_32 : decode cX5_harvest 32 = .ok (.aload_n 0, 1) := by decide +kernel
theorem dX5_harvest_33 : decode cX5_harvest 33 = .ok (.getfield 44, 3) := by decide +kernel
theorem dX5_harvest_36 : decode cX5_harvest 36 = .ok (.aload_n 0, 1) := by decide +kernel
theorem dX5_harvest_37 : decode cX5_harvest 37 = .ok (.getfield 37, 3) := by decide +kernel
theorem dX5_harvest_40 : decode cX5_harvest 40 = .ok (.getfield 217, 3) := by decide +kernel
theorem dX5_harvest_43 : decode cX5_harvest 43 = .ok (.iload_n 1, 1) := by decide +kernel
theorem dX5_harvest_44 : decode cX5_harvest 44 = .ok (.invokestatic 221, 3) := by decide +kernel
theorem dX5_harvest_47 : decode cX5_harvest 47 = .ok (.aload_n 0, 1) := by decide +kernel
theorem dX5_harvest_48 : decode cX5_harvest 48 = .ok (.getfield 37, 3) := by decide +kernel
theorem dX5_harvest_51 : decode cX5_harvest 51 = .ok (.getfield 224, 3) := by decide +kernel
theorem dX5_harvest_54 : decode cX5_harvest 54 = .ok (.invokevirtual 155, 3) := by decide +kernel
theorem dX5_harvest_57 : decode cX5_harvest 57 = .ok (.iconst 1, 1) := by decide +kernel
theorem dX5_harvest_58 : decode cX5_harvest 58 = .ok (.ireturn, 1) := by decide +kernel
theorem dX5_drive_0 : decode cX5_drive 0 = .ok (.iload_n 2, 1) := by decide +kernel
theorem dX5_drive_1 : decode cX5_drive 1 = .ok (.iconst 1, 1) := by decide +kernel
theorem dX5_drive_2 : decode cX5_drive 2 = .ok (.if_icmp .lt 14, 3) := by decide +kernel
theorem dX5_drive_5 : decode cX5_drive 5 = .ok (.iload_n 1, 1) := by decide +kernel
theorem dX5_drive_6 : decode cX5_drive 6 = .ok (.iload_n 2, 1) := by decide +kernel
theorem dX5_drive_7 : decode cX5_drive 7 = .ok (.iload_n 3, 1) := by decide +kernel
theorem dX5_drive_8 : decode cX5_drive 8 = .ok (.iload 4, 2) := by decide +kernel
theorem dX5_drive_10 : decode cX5_drive 10 = .ok (.invokestatic 209, 3) := by decide +kernel
theorem dX5_drive_13 : decode cX5_drive 13 = .ok (.ifCond .ne 8, 3) := by decide +kernel
theorem dX5_drive_16 : decode cX5_drive 16 = .ok (.aload_n 0, 1) := by decide +kernel
theorem dX5_drive_17 : decode cX5_drive 17 = .ok (.invokevirtual 59, 3) := by decide +kernel
theorem dX5_drive_20 : decode cX5_drive 20 = .ok (.ireturn, 1) := by decide +kernel
theorem dX5_drive_21 : decode cX5_drive 21 = .ok (.aload_n 0, 1) := by decide +kernel
theorem dX5_drive_22 : decode cX5_drive 22 = .ok (.getfield 37, 3) := by decide +kernel
theorem dX5_drive_25 : decode cX5_drive 25 = .ok (.iload_n 1, 1) := by decide +kernel
theorem dX5_drive_26 : decode cX5_drive 26 = .ok (.iload_n 2, 1) := by decide +kernel
theorem dX5_drive_27 : decode cX5_drive 27 = .ok (.iload_n 3, 1) := by decide +kernel
theorem dX5_drive_28 : decode cX5_drive 28 = .ok (.iload 4, 2) := by decide +kernel
theorem dX5_drive_30 : decode cX5_drive 30 = .ok (.invokevirtual 213, 3) := by decide +kernel
theorem dX5_drive_33 : decode cX5_drive 33 = .ok (.aload_n 0, 1) := by decide +kernel
theorem dX5_drive_34 : decode cX5_drive 34 = .ok (.getfield 37, 3) := by decide +kernel
theorem dX5_drive_37 : decode cX5_drive 37 = .ok (.getfield 227, 3) := by decide +kernel
theorem dX5_drive_40 : decode cX5_drive 40 = .ok (.ireturn, 1) := by decide +kernel
theorem dX5_sign_0 : decode cX5_sign 0 = .ok (.iload_n 1, 1) := by decide +kernel
theorem dX5_sign_1 : decode cX5_sign 1 = .ok (.ifCond .lt 8, 3) := by decide +kernel
theorem dX5_sign_4 : decode cX5_sign 4 = .ok (.iload_n 1, 1) := by decide +kernel
theorem dX5_sign_5 : decode cX5_sign 5 = .ok (.iconst 2, 1) := by decide +kernel
theorem dX5_sign_6 : decode cX5_sign 6 = .ok (.if_icmp .le 8, 3) := by decide +kernel
theorem dX5_sign_9 : decode cX5_sign 9 = .ok (.aload_n 0, 1) := by decide +kernel
theorem dX5_sign_10 : decode cX5_sign 10 = .ok (.invokevirtual 59, 3) := by decide +kernel
theorem dX5_sign_13 : decode cX5_sign 13 = .ok (.ireturn, 1) := by decide +kernel
theorem dX5_sign_14 : decode cX5_sign 14 = .ok (.aload_n 0, 1) := by decide +kernel
theorem dX5_sign_15 : decode cX5_sign 15 = .ok (.iload_n 1, 1) := by decide +kernel
theorem dX5_sign_16 : decode cX5_sign 16 = .ok (.invokevirtual 243, 3) := by decide +kernel
theorem dX5_sign_19 : decode cX5_sign 19 = .ok (.ireturn, 1) := by decide +kernel
theorem dX5_limb_0 : decode cX5_limb 0 = .ok (.iload_n 1, 1) := by decide +kernel
theorem dX5_limb_1 : decode cX5_limb 1 = .ok (.ifCond .lt 12, 3) := by decide +kernel
theorem dX5_limb_4 : decode cX5_limb 4 = .ok (.iload_n 1, 1) := by decide +kernel
theorem dX5_limb_5 : decode cX5_limb 5 = .ok (.iconst 1, 1) := by decide +kernel
theorem dX5_limb_6 : decode cX5_limb 6 = .ok (.if_icmp .gt 7, 3) := by decide +kernel
theorem dX5_limb_9 : decode cX5_limb 9 = .ok (.iload_n 2, 1) := by decide +kernel
theorem dX5_limb_10 : decode cX5_limb 10 = .ok (.ifCond .ge 8, 3) := by decide +kernel
theorem dX5_limb_13 : decode cX5_limb 13 = .ok (.aload_n 0, 1) := by decide +kernel
theorem dX5_limb_14 : decode cX5_limb 14 = .ok (.invokevirtual 59, 3) := by decide +kernel
theorem dX5_limb_17 : decode cX5_limb 17 = .ok (.ireturn, 1) := by decide +kernel
theorem dX5_limb_18 : decode cX5_limb 18 = .ok (.iload_n 2, 1) := by decide +kernel
theorem dX5_limb_19 : decode cX5_limb 19 = .ok (.aload_n 0, 1) := by decide +kernel
theorem dX5_limb_20 : decode cX5_limb 20 = .ok (.iload_n 1, 1) := by decide +kernel
theorem dX5_limb_21 : decode cX5_limb 21 = .ok (.iconst 1, 1) := by decide +kernel
theorem dX5_limb_22 : decode cX5_limb 22 = .ok (.iadd, 1) := by decide +kernel
theorem dX5_limb_23 : decode cX5_limb 23 = .ok (.invokevirtual 243, 3) := by decide +kernel
theorem dX5_limb_26 : decode cX5_limb 26 = .ok (.if_icmp .lt 5, 3) := by decide +kernel
theorem dX5_limb_29 : decode cX5_limb 29 = .ok (.iconst (-1), 1) := by decide +kernel
theorem dX5_limb_30 : decode cX5_limb 30 = .ok (.ireturn, 1) := by decide +kernel
theorem dX5_limb_31 : decode cX5_limb 31 = .ok (.aload_n 0, 1) := by decide +kernel
theorem dX5_limb_32 : decode cX5_limb 32 = .ok (.getfield 44, 3) := by decide +kernel
theorem dX5_limb_35 : decode cX5_limb 35 = .ok (.iload_n 1, 1) := by decide +kernel
theorem dX5_limb_36 : decode cX5_limb 36 = .ok (.iload_n 2, 1) := by decide +kernel
theorem dX5_limb_37 : decode cX5_limb 37 = .ok (.invokevirtual 246, 3) := by decide +kernel
theorem dX5_limb_40 : decode cX5_limb 40 = .ok (.ireturn, 1) := by decide +kernel
theorem dX5_image_0 : decode cX5_image 0 = .ok (.iload_n 1, 1) := by decide +kernel
theorem dX5_image_1 : decode cX5_image 1 = .ok (.ifCond .lt 12, 3) := by decide +kernel
theorem dX5_image_4 : decode cX5_image 4 = .ok (.iload_n 1, 1) := by decide +kernel
theorem dX5_image_5 : decode cX5_image 5 = .ok (.aload_n 0, 1) := by decide +kernel
theorem dX5_image_6 : decode cX5_image 6 = .ok (.getfield 16, 3) := by decide +kernel
theorem dX5_image_9 : decode cX5_image 9 = .ok (.arraylength, 1) := by decide +kernel
theorem dX5_image_10 : decode cX5_image 10 = .ok (.if_icmp .lt 8, 3) := by decide +kernel
theorem dX5_image_13 : decode cX5_image 13 = .ok (.aload_n 0, 1) := by decide +kernel
theorem dX5_image_14 : decode cX5_image 14 = .ok (.invokevirtual 59, 3) := by decide +kernel
theorem dX5_image_17 : decode cX5_image 17 = .ok (.ireturn, 1) := by decide +kernel
theorem dX5_image_18 : decode cX5_image 18 = .ok (.aload_n 0, 1) := by decide +kernel
theorem dX5_image_19 : decode cX5_image 19 = .ok (.getfield 16, 3) := by decide +kernel
theorem dX5_image_22 : decode cX5_image 22 = .ok (.iload_n 1, 1) := by decide +kernel
theorem dX5_image_23 : decode cX5_image 23 = .ok (.aaload, 1) := by decide +kernel
theorem dX5_image_24 : decode cX5_image 24 = .ok (.astore_n 2, 1) := by decide +kernel
theorem dX5_image_25 : decode cX5_image 25 = .ok (.aload_n 2, 1) := by decide +kernel
theorem dX5_image_26 : decode cX5_image 26 = .ok (.ifnonnull 18, 3) := by decide +kernel
theorem dX5_image_29 : decode cX5_image 29 = .ok (.new 9, 3) := by decide +kernel
theorem dX5_image_32 : decode cX5_image 32 = .ok (.dup, 1) := by decide +kernel
theorem dX5_image_33 : decode cX5_image 33 = .ok (.invokespecial 11, 3) := by decide +kernel
theorem dX5_image_36 : decode cX5_image 36 = .ok (.astore_n 2, 1) := by decide +kernel
theorem dX5_image_37 : decode cX5_image 37 = .ok (.aload_n 0, 1) := by decide +kernel
theorem dX5_image_38 : decode cX5_image 38 = .ok (.getfield 16, 3) := by decide +kernel
theorem dX5_image_41 : decode cX5_image 41 = .ok (.iload_n 1, 1) := by decide +kernel
theorem dX5_image_42 : decode cX5_image 42 = .ok (.aload_n 2, 1) := by decide +kernel
theorem dX5_image_43 : decode cX5_image 43 = .ok (.aastore, 1) := by decide +kernel
theorem dX5_image_44 : decode cX5_image 44 = .ok (.aload_n 2, 1) := by decide +kernel
theorem dX5_image_45 : decode cX5_image 45 = .ok (.aload_n 0, 1) := by decide +kernel
theorem dX5_image_46 : decode cX5_image 46 = .ok (.getfield 12, 3) := by decide +kernel
theorem dX5_image_49 : decode cX5_image 49 = .ok (.invokevirtual 249, 3) := by decide +kernel
theorem dX5_image_52 : decode cX5_image 52 = .ok (.iconst 1, 1) := by decide +kernel
theorem dX5_image_53 : decode cX5_image 53 = .ok (.ireturn, 1) := by decide +kernel
theorem dX5_from_0 : decode cX5_from 0 = .ok (.iload_n 1, 1) := by decide +kernel
theorem dX5_from_1 : decode cX5_from 1 = .ok (.ifCond .lt 12, 3) := by decide +kernel
theorem dX5_from_4 : decode cX5_from 4 = .ok (.iload_n 1, 1) := by decide +kernel
theorem dX5_from_5 : decode cX5_from 5 = .ok (.aload_n 0, 1) := by decide +kernel
theorem dX5_from_6 : decode cX5_from 6 = .ok (.getfield 16, 3) := by decide +kernel
theorem dX5_from_9 : decode cX5_from 9 = .ok (.arraylength, 1) := by decide +kernel
theorem dX5_from_10 : decode cX5_from 10 = .ok (.if_icmp .lt 8, 3) := by decide +kernel
theorem dX5_from_13 : decode cX5_from 13 = .ok (.aload_n 0, 1) := by decide +kernel
theorem dX5_from_14 : decode cX5_from 14 = .ok (.invokevirtual 59, 3) := by decide +kernel
theorem dX5_from_17 : decode cX5_from 17 = .ok (.ireturn, 1) := by decide +kernel
theorem dX5_from_18 : decode cX5_from 18 = .ok (.aload_n 0, 1) := by decide +kernel
theorem dX5_from_19 : decode cX5_from 19 = .ok (.getfield 16, 3) := by decide +kernel
theorem dX5_from_22 : decode cX5_from 22 = .ok (.iload_n 1, 1) := by decide +kernel
theorem dX5_from_23 : decode cX5_from 23 = .ok (.aaload, 1) := by decide +kernel
theorem dX5_from_24 : decode cX5_from 24 = .ok (.astore_n 2, 1) := by decide +kernel
theorem dX5_from_25 : decode cX5_from 25 = .ok (.aload_n 2, 1) := by decide +kernel
theorem dX5_from_26 : decode cX5_from 26 = .ok (.ifnonnull 8, 3) := by decide +kernel
theorem dX5_from_29 : decode cX5_from 29 = .ok (.aload_n 0, 1) := by decide +kernel
theorem dX5_from_30 : decode cX5_from 30 = .ok (.invokevirtual 90, 3) := by decide +kernel
theorem dX5_from_33 : decode cX5_from 33 = .ok (.ireturn, 1) := by decide +kernel
theorem dX5_from_34 : decode cX5_from 34 = .ok (.aload_n 0, 1) := by decide +kernel
theorem dX5_from_35 : decode cX5_from 35 = .ok (.getfield 12, 3) := by decide +kernel
theorem dX5_from_38 : decode cX5_from 38 = .ok (.aload_n 2, 1) := by decide +kernel
theorem dX5_from_39 : decode cX5_from 39 = .ok (.invokevirtual 249, 3) := by decide +kernel
theorem dX5_from_42 : decode cX5_from 42 = .ok (.aload_n 0, 1) := by decide +kernel
theorem dX5_from_43 : decode cX5_from 43 = .ok (.invokevirtual 77, 3) := by decide +kernel
theorem dX5_from_46 : decode cX5_from 46 = .ok (.iconst 1, 1) := by decide +kernel
theorem dX5_from_47 : decode cX5_from 47 = .ok (.ireturn, 1) := by decide +kernel
theorem dX5_status_0 : decode cX5_status 0 = .ok (.iload_n 1, 1) := by decide +kernel
theorem dX5_status_1 : decode cX5_status 1 = .ok (.ifCond .lt 12, 3) := by decide +kernel
theorem dX5_status_4 : decode cX5_status 4 = .ok (.iload_n 1, 1) := by decide +kernel
theorem dX5_status_5 : decode cX5_status 5 = .ok (.aload_n 0, 1) := by decide +kernel
theorem dX5_status_6 : decode cX5_status 6 = .ok (.getfield 48, 3) := by decide +kernel
theorem dX5_status_9 : decode cX5_status 9 = .ok (.arraylength, 1) := by decide +kernel
theorem dX5_status_10 : decode cX5_status 10 = .ok (.if_icmp .lt 10, 3) := by decide +kernel
theorem dX5_status_13 : decode cX5_status 13 = .ok (.aload_n 0, 1) := by decide +kernel
theorem dX5_status_14 : decode cX5_status 14 = .ok (.invokevirtual 59, 3) := by decide +kernel
theorem dX5_status_17 : decode cX5_status 17 = .ok (.pop, 1) := by decide +kernel
theorem dX5_status_18 : decode cX5_status 18 = .ok (.iconst (-1), 1) := by decide +kernel
theorem dX5_status_19 : decode cX5_status 19 = .ok (.ireturn, 1) := by decide +kernel
theorem dX5_status_20 : decode cX5_status 20 = .ok (.aload_n 0, 1) := by decide +kernel
theorem dX5_status_21 : decode cX5_status 21 = .ok (.getfield 48, 3) := by decide +kernel
theorem dX5_status_24 : decode cX5_status 24 = .ok (.iload_n 1, 1) := by decide +kernel
theorem dX5_status_25 : decode cX5_status 25 = .ok (.iaload, 1) := by decide +kernel
theorem dX5_status_26 : decode cX5_status 26 = .ok (.ireturn, 1) := by decide +kernel
theorem dX5_digest_0 : decode cX5_digest 0 = .ok (.ldc2_w 256, 3) := by decide +kernel
theorem dX5_digest_3 : decode cX5_digest 3 = .ok (.lstore_n 1, 1) := by decide +kernel
theorem dX5_digest_4 : decode cX5_digest 4 = .ok (.iconst 0, 1) := by decide +kernel
theorem dX5_digest_5 : decode cX5_digest 5 = .ok (.istore_n 3, 1) := by decide +kernel
theorem dX5_digest_6 : decode cX5_digest 6 = .ok (.iload_n 3, 1) := by decide +kernel
theorem dX5_digest_7 : decode cX5_digest 7 = .ok (.iconst 3, 1) := by decide +kernel
theorem dX5_digest_8 : decode cX5_digest 8 = .ok (.if_icmp .gt 25, 3) := by decide +kernel
theorem dX5_digest_11 : decode cX5_digest 11 = .ok (.ldc2_w 258, 3) := by decide +kernel
theorem dX5_digest_14 : decode cX5_digest 14 = .ok (.lload_n 1, 1) := by decide +kernel
theorem dX5_digest_15 : decode cX5_digest 15 = .ok (.lmul, 1) := by decide +kernel
theorem dX5_digest_16 : decode cX5_digest 16 = .ok (.aload_n 0, 1) := by decide +kernel
theorem dX5_digest_17 : decode cX5_digest 17 = .ok (.getfield 12, 3) := by decide +kernel
theorem dX5_digest_20 : decode cX5_digest 20 = .ok (.iload_n 3, 1) := by decide +kernel
theorem dX5_digest_21 : decode cX5_digest 21 = .ok (.invokevirtual 253, 3) := by decide +kernel
theorem dX5_digest_24 : decode cX5_digest 24 = .ok (.i2l, 1) := by decide +kernel
theorem dX5_digest_25 : decode cX5_digest 25 = .ok (.ladd, 1) := by decide +kernel
theorem dX5_digest_26 : decode cX5_digest 26 = .ok (.lstore_n 1, 1) := by decide +kernel
theorem dX5_digest_27 : decode cX5_digest 27 = .ok (.iinc 3 1, 3) := by decide +kernel
theorem dX5_digest_30 : decode cX5_digest 30 = .ok (.goto (-24), 3) := by decide +kernel
theorem dX5_digest_33 : decode cX5_digest 33 = .ok (.lload_n 1, 1) := by decide +kernel
theorem dX5_digest_34 : decode cX5_digest 34 = .ok (.aload_n 0, 1) := by decide +kernel
theorem dX5_digest_35 : decode cX5_digest 35 = .ok (.getfield 12, 3) := by decide +kernel
theorem dX5_digest_38 : decode cX5_digest 38 = .ok (.getfield 70, 3) := by decide +kernel
theorem dX5_digest_41 : decode cX5_digest 41 = .ok (.aload_n 0, 1) := by decide +kernel
theorem dX5_digest_42 : decode cX5_digest 42 = .ok (.getfield 12, 3) := by decide +kernel
theorem dX5_digest_45 : decode cX5_digest 45 = .ok (.getfield 63, 3) := by decide +kernel
theorem dX5_digest_48 : decode cX5_digest 48 = .ok (.invokestatic 260, 3) := by decide +kernel
theorem dX5_digest_51 : decode cX5_digest 51 = .ok (.lstore_n 1, 1) := by decide +kernel
theorem dX5_digest_52 : decode cX5_digest 52 = .ok (.lload_n 1, 1) := by decide +kernel
theorem dX5_digest_53 : decode cX5_digest 53 = .ok (.aload_n 0, 1) := by decide +kernel
theorem dX5_digest_54 : decode cX5_digest 54 = .ok (.getfield 12, 3) := by decide +kernel
theorem dX5_digest_57 : decode cX5_digest 57 = .ok (.getfield 98, 3) := by decide +kernel
theorem dX5_digest_60 : decode cX5_digest 60 = .ok (.iconst 4, 1) := by decide +kernel
theorem dX5_digest_61 : decode cX5_digest 61 = .ok (.invokestatic 260, 3) := by decide +kernel
theorem dX5_digest_64 : decode cX5_digest 64 = .ok (.lstore_n 1, 1) := by decide +kernel
theorem dX5_digest_65 : decode cX5_digest 65 = .ok (.lload_n 1, 1) := by decide +kernel
theorem dX5_digest_66 : decode cX5_digest 66 = .ok (.aload_n 0, 1) := by decide +kernel
theorem dX5_digest_67 : decode cX5_digest 67 = .ok (.getfield 12, 3) := by decide +kernel
theorem dX5_digest_70 : decode cX5_digest 70 = .ok (.getfield 105, 3) := by decide +kernel
theorem dX5_digest_73 : decode cX5_digest 73 = .ok (.bipush 7, 2) := by decide +kernel
theorem dX5_digest_75 : decode cX5_digest 75 = .ok (.invokestatic 260, 3) := by decide +kernel
theorem dX5_digest_78 : decode cX5_digest 78 = .ok (.lstore_n 1, 1) := by decide +kernel
theorem dX5_digest_79 : decode cX5_digest 79 = .ok (.lload_n 1, 1) := by decide +kernel
theorem dX5_digest_80 : decode cX5_digest 80 = .ok (.aload_n 0, 1) := by decide +kernel
theorem dX5_digest_81 : decode cX5_digest 81 = .ok (.getfield 12, 3) := by decide +kernel
theorem dX5_digest_84 : decode cX5_digest 84 = .ok (.getfield 111, 3) := by decide +kernel
theorem dX5_digest_87 : decode cX5_digest 87 = .ok (.iconst 4, 1) := by decide +kernel
theorem dX5_digest_88 : decode cX5_digest 88 = .ok (.invokestatic 260, 3) := by decide +kernel
theorem dX5_digest_91 : decode cX5_digest 91 = .ok (.lstore_n 1, 1) := by decide +kernel
theorem dX5_digest_92 : decode cX5_digest 92 = .ok (.lload_n 1, 1) := by decide +kernel
theorem dX5_digest_93 : decode cX5_digest 93 = .ok (.aload_n 0, 1) := by decide +kernel
theorem dX5_digest_94 : decode cX5_digest 94 = .ok (.getfield 12, 3) := by decide +kernel
theorem dX5_digest_97 : decode cX5_digest 97 = .ok (.getfield 141, 3) := by decide +kernel
theorem dX5_digest_100 : decode cX5_digest 100 = .ok (.aload_n 0, 1) := by decide +kernel
theorem dX5_digest_101 : decode cX5_digest 101 = .ok (.getfield 12, 3) := by decide +kernel
theorem dX5_digest_104 : decode cX5_digest 104 = .ok (.getfield 138, 3) := by decide +kernel
theorem dX5_digest_107 : decode cX5_digest 107 = .ok (.iconst 4, 1) := by decide +kernel
theorem dX5_digest_108 : decode cX5_digest 108 = .ok (.imul, 1) := by decide +kernel
theorem dX5_digest_109 : decode cX5_digest 109 = .ok (.invokestatic 260, 3) := by decide +kernel
theorem dX5_digest_112 : decode cX5_digest 112 = .ok (.lstore_n 1, 1) := by decide +kernel
theorem dX5_digest_113 : decode cX5_digest 113 = .ok (.lload_n 1, 1) := by decide +kernel
theorem dX5_digest_114 : decode cX5_digest 114 = .ok (.aload_n 0, 1) := by decide +kernel
theorem dX5_digest_115 : decode cX5_digest 115 = .ok (.getfield 12, 3) := by decide +kernel
theorem dX5_digest_118 : decode cX5_digest 118 = .ok (.getfield 233, 3) := by decide +kernel
theorem dX5_digest_121 : decode cX5_digest 121 = .ok (.aload_n 0, 1) := by decide +kernel
theorem dX5_digest_122 : decode cX5_digest 122 = .ok (.getfield 12, 3) := by decide +kernel
theorem dX5_digest_125 : decode cX5_digest 125 = .ok (.getfield 230, 3) := by decide +kernel
theorem dX5_digest_128 : decode cX5_digest 128 = .ok (.iconst 3, 1) := by decide +kernel
theorem dX5_digest_129 : decode cX5_digest 129 = .ok (.imul, 1) := by decide +kernel
theorem dX5_digest_130 : decode cX5_digest 130 = .ok (.invokestatic 260, 3) := by decide +kernel
theorem dX5_digest_133 : decode cX5_digest 133 = .ok (.lstore_n 1, 1) := by decide +kernel
theorem dX5_digest_134 : decode cX5_digest 134 = .ok (.iconst 0, 1) := by decide +kernel
theorem dX5_digest_135 : decode cX5_digest 135 = .ok (.istore_n 3, 1) := by decide +kernel
theorem dX5_digest_136 : decode cX5_digest 136 = .ok (.iload_n 3, 1) := by decide +kernel
theorem dX5_digest_137 : decode cX5_digest 137 = .ok (.iconst 2, 1) := by decide +kernel
theorem dX5_digest_138 : decode cX5_digest 138 = .ok (.if_icmp .gt 22, 3) := by decide +kernel
theorem dX5_digest_141 : decode cX5_digest 141 = .ok (.ldc2_w 258, 3) := by decide +kernel
theorem dX5_digest_144 : decode cX5_digest 144 = .ok (.lload_n 1, 1) := by decide +kernel
theorem dX5_digest_145 : decode cX5_digest 145 = .ok (.lmul, 1) := by decide +kernel
theorem dX5_digest_146 : decode cX5_digest 146 = .ok (.aload_n 0, 1) := by decide +kernel
theorem dX5_digest_147 : decode cX5_digest 147 = .ok (.iload_n 3, 1) := by decide +kernel
theorem dX5_digest_148 : decode cX5_digest 148 = .ok (.invokevirtual 243, 3) := by decide +kernel
theorem dX5_digest_151 : decode cX5_digest 151 = .ok (.i2l, 1) := by decide +kernel
theorem dX5_digest_152 : decode cX5_digest 152 = .ok (.ladd, 1) := by decide +kernel
theorem dX5_digest_153 : decode cX5_digest 153 = .ok (.lstore_n 1, 1) := by decide +kernel
theorem dX5_digest_154 : decode cX5_digest 154 = .ok (.iinc 3 1, 3) := by decide +kernel
theorem dX5_digest_157 : decode cX5_digest 157 = .ok (.goto (-21), 3) := by decide +kernel
theorem dX5_digest_160 : decode cX5_digest 160 = .ok (.iconst 0, 1) := by decide +kernel
theorem dX5_digest_161 : decode cX5_digest 161 = .ok (.istore_n 3, 1) := by decide +kernel
theorem dX5_digest_162 : decode cX5_digest 162 = .ok (.iload_n 3, 1) := by decide +kernel
theorem dX5_digest_163 : decode cX5_digest 163 = .ok (.iconst 1, 1) := by decide +kernel
theorem dX5_digest_164 : decode cX5_digest 164 = .ok (.if_icmp .gt 48, 3) := by decide +kernel
theorem dX5_digest_167 : decode cX5_digest 167 = .ok (.iconst 0, 1) := by decide +kernel
theorem dX5_digest_168 : decode cX5_digest 168 = .ok (.istore 4, 2) := by decide +kernel
theorem dX5_digest_170 : decode cX5_digest 170 = .ok (.iload 4, 2) := by decide +kernel
theorem dX5_digest_172 : decode cX5_digest 172 = .ok (.aload_n 0, 1) := by decide +kernel
theorem dX5_digest_173 : decode cX5_digest 173 = .ok (.iload_n 3, 1) := by decide +kernel
theorem dX5_digest_174 : decode cX5_digest 174 = .ok (.iconst 1, 1) := by decide +kernel
theorem dX5_digest_175 : decode cX5_digest 175 = .ok (.iadd, 1) := by decide +kernel
theorem dX5_digest_176 : decode cX5_digest 176 = .ok (.invokevirtual 243, 3) := by decide +kernel
theorem dX5_digest_179 : decode cX5_digest 179 = .ok (.if_icmp .ge 27, 3) := by decide +kernel
theorem dX5_digest_182 : decode cX5_digest 182 = .ok (.ldc2_w 258, 3) := by decide +kernel
theorem dX5_digest_185 : decode cX5_digest 185 = .ok (.lload_n 1, 1) := by decide +kernel
theorem dX5_digest_186 : decode cX5_digest 186 = .ok (.lmul, 1) := by decide +kernel
theorem dX5_digest_187 : decode cX5_digest 187 = .ok (.aload_n 0, 1) := by decide +kernel
theorem dX5_digest_188 : decode cX5_digest 188 = .ok (.getfield 44, 3) := by decide +kernel
theorem dX5_digest_191 : decode cX5_digest 191 = .ok (.iload_n 3, 1) := by decide +kernel
theorem dX5_digest_192 : decode cX5_digest 192 = .ok (.iload 4, 2) := by decide +kernel
theorem dX5_digest_194 : decode cX5_digest 194 = .ok (.invokevirtual 246, 3) := by decide +kernel
theorem dX5_digest_197 : decode cX5_digest 197 = .ok (.i2l, 1) := by decide +kernel
theorem dX5_digest_198 : decode cX5_digest 198 = .ok (.ladd, 1) := by decide +kernel
theorem dX5_digest_199 : decode cX5_digest 199 = .ok (.lstore_n 1, 1) := by decide +kernel
theorem dX5_digest_200 : decode cX5_digest 200 = .ok (.iinc 4 1, 3) := by decide +kernel
theorem dX5_digest_203 : decode cX5_digest 203 = .ok (.goto (-33), 3) := by decide +kernel
theorem dX5_digest_206 : decode cX5_digest 206 = .ok (.iinc 3 1, 3) := by decide +kernel
theorem dX5_digest_209 : decode cX5_digest 209 = .ok (.goto (-47), 3) := by decide +kernel
theorem dX5_digest_212 : decode cX5_digest 212 = .ok (.lload_n 1, 1) := by decide +kernel
theorem dX5_digest_213 : decode cX5_digest 213 = .ok (.lreturn, 1) := by decide +kernel
theorem dX5_bad_0 : decode cX5_bad 0 = .ok (.aload_n 0, 1) := by decide +kernel
theorem dX5_bad_1 : decode cX5_bad 1 = .ok (.iconst 0, 1) := by decide +kernel
theorem dX5_bad_2 : decode cX5_bad 2 = .ok (.bipush (-2), 2) := by decide +kernel
theorem dX5_bad_4 : decode cX5_bad 4 = .ok (.invokevirtual 264, 3) := by decide +kernel
theorem dX5_bad_7 : decode cX5_bad 7 = .ok (.ireturn, 1) := by decide +kernel
theorem dX5_no_0 : decode cX5_no 0 = .ok (.aload_n 0, 1) := by decide +kernel
theorem dX5_no_1 : decode cX5_no 1 = .ok (.iconst 1, 1) := by decide +kernel
theorem dX5_no_2 : decode cX5_no 2 = .ok (.bipush (-3), 2) := by decide +kernel
theorem dX5_no_4 : decode cX5_no 4 = .ok (.invokevirtual 264, 3) := by decide +kernel
theorem dX5_no_7 : decode cX5_no 7 = .ok (.ireturn, 1) := by decide +kernel
theorem dX5_full_0 : decode cX5_full 0 = .ok (.aload_n 0, 1) := by decide +kernel
theorem dX5_full_1 : decode cX5_full 1 = .ok (.iconst 2, 1) := by decide +kernel
theorem dX5_full_2 : decode cX5_full 2 = .ok (.bipush (-4), 2) := by decide +kernel
theorem dX5_full_4 : decode cX5_full 4 = .ok (.invokevirtual 264, 3) := by decide +kernel
theorem dX5_full_7 : decode cX5_full 7 = .ok (.ireturn, 1) := by decide +kernel
theorem dX5_refuse_0 : decode cX5_refuse 0 = .ok (.aload_n 0, 1) := by decide +kernel
theorem dX5_refuse_1 : decode cX5_refuse 1 = .ok (.getfield 48, 3) := by decide +kernel
theorem dX5_refuse_4 : decode cX5_refuse 4 = .ok (.iload_n 1, 1) := by decide +kernel
theorem dX5_refuse_5 : decode cX5_refuse 5 = .ok (.aload_n 0, 1) := by decide +kernel
theorem dX5_refuse_6 : decode cX5_refuse 6 = .ok (.getfield 48, 3) := by decide +kernel
theorem dX5_refuse_9 : decode cX5_refuse 9 = .ok (.iload_n 1, 1) := by decide +kernel
theorem dX5_refuse_10 : decode cX5_refuse 10 = .ok (.invokestatic 101, 3) := by decide +kernel
theorem dX5_refuse_13 : decode cX5_refuse 13 = .ok (.iconst 1, 1) := by decide +kernel
theorem dX5_refuse_14 : decode cX5_refuse 14 = .ok (.iadd, 1) := by decide +kernel
theorem dX5_refuse_15 : decode cX5_refuse 15 = .ok (.invokestatic 73, 3) := by decide +kernel
theorem dX5_refuse_18 : decode cX5_refuse 18 = .ok (.iload_n 2, 1) := by decide +kernel
theorem dX5_refuse_19 : decode cX5_refuse 19 = .ok (.ireturn, 1) := by decide +kernel
theorem dX5_isSetting_0 : decode cX5_isSetting 0 = .ok (.iload_n 0, 1) := by decide +kernel
theorem dX5_isSetting_1 : decode cX5_isSetting 1 = .ok (.ifCond .lt 23, 3) := by decide +kernel
theorem dX5_isSetting_4 : decode cX5_isSetting 4 = .ok (.iload_n 0, 1) := by decide +kernel
theorem dX5_isSetting_5 : decode cX5_isSetting 5 = .ok (.getstatic 267, 3) := by decide +kernel
theorem dX5_isSetting_8 : decode cX5_isSetting 8 = .ok (.arraylength, 1) := by decide +kernel
theorem dX5_isSetting_9 : decode cX5_isSetting 9 = .ok (.if_icmp .ge 15, 3) := by decide +kernel
theorem dX5_isSetting_12 : decode cX5_isSetting 12 = .ok (.iload_n 0, 1) := by decide +kernel
theorem dX5_isSetting_13 : decode cX5_isSetting 13 = .ok (.getstatic 270, 3) := by decide +kernel
theorem dX5_isSetting_16 : decode cX5_isSetting 16 = .ok (.arraylength, 1) := by decide +kernel
theorem dX5_isSetting_17 : decode cX5_isSetting 17 = .ok (.if_icmp .ge 7, 3) := by decide +kernel
theorem dX5_isSetting_20 : decode cX5_isSetting 20 = .ok (.iconst 1, 1) := by decide +kernel
theorem dX5_isSetting_21 : decode cX5_isSetting 21 = .ok (.goto 4, 3) := by decide +kernel
theorem dX5_isSetting_24 : decode cX5_isSetting 24 = .ok (.iconst 0, 1) := by decide +kernel
theorem dX5_isSetting_25 : decode cX5_isSetting 25 = .ok (.istore_n 2, 1) := by decide +kernel
theorem dX5_isSetting_26 : decode cX5_isSetting 26 = .ok (.iload_n 2, 1) := by decide +kernel
theorem dX5_isSetting_27 : decode cX5_isSetting 27 = .ok (.ifCond .eq 25, 3) := by decide +kernel
theorem dX5_isSetting_30 : decode cX5_isSetting 30 = .ok (.iload_n 1, 1) := by decide +kernel
theorem dX5_isSetting_31 : decode cX5_isSetting 31 = .ok (.getstatic 267, 3) := by decide +kernel
theorem dX5_isSetting_34 : decode cX5_isSetting 34 = .ok (.iload_n 0, 1) := by decide +kernel
theorem dX5_isSetting_35 : decode cX5_isSetting 35 = .ok (.iaload, 1) := by decide +kernel
theorem dX5_isSetting_36 : decode cX5_isSetting 36 = .ok (.if_icmp .lt 16, 3) := by decide +kernel
theorem dX5_isSetting_39 : decode cX5_isSetting 39 = .ok (.iload_n 1, 1) := by decide +kernel
theorem dX5_isSetting_40 : decode cX5_isSetting 40 = .ok (.getstatic 270, 3) := by decide +kernel
theorem dX5_isSetting_43 : decode cX5_isSetting 43 = .ok (.iload_n 0, 1) := by decide +kernel
theorem dX5_isSetting_44 : decode cX5_isSetting 44 = .ok (.iaload, 1) := by decide +kernel
theorem dX5_isSetting_45 : decode cX5_isSetting 45 = .ok (.if_icmp .gt 7, 3) := by decide +kernel
theorem dX5_isSetting_48 : decode cX5_isSetting 48 = .ok (.iconst 1, 1) := by decide +kernel
theorem dX5_isSetting_49 : decode cX5_isSetting 49 = .ok (.goto 4, 3) := by decide +kernel
theorem dX5_isSetting_52 : decode cX5_isSetting 52 = .ok (.iconst 0, 1) := by decide +kernel
theorem dX5_isSetting_53 : decode cX5_isSetting 53 = .ok (.ireturn, 1) := by decide +kernel
theorem dX5_isDeep_0 : decode cX5_isDeep 0 = .ok (.iload_n 0, 1) := by decide +kernel
theorem dX5_isDeep_1 : decode cX5_isDeep 1 = .ok (.iconst 1, 1) := by decide +kernel
theorem dX5_isDeep_2 : decode cX5_isDeep 2 = .ok (.if_icmp .lt 12, 3) := by decide +kernel
theorem dX5_isDeep_5 : decode cX5_isDeep 5 = .ok (.iload_n 0, 1) := by decide +kernel
theorem dX5_isDeep_6 : decode cX5_isDeep 6 = .ok (.iconst 3, 1) := by decide +kernel
theorem dX5_isDeep_7 : decode cX5_isDeep 7 = .ok (.if_icmp .gt 7, 3) := by decide +kernel
theorem dX5_isDeep_10 : decode cX5_isDeep 10 = .ok (.iconst 1, 1) := by decide +kernel
theorem dX5_isDeep_11 : decode cX5_isDeep 11 = .ok (.goto 4, 3) := by decide +kernel
theorem dX5_isDeep_14 : decode cX5_isDeep 14 = .ok (.iconst 0, 1) := by decide +kernel
theorem dX5_isDeep_15 : decode cX5_isDeep 15 = .ok (.ireturn, 1) := by decide +kernel
theorem dX5_isFault_0 : decode cX5_isFault 0 = .ok (.iload_n 0, 1) := by decide +kernel
theorem dX5_isFault_1 : decode cX5_isFault 1 = .ok (.ifCond .lt 20, 3) := by decide +kernel
theorem dX5_isFault_4 : decode cX5_isFault 4 = .ok (.iload_n 0, 1) := by decide +kernel
theorem dX5_isFault_5 : decode cX5_isFault 5 = .ok (.bipush 7, 2) := by decide +kernel
theorem dX5_isFault_7 : decode cX5_isFault 7 = .ok (.if_icmp .ge 14, 3) := by decide +kernel
theorem dX5_isFault_10 : decode cX5_isFault 10 = .ok (.iload_n 1, 1) := by decide +kernel
theorem dX5_isFault_11 : decode cX5_isFault 11 = .ok (.invokestatic 202, 3) := by decide +kernel
theorem dX5_isFault_14 : decode cX5_isFault 14 = .ok (.ifCond .eq 7, 3) := by decide +kernel
theorem dX5_isFault_17 : decode cX5_isFault 17 = .ok (.iconst 1, 1) := by decide +kernel
theorem dX5_isFault_18 : decode cX5_isFault 18 = .ok (.goto 4, 3) := by decide +kernel
theorem dX5_isFault_21 : decode cX5_isFault 21 = .ok (.iconst 0, 1) := by decide +kernel
theorem dX5_isFault_22 : decode cX5_isFault 22 = .ok (.ireturn, 1) := by decide +kernel
theorem dX5_isColor_0 : decode cX5_isColor 0 = .ok (.iload_n 0, 1) := by decide +kernel
theorem dX5_isColor_1 : decode cX5_isColor 1 = .ok (.ifCond .lt 12, 3) := by decide +kernel
theorem dX5_isColor_4 : decode cX5_isColor 4 = .ok (.iload_n 0, 1) := by decide +kernel
theorem dX5_isColor_5 : decode cX5_isColor 5 = .ok (.iconst 4, 1) := by decide +kernel
theorem dX5_isColor_6 : decode cX5_isColor 6 = .ok (.if_icmp .ge 7, 3) := by decide +kernel
theorem dX5_isColor_9 : decode cX5_isColor 9 = .ok (.iconst 1, 1) := by decide +kernel
theorem dX5_isColor_10 : decode cX5_isColor 10 = .ok (.goto 4, 3) := by decide +kernel
theorem dX5_isColor_13 : decode cX5_isColor 13 = .ok (.iconst 0, 1) := by decide +kernel
theorem dX5_isColor_14 : decode cX5_isColor 14 = .ok (.ireturn, 1) := by decide +kernel
theorem dX5_isCut_0 : decode cX5_isCut 0 = .ok (.iload_n 0, 1) := by decide +kernel
theorem dX5_isCut_1 : decode cX5_isCut 1 = .ok (.iconst (-1), 1) := by decide +kernel
theorem dX5_isCut_2 : decode cX5_isCut 2 = .ok (.if_icmp .eq 12, 3) := by decide +kernel
theorem dX5_isCut_5 : decode cX5_isCut 5 = .ok (.iload_n 0, 1) := by decide +kernel
theorem dX5_isCut_6 : decode cX5_isCut 6 = .ok (.ifCond .lt 12, 3) := by decide +kernel
theorem dX5_isCut_9 : decode cX5_isCut 9 = .ok (.iload_n 0, 1) := by decide +kernel
theorem dX5_isCut_10 : decode cX5_isCut 10 = .ok (.iconst 4, 1) := by decide +kernel
theorem dX5_isCut_11 : decode cX5_isCut 11 = .ok (.if_icmp .ge 7, 3) := by decide +kernel
theorem dX5_isCut_14 : decode cX5_isCut 14 = .ok (.iconst 1, 1) := by decide +kernel
theorem dX5_isCut_15 : decode cX5_isCut 15 = .ok (.goto 4, 3) := by decide +kernel
theorem dX5_isCut_18 : decode cX5_isCut 18 = .ok (.iconst 0, 1) := by decide +kernel
theorem dX5_isCut_19 : decode cX5_isCut 19 = .ok (.ireturn, 1) := by decide +kernel
theorem dX5_isPlan_0 : decode cX5_isPlan 0 = .ok (.iload_n 0, 1) := by decide +kernel
theorem dX5_isPlan_1 : decode cX5_isPlan 1 = .ok (.invokestatic 202, 3) := by decide +kernel
theorem dX5_isPlan_4 : decode cX5_isPlan 4 = .ok (.ifCond .eq 34, 3) := by decide +kernel
theorem dX5_isPlan_7 : decode cX5_isPlan 7 = .ok (.iload_n 1, 1) := by decide +kernel
theorem dX5_isPlan_8 : decode cX5_isPlan 8 = .ok (.bipush 10, 2) := by decide +kernel
theorem dX5_isPlan_10 : decode cX5_isPlan 10 = .ok (.if_icmp .gt 28, 3) := by decide +kernel
theorem dX5_isPlan_13 : decode cX5_isPlan 13 = .ok (.iload_n 2, 1) := by decide +kernel
theorem dX5_isPlan_14 : decode cX5_isPlan 14 = .ok (.ifCond .lt 24, 3) := by decide +kernel
theorem dX5_isPlan_17 : decode cX5_isPlan 17 = .ok (.iload_n 2, 1) := by decide +kernel
theorem dX5_isPlan_18 : decode cX5_isPlan 18 = .ok (.sipush 999, 3) := by decide +kernel
theorem dX5_isPlan_21 : decode cX5_isPlan 21 = .ok (.if_icmp .gt 17, 3) := by decide +kernel
theorem dX5_isPlan_24 : decode cX5_isPlan 24 = .ok (.iload_n 3, 1) := by decide +kernel
theorem dX5_isPlan_25 : decode cX5_isPlan 25 = .ok (.ifCond .lt 13, 3) := by decide +kernel
theorem dX5_isPlan_28 : decode cX5_isPlan 28 = .ok (.iload_n 3, 1) := by decide +kernel
theorem dX5_isPlan_29 : decode cX5_isPlan 29 = .ok (.ldc 188, 2) := by decide +kernel
theorem dX5_isPlan_31 : decode cX5_isPlan 31 = .ok (.if_icmp .gt 7, 3) := by decide +kernel
theorem dX5_isPlan_34 : decode cX5_isPlan 34 = .ok (.iconst 1, 1) := by decide +kernel
theorem dX5_isPlan_35 : decode cX5_isPlan 35 = .ok (.goto 4, 3) := by decide +kernel
theorem dX5_isPlan_38 : decode cX5_isPlan 38 = .ok (.iconst 0, 1) := by decide +kernel
theorem dX5_isPlan_39 : decode cX5_isPlan 39 = .ok (.ireturn, 1) := by decide +kernel
theorem dX5_faultOf_0 : decode cX5_faultOf 0 = .ok (.iconst 3, 1) := by decide +kernel
theorem dX5_faultOf_1 : decode cX5_faultOf 1 = .ok (.iload_n 0, 1) := by decide +kernel
theorem dX5_faultOf_2 : decode cX5_faultOf 2 = .ok (.imul, 1) := by decide +kernel
theorem dX5_faultOf_3 : decode cX5_faultOf 3 = .ok (.iload_n 1, 1) := by decide +kernel
theorem dX5_faultOf_4 : decode cX5_faultOf 4 = .ok (.iadd, 1) := by decide +kernel
theorem dX5_faultOf_5 : decode cX5_faultOf 5 = .ok (.iconst 1, 1) := by decide +kernel
theorem dX5_faultOf_6 : decode cX5_faultOf 6 = .ok (.isub, 1) := by decide +kernel
theorem dX5_faultOf_7 : decode cX5_faultOf 7 = .ok (.ireturn, 1) := by decide +kernel
theorem dX5_dayChanged_0 : decode cX5_dayChanged 0 = .ok (.aload_n 0, 1) := by decide +kernel
theorem dX5_dayChanged_1 : decode cX5_dayChanged 1 = .ok (.iconst 1, 1) := by decide +kernel
theorem dX5_dayChanged_2 : decode cX5_dayChanged 2 = .ok (.putfield 52, 3) := by decide +kernel
theorem dX5_dayChanged_5 : decode cX5_dayChanged 5 = .ok (.aload_n 0, 1) := by decide +kernel
theorem dX5_dayChanged_6 : decode cX5_dayChanged 6 = .ok (.iconst 1, 1) := by decide +kernel
theorem dX5_dayChanged_7 : decode cX5_dayChanged 7 = .ok (.putfield 56, 3) := by decide +kernel
theorem dX5_dayChanged_10 : decode cX5_dayChanged 10 = .ok (.return_, 1) := by decide +kernel
theorem dX5_readDay_0 : decode cX5_readDay 0 = .ok (.aload_n 0, 1) := by decide +kernel
theorem dX5_readDay_1 : decode cX5_readDay 1 = .ok (.getfield 52, 3) := by decide +kernel
theorem dX5_readDay_4 : decode cX5_readDay 4 = .ok (.ifCond .eq 47, 3) := by decide +kernel
theorem dX5_readDay_7 : decode cX5_readDay 7 = .ok (.aload_n 0, 1) := by decide +kernel
theorem dX5_readDay_8 : decode cX5_readDay 8 = .ok (.getfield 23, 3) := by decide +kernel
theorem dX5_readDay_11 : decode cX5_readDay 11 = .ok (.aload_n 0, 1) := by decide +kernel
theorem dX5_readDay_12 : decode cX5_readDay 12 = .ok (.getfield 12, 3) := by decide +kernel
theorem dX5_readDay_15 : decode cX5_readDay 15 = .ok (.getfield 70, 3) := by decide +kernel
theorem dX5_readDay_18 : decode cX5_readDay 18 = .ok (.aload_n 0, 1) := by decide +kernel
theorem dX5_readDay_19 : decode cX5_readDay 19 = .ok (.getfield 12, 3) := by decide +kernel
theorem dX5_readDay_22 : decode cX5_readDay 22 = .ok (.getfield 63, 3) := by decide +kernel
theorem dX5_readDay_25 : decode cX5_readDay 25 = .ok (.invokevirtual 273, 3) := by decide +kernel
theorem dX5_readDay_28 : decode cX5_readDay 28 = .ok (.aload_n 0, 1) := by decide +kernel
theorem dX5_readDay_29 : decode cX5_readDay 29 = .ok (.getfield 23, 3) := by decide +kernel
theorem dX5_readDay_32 : decode cX5_readDay 32 = .ok (.aload_n 0, 1) := by decide +kernel
theorem dX5_readDay_33 : decode cX5_readDay 33 = .ok (.getfield 12, 3) := by decide +kernel
theorem dX5_readDay_36 : decode cX5_readDay 36 = .ok (.getfield 98, 3) := by decide +kernel
theorem dX5_readDay_39 : decode cX5_readDay 39 = .ok (.iconst 0, 1) := by decide +kernel
theorem dX5_readDay_40 : decode cX5_readDay 40 = .ok (.invokestatic 101, 3) := by decide +kernel
theorem dX5_readDay_43 : decode cX5_readDay 43 = .ok (.invokevirtual 196, 3) := by decide +kernel
theorem dX5_readDay_46 : decode cX5_readDay 46 = .ok (.aload_n 0, 1) := by decide +kernel
theorem dX5_readDay_47 : decode cX5_readDay 47 = .ok (.iconst 0, 1) := by decide +kernel
theorem dX5_readDay_48 : decode cX5_readDay 48 = .ok (.putfield 52, 3) := by decide +kernel
theorem dX5_readDay_51 : decode cX5_readDay 51 = .ok (.return_, 1) := by decide +kernel
theorem dX5_dayIsFaulty_0 : decode cX5_dayIsFaulty 0 = .ok (.aload_n 0, 1) := by decide +kernel
theorem dX5_dayIsFaulty_1 : decode cX5_dayIsFaulty 1 = .ok (.invokevirtual 80, 3) := by decide +kernel
theorem dX5_dayIsFaulty_4 : decode cX5_dayIsFaulty 4 = .ok (.aload_n 0, 1) := by decide +kernel
theorem dX5_dayIsFaulty_5 : decode cX5_dayIsFaulty 5 = .ok (.getfield 23, 3) := by decide +kernel
theorem dX5_dayIsFaulty_8 : decode cX5_dayIsFaulty 8 = .ok (.getfield 83, 3) := by decide +kernel
theorem dX5_dayIsFaulty_11 : decode cX5_dayIsFaulty 11 = .ok (.iconst (-1), 1) := by decide +kernel
theorem dX5_dayIsFaulty_12 : decode cX5_dayIsFaulty 12 = .ok (.if_icmp .eq 7, 3) := by decide +kernel
theorem dX5_dayIsFaulty_15 : decode cX5_dayIsFaulty 15 = .ok (.iconst 1, 1) := by decide +kernel
theorem dX5_dayIsFaulty_16 : decode cX5_dayIsFaulty 16 = .ok (.goto 4, 3) := by decide +kernel
theorem dX5_dayIsFaulty_19 : decode cX5_dayIsFaulty 19 = .ok (.iconst 0, 1) := by decide +kernel
theorem dX5_dayIsFaulty_20 : decode cX5_dayIsFaulty 20 = .ok (.ireturn, 1) := by decide +kernel
theorem dX5_noGuesses_0 : decode cX5_noGuesses 0 = .ok (.aload_n 0, 1) := by decide +kernel
theorem dX5_noGuesses_1 : decode cX5_noGuesses 1 = .ok (.invokevirtual 80, 3) := by decide +kernel
theorem dX5_noGuesses_4 : decode cX5_noGuesses 4 = .ok (.aload_n 0, 1) := by decide +kernel
theorem dX5_noGuesses_5 : decode cX5_noGuesses 5 = .ok (.getfield 23, 3) := by decide +kernel
theorem dX5_noGuesses_8 : decode cX5_noGuesses 8 = .ok (.getfield 83, 3) := by decide +kernel
theorem dX5_noGuesses_11 : decode cX5_noGuesses 11 = .ok (.iconst (-1), 1) := by decide +kernel
theorem dX5_noGuesses_12 : decode cX5_noGuesses 12 = .ok (.if_icmp .eq 5, 3) := by decide +kernel
theorem dX5_noGuesses_15 : decode cX5_noGuesses 15 = .ok (.iconst 1, 1) := by decide +kernel
theorem dX5_noGuesses_16 : decode cX5_noGuesses 16 = .ok (.ireturn, 1) := by decide +kernel
theorem dX5_noGuesses_17 : decode cX5_noGuesses 17 = .ok (.aload_n 0, 1) := by decide +kernel
theorem dX5_noGuesses_18 : decode cX5_noGuesses 18 = .ok (.getfield 56, 3) := by decide +kernel
theorem dX5_noGuesses_21 : decode cX5_noGuesses 21 = .ok (.ifCond .eq 12, 3) := by decide +kernel
theorem dX5_noGuesses_24 : decode cX5_noGuesses 24 = .ok (.aload_n 0, 1) := by decide +kernel
theorem dX5_noGuesses_25 : decode cX5_noGuesses 25 = .ok (.invokevirtual 277, 3) := by decide +kernel
theorem dX5_noGuesses_28 : decode cX5_noGuesses 28 = .ok (.aload_n 0, 1) := by decide +kernel
theorem dX5_noGuesses_29 : decode cX5_noGuesses 29 = .ok (.iconst 0, 1) := by decide +kernel
theorem dX5_noGuesses_30 : decode cX5_noGuesses 30 = .ok (.putfield 56, 3) := by decide +kernel
theorem dX5_noGuesses_33 : decode cX5_noGuesses 33 = .ok (.aload_n 0, 1) := by decide +kernel
theorem dX5_noGuesses_34 : decode cX5_noGuesses 34 = .ok (.getfield 30, 3) := by decide +kernel
theorem dX5_noGuesses_37 : decode cX5_noGuesses 37 = .ok (.getfield 151, 3) := by decide +kernel
theorem dX5_noGuesses_40 : decode cX5_noGuesses 40 = .ok (.lconst 0, 1) := by decide +kernel
theorem dX5_noGuesses_41 : decode cX5_noGuesses 41 = .ok (.lcmp, 1) := by decide +kernel
theorem dX5_noGuesses_42 : decode cX5_noGuesses 42 = .ok (.ifCond .ne 7, 3) := by decide +kernel
theorem dX5_noGuesses_45 : decode cX5_noGuesses 45 = .ok (.iconst 1, 1) := by decide +kernel
theorem dX5_noGuesses_46 : decode cX5_noGuesses 46 = .ok (.goto 4, 3) := by decide +kernel
theorem dX5_noGuesses_49 : decode cX5_noGuesses 49 = .ok (.iconst 0, 1) := by decide +kernel
theorem dX5_noGuesses_50 : decode cX5_noGuesses 50 = .ok (.ireturn, 1) := by decide +kernel
theorem dX5_weighGuesses_0 : decode cX5_weighGuesses 0 = .ok (.aload_n 0, 1) := by decide +kernel
theorem dX5_weighGuesses_1 : decode cX5_weighGuesses 1 = .ok (.getfield 30, 3) := by decide +kernel
theorem dX5_weighGuesses_4 : decode cX5_weighGuesses 4 = .ok (.aload_n 0, 1) := by decide +kernel
theorem dX5_weighGuesses_5 : decode cX5_weighGuesses 5 = .ok (.getfield 12, 3) := by decide +kernel
theorem dX5_weighGuesses_8 : decode cX5_weighGuesses 8 = .ok (.getfield 98, 3) := by decide +kernel
theorem dX5_weighGuesses_11 : decode cX5_weighGuesses 11 = .ok (.iconst 3, 1) := by decide +kernel
theorem dX5_weighGuesses_12 : decode cX5_weighGuesses 12 = .ok (.invokestatic 101, 3) := by decide +kernel
theorem dX5_weighGuesses_15 : decode cX5_weighGuesses 15 = .ok (.aload_n 0, 1) := by decide +kernel
theorem dX5_weighGuesses_16 : decode cX5_weighGuesses 16 = .ok (.getfield 12, 3) := by decide +kernel
theorem dX5_weighGuesses_19 : decode cX5_weighGuesses 19 = .ok (.getfield 105, 3) := by decide +kernel
theorem dX5_weighGuesses_22 : decode cX5_weighGuesses 22 = .ok (.invokevirtual 280, 3) := by decide +kernel
theorem dX5_weighGuesses_25 : decode cX5_weighGuesses 25 = .ok (.iconst 0, 1) := by decide +kernel
theorem dX5_weighGuesses_26 : decode cX5_weighGuesses 26 = .ok (.istore_n 1, 1) := by decide +kernel
theorem dX5_weighGuesses_27 : decode cX5_weighGuesses 27 = .ok (.iload_n 1, 1) := by decide +kernel
theorem dX5_weighGuesses_28 : decode cX5_weighGuesses 28 = .ok (.aload_n 0, 1) := by decide +kernel
theorem dX5_weighGuesses_29 : decode cX5_weighGuesses 29 = .ok (.getfield 12, 3) := by decide +kernel
theorem dX5_weighGuesses_32 : decode cX5_weighGuesses 32 = .ok (.getfield 138, 3) := by decide +kernel
theorem dX5_weighGuesses_35 : decode cX5_weighGuesses 35 = .ok (.if_icmp .ge 126, 3) := by decide +kernel
theorem dX5_weighGuesses_38 : decode cX5_weighGuesses 38 = .ok (.iload_n 1, 1) := by decide +kernel
theorem dX5_weighGuesses_39 : decode cX5_weighGuesses 39 = .ok (.iconst 4, 1) := by decide +kernel
theorem dX5_weighGuesses_40 : decode cX5_weighGuesses 40 = .ok (.imul, 1) := by decide +kernel
theorem dX5_weighGuesses_41 : decode cX5_weighGuesses 41 = .ok (.istore_n 2, 1) := by decide +kernel
theorem dX5_weighGuesses_42 : decode cX5_weighGuesses 42 = .ok (.aload_n 0, 1) := by decide +kernel
theorem dX5_weighGuesses_43 : decode cX5_weighGuesses 43 = .ok (.getfield 12, 3) := by decide +kernel
theorem dX5_weighGuesses_46 : decode cX5_weighGuesses 46 = .ok (.getfield 141, 3) := by decide +kernel
theorem dX5_weighGuesses_49 : decode cX5_weighGuesses 49 = .ok (.iload_n 2, 1) := by decide +kernel
theorem dX5_weighGuesses_50 : decode cX5_weighGuesses 50 = .ok (.invokestatic 101, 3) := by decide +kernel
theorem dX5_weighGuesses_53 : decode cX5_weighGuesses 53 = .ok (.istore_n 3, 1) := by decide +kernel
theorem dX5_weighGuesses_54 : decode cX5_weighGuesses 54 = .ok (.aload_n 0, 1) := by decide +kernel
theorem dX5_weighGuesses_55 : decode cX5_weighGuesses 55 = .ok (.getfield 23, 3) := by decide +kernel
theorem dX5_weighGuesses_58 : decode cX5_weighGuesses 58 = .ok (.iload_n 3, 1) := by decide +kernel
theorem dX5_weighGuesses_59 : decode cX5_weighGuesses 59 = .ok (.invokevirtual 121, 3) := by decide +kernel
theorem dX5_weighGuesses_62 : decode cX5_weighGuesses 62 = .ok (.ifCond .eq 93, 3) := by decide +kernel
theorem dX5_weighGuesses_65 : decode cX5_weighGuesses 65 = .ok (.aload_n 0, 1) := by decide +kernel
theorem dX5_weighGuesses_66 : decode cX5_weighGuesses 66 = .ok (.getfield 23, 3) := by decide +kernel
theorem dX5_weighGuesses_69 : decode cX5_weighGuesses 69 = .ok (.iload_n 3, 1) := by decide +kernel
theorem dX5_weighGuesses_70 : decode cX5_weighGuesses 70 = .ok (.aload_n 0, 1) := by decide +kernel
theorem dX5_weighGuesses_71 : decode cX5_weighGuesses 71 = .ok (.getfield 12, 3) := by decide +kernel
theorem dX5_weighGuesses_74 : decode cX5_weighGuesses 74 = .ok (.getfield 141, 3) := by decide +kernel
theorem dX5_weighGuesses_77 : decode cX5_weighGuesses 77 = .ok (.iload_n 2, 1) := by decide +kernel
theorem dX5_weighGuesses_78 : decode cX5_weighGuesses 78 = .ok (.iconst 1, 1) := by decide +kernel
theorem dX5_weighGuesses_79 : decode cX5_weighGuesses 79 = .ok (.iadd, 1) := by decide +kernel
theorem dX5_weighGuesses_80 : decode cX5_weighGuesses 80 = .ok (.invokestatic 101, 3) := by decide +kernel
theorem dX5_weighGuesses_83 : decode cX5_weighGuesses 83 = .ok (.aload_n 0, 1) := by decide +kernel
theorem dX5_weighGuesses_84 : decode cX5_weighGuesses 84 = .ok (.getfield 30, 3) := by decide +kernel
theorem dX5_weighGuesses_87 : decode cX5_weighGuesses 87 = .ok (.getfield 173, 3) := by decide +kernel
theorem dX5_weighGuesses_90 : decode cX5_weighGuesses 90 = .ok (.invokevirtual 176, 3) := by decide +kernel
theorem dX5_weighGuesses_93 : decode cX5_weighGuesses 93 = .ok (.aload_n 0, 1) := by decide +kernel
theorem dX5_weighGuesses_94 : decode cX5_weighGuesses 94 = .ok (.getfield 30, 3) := by decide +kernel
theorem dX5_weighGuesses_97 : decode cX5_weighGuesses 97 = .ok (.aload_n 0, 1) := by decide +kernel
theorem dX5_weighGuesses_98 : decode cX5_weighGuesses 98 = .ok (.getfield 12, 3) := by decide +kernel
theorem dX5_weighGuesses_101 : decode cX5_weighGuesses 101 = .ok (.getfield 141, 3) := by decide +kernel
theorem dX5_weighGuesses_104 : decode cX5_weighGuesses 104 = .ok (.iload_n 2, 1) := by decide +kernel
theorem dX5_weighGuesses_105 : decode cX5_weighGuesses 105 = .ok (.iconst 2, 1) := by decide +kernel
theorem dX5_weighGuesses_106 : decode cX5_weighGuesses 106 = .ok (.iadd, 1) := by decide +kernel
theorem dX5_weighGuesses_107 : decode cX5_weighGuesses 107 = .ok (.invokestatic 101, 3) := by decide +kernel
theorem dX5_weighGuesses_110 : decode cX5_weighGuesses 110 = .ok (.invokevirtual 180, 3) := by decide +kernel
theorem dX5_weighGuesses_113 : decode cX5_weighGuesses 113 = .ok (.aload_n 0, 1) := by decide +kernel
theorem dX5_weighGuesses_114 : decode cX5_weighGuesses 114 = .ok (.getfield 30, 3) := by decide +kernel
theorem dX5_weighGuesses_117 : decode cX5_weighGuesses 117 = .ok (.aload_n 0, 1) := by decide +kernel
theorem dX5_weighGuesses_118 : decode cX5_weighGuesses 118 = .ok (.getfield 12, 3) := by decide +kernel
theorem dX5_weighGuesses_121 : decode cX5_weighGuesses 121 = .ok (.getfield 141, 3) := by decide +kernel
theorem dX5_weighGuesses_124 : decode cX5_weighGuesses 124 = .ok (.iload_n 2, 1) := by decide +kernel
theorem dX5_weighGuesses_125 : decode cX5_weighGuesses 125 = .ok (.iconst 3, 1) := by decide +kernel
theorem dX5_weighGuesses_126 : decode cX5_weighGuesses 126 = .ok (.iadd, 1) := by decide +kernel
theorem dX5_weighGuesses_127 : decode cX5_weighGuesses 127 = .ok (.invokestatic 101, 3) := by decide +kernel
theorem dX5_weighGuesses_130 : decode cX5_weighGuesses 130 = .ok (.aload_n 0, 1) := by decide +kernel
theorem dX5_weighGuesses_131 : decode cX5_weighGuesses 131 = .ok (.getfield 12, 3) := by decide +kernel
theorem dX5_weighGuesses_134 : decode cX5_weighGuesses 134 = .ok (.getfield 98, 3) := by decide +kernel
theorem dX5_weighGuesses_137 : decode cX5_weighGuesses 137 = .ok (.iconst 1, 1) := by decide +kernel
theorem dX5_weighGuesses_138 : decode cX5_weighGuesses 138 = .ok (.invokestatic 101, 3) := by decide +kernel
theorem dX5_weighGuesses_141 : decode cX5_weighGuesses 141 = .ok (.aload_n 0, 1) := by decide +kernel
theorem dX5_weighGuesses_142 : decode cX5_weighGuesses 142 = .ok (.getfield 12, 3) := by decide +kernel
theorem dX5_weighGuesses_145 : decode cX5_weighGuesses 145 = .ok (.getfield 98, 3) := by decide +kernel
theorem dX5_weighGuesses_148 : decode cX5_weighGuesses 148 = .ok (.iconst 2, 1) := by decide +kernel
theorem dX5_weighGuesses_149 : decode cX5_weighGuesses 149 = .ok (.invokestatic 101, 3) := by decide +kernel
theorem dX5_weighGuesses_152 : decode cX5_weighGuesses 152 = .ok (.invokevirtual 284, 3) := by decide +kernel
theorem dX5_weighGuesses_155 : decode cX5_weighGuesses 155 = .ok (.iinc 1 1, 3) := by decide +kernel
theorem dX5_weighGuesses_158 : decode cX5_weighGuesses 158 = .ok (.goto (-131), 3) := by decide +kernel
theorem dX5_weighGuesses_161 : decode cX5_weighGuesses 161 = .ok (.aload_n 0, 1) := by decide +kernel
theorem dX5_weighGuesses_162 : decode cX5_weighGuesses 162 = .ok (.getfield 30, 3) := by decide +kernel
theorem dX5_weighGuesses_165 : decode cX5_weighGuesses 165 = .ok (.invokevirtual 287, 3) := by decide +kernel
theorem dX5_weighGuesses_168 : decode cX5_weighGuesses 168 = .ok (.return_, 1) := by decide +kernel
theorem dX5_smokeOf_0 : decode cX5_smokeOf 0 = .ok (.iconst 0, 1) := by decide +kernel
theorem dX5_smokeOf_1 : decode cX5_smokeOf 1 = .ok (.istore 4, 2) := by decide +kernel
theorem dX5_smokeOf_3 : decode cX5_smokeOf 3 = .ok (.iconst 0, 1) := by decide +kernel
theorem dX5_smokeOf_4 : decode cX5_smokeOf 4 = .ok (.istore 5, 2) := by decide +kernel
theorem dX5_smokeOf_6 : decode cX5_smokeOf 6 = .ok (.iload 5, 2) := by decide +kernel
theorem dX5_smokeOf_8 : decode cX5_smokeOf 8 = .ok (.iconst 4, 1) := by decide +kernel
theorem dX5_smokeOf_9 : decode cX5_smokeOf 9 = .ok (.if_icmp .ge 51, 3) := by decide +kernel
theorem dX5_smokeOf_12 : decode cX5_smokeOf 12 = .ok (.aload_n 0, 1) := by decide +kernel
theorem dX5_smokeOf_13 : decode cX5_smokeOf 13 = .ok (.getfield 12, 3) := by decide +kernel
theorem dX5_smokeOf_16 : decode cX5_smokeOf 16 = .ok (.getfield 111, 3) := by decide +kernel
theorem dX5_smokeOf_19 : decode cX5_smokeOf 19 = .ok (.iload 5, 2) := by decide +kernel
theorem dX5_smokeOf_21 : decode cX5_smokeOf 21 = .ok (.invokestatic 101, 3) := by decide +kernel
theorem dX5_smokeOf_24 : decode cX5_smokeOf 24 = .ok (.istore 6, 2) := by decide +kernel
theorem dX5_smokeOf_26 : decode cX5_smokeOf 26 = .ok (.iload 6, 2) := by decide +kernel
theorem dX5_smokeOf_28 : decode cX5_smokeOf 28 = .ok (.iconst (-1), 1) := by decide +kernel
theorem dX5_smokeOf_29 : decode cX5_smokeOf 29 = .ok (.if_icmp .eq 25, 3) := by decide +kernel
theorem dX5_smokeOf_32 : decode cX5_smokeOf 32 = .ok (.iload 5, 2) := by decide +kernel
theorem dX5_smokeOf_34 : decode cX5_smokeOf 34 = .ok (.iload_n 3, 1) := by decide +kernel
theorem dX5_smokeOf_35 : decode cX5_smokeOf 35 = .ok (.if_icmp .eq 19, 3) := by decide +kernel
theorem dX5_smokeOf_38 : decode cX5_smokeOf 38 = .ok (.iload 4, 2) := by decide +kernel
theorem dX5_smokeOf_40 : decode cX5_smokeOf 40 = .ok (.aload_n 0, 1) := by decide +kernel
theorem dX5_smokeOf_41 : decode cX5_smokeOf 41 = .ok (.getfield 23, 3) := by decide +kernel
theorem dX5_smokeOf_44 : decode cX5_smokeOf 44 = .ok (.iload 6, 2) := by decide +kernel
theorem dX5_smokeOf_46 : decode cX5_smokeOf 46 = .ok (.iload_n 1, 1) := by decide +kernel
theorem dX5_smokeOf_47 : decode cX5_smokeOf 47 = .ok (.iload_n 2, 1) := by decide +kernel
theorem dX5_smokeOf_48 : decode cX5_smokeOf 48 = .ok (.invokevirtual 128, 3) := by decide +kernel
theorem dX5_smokeOf_51 : decode cX5_smokeOf 51 = .ok (.iadd, 1) := by decide +kernel
theorem dX5_smokeOf_52 : decode cX5_smokeOf 52 = .ok (.istore 4, 2) := by decide +kernel
theorem dX5_smokeOf_54 : decode cX5_smokeOf 54 = .ok (.iinc 5 1, 3) := by decide +kernel
theorem dX5_smokeOf_57 : decode cX5_smokeOf 57 = .ok (.goto (-51), 3) := by decide +kernel
theorem dX5_smokeOf_60 : decode cX5_smokeOf 60 = .ok (.iload 4, 2) := by decide +kernel
theorem dX5_smokeOf_62 : decode cX5_smokeOf 62 = .ok (.ireturn, 1) := by decide +kernel
theorem dX5_signOf_0 : decode cX5_signOf 0 = .ok (.aload_n 0, 1) := by decide +kernel
theorem dX5_signOf_1 : decode cX5_signOf 1 = .ok (.getfield 44, 3) := by decide +kernel
theorem dX5_signOf_4 : decode cX5_signOf 4 = .ok (.getfield 290, 3) := by decide +kernel
theorem dX5_signOf_7 : decode cX5_signOf 7 = .ok (.invokestatic 293, 3) := by decide +kernel
theorem dX5_signOf_10 : decode cX5_signOf 10 = .ok (.istore_n 2, 1) := by decide +kernel
theorem dX5_signOf_11 : decode cX5_signOf 11 = .ok (.iload_n 1, 1) := by decide +kernel
theorem dX5_signOf_12 : decode cX5_signOf 12 = .ok (.ifCond .ne 13, 3) := by decide +kernel
theorem dX5_signOf_15 : decode cX5_signOf 15 = .ok (.iload_n 2, 1) := by decide +kernel
theorem dX5_signOf_16 : decode cX5_signOf 16 = .ok (.ifCond .le 7, 3) := by decide +kernel
theorem dX5_signOf_19 : decode cX5_signOf 19 = .ok (.iconst 1, 1) := by decide +kernel
theorem dX5_signOf_20 : decode cX5_signOf 20 = .ok (.goto 4, 3) := by decide +kernel
theorem dX5_signOf_23 : decode cX5_signOf 23 = .ok (.iconst 0, 1) := by decide +kernel
theorem dX5_signOf_24 : decode cX5_signOf 24 = .ok (.ireturn, 1) := by decide +kernel
theorem dX5_signOf_25 : decode cX5_signOf 25 = .ok (.iload_n 1, 1) := by decide +kernel
theorem dX5_signOf_26 : decode cX5_signOf 26 = .ok (.iconst 1, 1) := by decide +kernel
theorem dX5_signOf_27 : decode cX5_signOf 27 = .ok (.if_icmp .ne 7, 3) := by decide +kernel
theorem dX5_signOf_30 : decode cX5_signOf 30 = .ok (.iload_n 2, 1) := by decide +kernel
theorem dX5_signOf_31 : decode cX5_signOf 31 = .ok (.goto 13, 3) := by decide +kernel
theorem dX5_signOf_34 : decode cX5_signOf 34 = .ok (.aload_n 0, 1) := by decide +kernel
theorem dX5_signOf_35 : decode cX5_signOf 35 = .ok (.getfield 44, 3) := by decide +kernel
theorem dX5_signOf_38 : decode cX5_signOf 38 = .ok (.getfield 297, 3) := by decide +kernel
theorem dX5_signOf_41 : decode cX5_signOf 41 = .ok (.invokestatic 293, 3) := by decide +kernel
theorem dX5_signOf_44 : decode cX5_signOf 44 = .ok (.ireturn, 1) := by decide +kernel
theorem dX5_mixed_0 : decode cX5_mixed 0 = .ok (.lload_n 0, 1) := by decide +kernel
theorem dX5_mixed_1 : decode cX5_mixed 1 = .ok (.lstore 4, 2) := by decide +kernel
theorem dX5_mixed_3 : decode cX5_mixed 3 = .ok (.iconst 0, 1) := by decide +kernel
theorem dX5_mixed_4 : decode cX5_mixed 4 = .ok (.istore 6, 2) := by decide +kernel
theorem dX5_mixed_6 : decode cX5_mixed 6 = .ok (.iload 6, 2) := by decide +kernel
theorem dX5_mixed_8 : decode cX5_mixed 8 = .ok (.iload_n 3, 1) := by decide +kernel
theorem dX5_mixed_9 : decode cX5_mixed 9 = .ok (.if_icmp .ge 30, 3) := by decide +kernel
theorem dX5_mixed_12 : decode cX5_mixed 12 = .ok (.iload 6, 2) := by decide +kernel
theorem dX5_mixed_14 : decode cX5_mixed 14 = .ok (.aload_n 2, 1) := by decide +kernel
theorem dX5_mixed_15 : decode cX5_mixed 15 = .ok (.arraylength, 1) := by decide +kernel
theorem dX5_mixed_16 : decode cX5_mixed 16 = .ok (.if_icmp .ge 23, 3) := by decide +kernel
theorem dX5_mixed_19 : decode cX5_mixed 19 = .ok (.ldc2_w 258, 3) := by decide +kernel
theorem dX5_mixed_22 : decode cX5_mixed 22 = .ok (.lload 4, 2) := by decide +kernel
theorem dX5_mixed_24 : decode cX5_mixed 24 = .ok (.lmul, 1) := by decide +kernel
theorem dX5_mixed_25 : decode cX5_mixed 25 = .ok (.aload_n 2, 1) := by decide +kernel
theorem dX5_mixed_26 : decode cX5_mixed 26 = .ok (.iload 6, 2) := by decide +kernel
theorem dX5_mixed_28 : decode cX5_mixed 28 = .ok (.iaload, 1) := by decide +kernel
theorem dX5_mixed_29 : decode cX5_mixed 29 = .ok (.i2l, 1) := by decide +kernel
theorem dX5_mixed_30 : decode cX5_mixed 30 = .ok (.ladd, 1) := by decide +kernel
theorem dX5_mixed_31 : decode cX5_mixed 31 = .ok (.lstore 4, 2) := by decide +kernel
theorem dX5_mixed_33 : decode cX5_mixed 33 = .ok (.iinc 6 1, 3) := by decide +kernel
theorem dX5_mixed_36 : decode cX5_mixed 36 = .ok (.goto (-30), 3) := by decide +kernel
theorem dX5_mixed_39 : decode cX5_mixed 39 = .ok (.lload 4, 2) := by decide +kernel
theorem dX5_mixed_41 : decode cX5_mixed 41 = .ok (.lreturn, 1) := by decide +kernel
theorem dX5_at_0 : decode cX5_at 0 = .ok (.aload_n 0, 1) := by decide +kernel
theorem dX5_at_1 : decode cX5_at 1 = .ok (.ifnull 19, 3) := by decide +kernel
theorem dX5_at_4 : decode cX5_at 4 = .ok (.iload_n 1, 1) := by decide +kernel
theorem dX5_at_5 : decode cX5_at 5 = .ok (.ifCond .lt 15, 3) := by decide +kernel
theorem dX5_at_8 : decode cX5_at 8 = .ok (.iload_n 1, 1) := by decide +kernel
theorem dX5_at_9 : decode cX5_at 9 = .ok (.aload_n 0, 1) := by decide +kernel
theorem dX5_at_10 : decode cX5_at 10 = .ok (.arraylength, 1) := by decide +kernel
theorem dX5_at_11 : decode cX5_at 11 = .ok (.if_icmp .ge 9, 3) := by decide +kernel
theorem dX5_at_14 : decode cX5_at 14 = .ok (.aload_n 0, 1) := by decide +kernel
theorem dX5_at_15 : decode cX5_at 15 = .ok (.iload_n 1, 1) := by decide +kernel
theorem dX5_at_16 : decode cX5_at 16 = .ok (.iaload, 1) := by decide +kernel
theorem dX5_at_17 : decode cX5_at 17 = .ok (.goto 4, 3) := by decide +kernel
theorem dX5_at_20 : decode cX5_at 20 = .ok (.iconst 0, 1) := by decide +kernel
theorem dX5_at_21 : decode cX5_at 21 = .ok (.ireturn, 1) := by decide +kernel
theorem dX5_at__0 : decode cX5_at_ 0 = .ok (.aload_n 0, 1) := by decide +kernel
theorem dX5_at__1 : decode cX5_at_ 1 = .ok (.ifnull 19, 3) := by decide +kernel
theorem dX5_at__4 : decode cX5_at_ 4 = .ok (.iload_n 1, 1) := by decide +kernel
theorem dX5_at__5 : decode cX5_at_ 5 = .ok (.ifCond .lt 15, 3) := by decide +kernel
theorem dX5_at__8 : decode cX5_at_ 8 = .ok (.iload_n 1, 1) := by decide +kernel
theorem dX5_at__9 : decode cX5_at_ 9 = .ok (.aload_n 0, 1) := by decide +kernel
theorem dX5_at__10 : decode cX5_at_ 10 = .ok (.arraylength, 1) := by decide +kernel
theorem dX5_at__11 : decode cX5_at_ 11 = .ok (.if_icmp .ge 9, 3) := by decide +kernel
theorem dX5_at__14 : decode cX5_at_ 14 = .ok (.aload_n 0, 1) := by decide +kernel
theorem dX5_at__15 : decode cX5_at_ 15 = .ok (.iload_n 1, 1) := by decide +kernel
theorem dX5_at__16 : decode cX5_at_ 16 = .ok (.laload, 1) := by decide +kernel
theorem dX5_at__17 : decode cX5_at_ 17 = .ok (.goto 4, 3) := by decide +kernel
theorem dX5_at__20 : decode cX5_at_ 20 = .ok (.lconst 0, 1) := by decide +kernel
theorem dX5_at__21 : decode cX5_at_ 21 = .ok (.lreturn, 1) := by decide +kernel
theorem dX5_set_0 : decode cX5_set 0 = .ok (.aload_n 0, 1) := by decide +kernel
theorem dX5_set_1 : decode cX5_set 1 = .ok (.ifnull 17, 3) := by decide +kernel
theorem dX5_set_4 : decode cX5_set 4 = .ok (.iload_n 1, 1) := by decide +kernel
theorem dX5_set_5 : decode cX5_set 5 = .ok (.ifCond .lt 13, 3) := by decide +kernel
theorem dX5_set_8 : decode cX5_set 8 = .ok (.iload_n 1, 1) := by decide +kernel
theorem dX5_set_9 : decode cX5_set 9 = .ok (.aload_n 0, 1) := by decide +kernel
theorem dX5_set_10 : decode cX5_set 10 = .ok (.arraylength, 1) := by decide +kernel
theorem dX5_set_11 : decode cX5_set 11 = .ok (.if_icmp .ge 7, 3) := by decide +kernel
theorem dX5_set_14 : decode cX5_set 14 = .ok (.aload_n 0, 1) := by decide +kernel
theorem dX5_set_15 : decode cX5_set 15 = .ok (.iload_n 1, 1) := by decide +kernel
theorem dX5_set_16 : decode cX5_set 16 = .ok (.iload_n 2, 1) := by decide +kernel
theorem dX5_set_17 : decode cX5_set 17 = .ok (.iastore, 1) := by decide +kernel
theorem dX5_set_18 : decode cX5_set 18 = .ok (.return_, 1) := by decide +kernel
theorem dX5_set__0 : decode cX5_set_ 0 = .ok (.aload_n 0, 1) := by decide +kernel
theorem dX5_set__1 : decode cX5_set_ 1 = .ok (.ifnull 17, 3) := by decide +kernel
theorem dX5_set__4 : decode cX5_set_ 4 = .ok (.iload_n 1, 1) := by decide +kernel
theorem dX5_set__5 : decode cX5_set_ 5 = .ok (.ifCond .lt 13, 3) := by decide +kernel
theorem dX5_set__8 : decode cX5_set_ 8 = .ok (.iload_n 1, 1) := by decide +kernel
theorem dX5_set__9 : decode cX5_set_ 9 = .ok (.aload_n 0, 1) := by decide +kernel
theorem dX5_set__10 : decode cX5_set_ 10 = .ok (.arraylength, 1) := by decide +kernel
theorem dX5_set__11 : decode cX5_set_ 11 = .ok (.if_icmp .ge 7, 3) := by decide +kernel
theorem dX5_set__14 : decode cX5_set_ 14 = .ok (.aload_n 0, 1) := by decide +kernel
theorem dX5_set__15 : decode cX5_set_ 15 = .ok (.iload_n 1, 1) := by decide +kernel
theorem dX5_set__16 : decode cX5_set_ 16 = .ok (.lload_n 2, 1) := by decide +kernel
theorem dX5_set__17 : decode cX5_set_ 17 = .ok (.lastore, 1) := by decide +kernel
theorem dX5_set__18 : decode cX5_set_ 18 = .ok (.return_, 1) := by decide +kernel
theorem dX5_copy_0 : decode cX5_copy 0 = .ok (.iconst 0, 1) := by decide +kernel
theorem dX5_copy_1 : decode cX5_copy 1 = .ok (.istore_n 2, 1) := by decide +kernel
theorem dX5_copy_2 : decode cX5_copy 2 = .ok (.iload_n 2, 1) := by decide +kernel
theorem dX5_copy_3 : decode cX5_copy 3 = .ok (.aload_n 0, 1) := by decide +kernel
theorem dX5_copy_4 : decode cX5_copy 4 = .ok (.arraylength, 1) := by decide +kernel
theorem dX5_copy_5 : decode cX5_copy 5 = .ok (.if_icmp .ge 21, 3) := by decide +kernel
theorem dX5_copy_8 : decode cX5_copy 8 = .ok (.iload_n 2, 1) := by decide +kernel
theorem dX5_copy_9 : decode cX5_copy 9 = .ok (.aload_n 1, 1) := by decide +kernel
theorem dX5_copy_10 : decode cX5_copy 10 = .ok (.arraylength, 1) := by decide +kernel
theorem dX5_copy_11 : decode cX5_copy 11 = .ok (.if_icmp .ge 15, 3) := by decide +kernel
theorem dX5_copy_14 : decode cX5_copy 14 = .ok (.aload_n 1, 1) := by decide +kernel
theorem dX5_copy_15 : decode cX5_copy 15 = .ok (.iload_n 2, 1) := by decide +kernel
theorem dX5_copy_16 : decode cX5_copy 16 = .ok (.aload_n 0, 1) := by decide +kernel
theorem dX5_copy_17 : decode cX5_copy 17 = .ok (.iload_n 2, 1) := by decide +kernel
theorem dX5_copy_18 : decode cX5_copy 18 = .ok (.iaload, 1) := by decide +kernel
theorem dX5_copy_19 : decode cX5_copy 19 = .ok (.iastore, 1) := by decide +kernel
theorem dX5_copy_20 : decode cX5_copy 20 = .ok (.iinc 2 1, 3) := by decide +kernel
theorem dX5_copy_23 : decode cX5_copy 23 = .ok (.goto (-21), 3) := by decide +kernel
theorem dX5_copy_26 : decode cX5_copy 26 = .ok (.return_, 1) := by decide +kernel
theorem dJ0_length_8abf5_0 : decode cJ0_length_8abf5 0 = .ok (.aload_n 0, 1) := by decide +kernel
theorem dJ0_length_8abf5_1 : decode cJ0_length_8abf5 1 = .ok (.getfield 9, 3) := by decide +kernel
theorem dJ0_length_8abf5_4 : decode cJ0_length_8abf5 4 = .ok (.arraylength, 1) := by decide +kernel
theorem dJ0_length_8abf5_5 : decode cJ0_length_8abf5 5 = .ok (.aload_n 0, 1) := by decide +kernel
theorem dJ0_length_8abf5_6 : decode cJ0_length_8abf5 6 = .ok (.invokevirtual 335, 3) := by decide +kernel
theorem dJ0_length_8abf5_9 : decode cJ0_length_8abf5 9 = .ok (.ishr, 1) := by decide +kernel
theorem dJ0_length_8abf5_10 : decode cJ0_length_8abf5 10 = .ok (.ireturn, 1) := by decide +kernel
theorem dJ0_charAt_5068e_0 : decode cJ0_charAt_5068e 0 = .ok (.aload_n 0, 1) := by decide +kernel
theorem dJ0_charAt_5068e_1 : decode cJ0_charAt_5068e 1 = .ok (.invokevirtual 492, 3) := by decide +kernel
theorem dJ0_charAt_5068e_4 : decode cJ0_charAt_5068e 4 = .ok (.ifCond .eq 12, 3) := by decide +kernel
theorem dJ0_charAt_5068e_7 : decode cJ0_charAt_5068e 7 = .ok (.aload_n 0, 1) := by decide +kernel
theorem dJ0_charAt_5068e_8 : decode cJ0_charAt_5068e 8 = .ok (.getfield 9, 3) := by decide +kernel
theorem dJ0_charAt_5068e_11 : decode cJ0_charAt_5068e 11 = .ok (.iload_n 1, 1) := by decide +kernel
theorem dJ0_charAt_5068e_12 : decode cJ0_charAt_5068e 12 = .ok (.invokestatic 495, 3) := by decide +kernel
theorem dJ0_charAt_5068e_15 : decode cJ0_charAt_5068e 15 = .ok (.ireturn, 1) := by decide +kernel
theorem dJ0_charAt_5068e_16 : decode cJ0_charAt_5068e 16 = .ok (.aload_n 0, 1) := by decide +kernel
theorem dJ0_charAt_5068e_17 : decode cJ0_charAt_5068e 17 = .ok (.getfield 9, 3) := by decide +kernel
theorem dJ0_charAt_5068e_20 : decode cJ0_charAt_5068e 20 = .ok (.iload_n 1, 1) := by decide +kernel
theorem dJ0_charAt_5068e_21 : decode cJ0_charAt_5068e 21 = .ok (.invokestatic 498, 3) := by decide +kernel
theorem dJ0_charAt_5068e_24 : decode cJ0_charAt_5068e 24 = .ok (.ireturn, 1) := by decide +kernel
theorem dJ0_coder_7d493_0 : decode cJ0_coder_7d493 0 = .ok (.getstatic 38, 3) := by decide +kernel
theorem dJ0_coder_7d493_3 : decode cJ0_coder_7d493 3 = .ok (.ifCond .eq 10, 3) := by decide +kernel
theorem dJ0_coder_7d493_6 : decode cJ0_coder_7d493 6 = .ok (.aload_n 0, 1) := by decide +kernel
theorem dJ0_coder_7d493_7 : decode cJ0_coder_7d493 7 = .ok (.getfield 15, 3) := by decide +kernel
theorem dJ0_coder_7d493_10 : decode cJ0_coder_7d493 10 = .ok (.goto 4, 3) := by decide +kernel
theorem dJ0_coder_7d493_13 : decode cJ0_coder_7d493 13 = .ok (.iconst 1, 1) := by decide +kernel
theorem dJ0_coder_7d493_14 : decode cJ0_coder_7d493 14 = .ok (.ireturn, 1) := by decide +kernel
theorem dJ0_isLatin1_aae02_0 : decode cJ0_isLatin1_aae02 0 = .ok (.getstatic 38, 3) := by decide +kernel
theorem dJ0_isLatin1_aae02_3 : decode cJ0_isLatin1_aae02 3 = .ok (.ifCond .eq 14, 3) := by decide +kernel
theorem dJ0_isLatin1_aae02_6 : decode cJ0_isLatin1_aae02 6 = .ok (.aload_n 0, 1) := by decide +kernel
theorem dJ0_isLatin1_aae02_7 : decode cJ0_isLatin1_aae02 7 = .ok (.getfield 15, 3) := by decide +kernel
theorem dJ0_isLatin1_aae02_10 : decode cJ0_isLatin1_aae02 10 = .ok (.ifCond .ne 7, 3) := by decide +kernel
theorem dJ0_isLatin1_aae02_13 : decode cJ0_isLatin1_aae02 13 = .ok (.iconst 1, 1) := by decide +kernel
theorem dJ0_isLatin1_aae02_14 : decode cJ0_isLatin1_aae02 14 = .ok (.goto 4, 3) := by decide +kernel
theorem dJ0_isLatin1_aae02_17 : decode cJ0_isLatin1_aae02 17 = .ok (.iconst 0, 1) := by decide +kernel
theorem dJ0_isLatin1_aae02_18 : decode cJ0_isLatin1_aae02 18 = .ok (.ireturn, 1) := by decide +kernel
theorem dJ0_checkIndex_df160_0 : decode cJ0_checkIndex_df160 0 = .ok (.iload_n 0, 1) := by decide +kernel
theorem dJ0_checkIndex_df160_1 : decode cJ0_checkIndex_df160 1 = .ok (.iload_n 1, 1) := by decide +kernel
theorem dJ0_checkIndex_df160_2 : decode cJ0_checkIndex_df160 2 = .ok (.getstatic 1053, 3) := by decide +kernel
theorem dJ0_checkIndex_df160_5 : decode cJ0_checkIndex_df160 5 = .ok (.invokestatic 1059, 3) := by decide +kernel
theorem dJ0_checkIndex_df160_8 : decode cJ0_checkIndex_df160 8 = .ok (.pop, 1) := by decide +kernel
theorem dJ0_checkIndex_df160_9 : decode cJ0_checkIndex_df160 9 = .ok (.return_, 1) := by decide +kernel
theorem dJ1_charAt_3b067_0 : decode cJ1_charAt_3b067 0 = .ok (.iload_n 1, 1) := by decide +kernel
theorem dJ1_charAt_3b067_1 : decode cJ1_charAt_3b067 1 = .ok (.aload_n 0, 1) := by decide +kernel
theorem dJ1_charAt_3b067_2 : decode cJ1_charAt_3b067 2 = .ok (.arraylength, 1) := by decide +kernel
theorem dJ1_charAt_3b067_3 : decode cJ1_charAt_3b067 3 = .ok (.invokestatic 9, 3) := by decide +kernel
theorem dJ1_charAt_3b067_6 : decode cJ1_charAt_3b067 6 = .ok (.aload_n 0, 1) := by decide +kernel
theorem dJ1_charAt_3b067_7 : decode cJ1_charAt_3b067 7 = .ok (.iload_n 1, 1) := by decide +kernel
theorem dJ1_charAt_3b067_8 : decode cJ1_charAt_3b067 8 = .ok (.baload, 1) := by decide +kernel
theorem dJ1_charAt_3b067_9 : decode cJ1_charAt_3b067 9 = .ok (.sipush 255, 3) := by decide +kernel
theorem dJ1_charAt_3b067_12 : decode cJ1_charAt_3b067 12 = .ok (.iand, 1) := by decide +kernel
theorem dJ1_charAt_3b067_13 : decode cJ1_charAt_3b067 13 = .ok (.i2c, 1) := by decide +kernel
theorem dJ1_charAt_3b067_14 : decode cJ1_charAt_3b067 14 = .ok (.ireturn, 1) := by decide +kernel
theorem dJ7_fill_d0a16_0 : decode cJ7_fill_d0a16 0 = .ok (.iconst 0, 1) := by decide +kernel
theorem dJ7_fill_d0a16_1 : decode cJ7_fill_d0a16 1 = .ok (.istore_n 3, 1) := by decide +kernel
theorem dJ7_fill_d0a16_2 : decode cJ7_fill_d0a16 2 = .ok (.aload_n 0, 1) := by decide +kernel
theorem dJ7_fill_d0a16_3 : decode cJ7_fill_d0a16 3 = .ok (.arraylength, 1) := by decide +kernel
theorem dJ7_fill_d0a16_4 : decode cJ7_fill_d0a16 4 = .ok (.istore 4, 2) := by decide +kernel
theorem dJ7_fill_d0a16_6 : decode cJ7_fill_d0a16 6 = .ok (.iload_n 3, 1) := by decide +kernel
theorem dJ7_fill_d0a16_7 : decode cJ7_fill_d0a16 7 = .ok (.iload 4, 2) := by decide +kernel
theorem dJ7_fill_d0a16_9 : decode cJ7_fill_d0a16 9 = .ok (.if_icmp .ge 13, 3) := by decide +kernel
theorem dJ7_fill_d0a16_12 : decode cJ7_fill_d0a16 12 = .ok (.aload_n 0, 1) := by decide +kernel
theorem dJ7_fill_d0a16_13 : decode cJ7_fill_d0a16 13 = .ok (.iload_n 3, 1) := by decide +kernel
theorem dJ7_fill_d0a16_14 : decode cJ7_fill_d0a16 14 = .ok (.lload_n 1, 1) := by decide +kernel
theorem dJ7_fill_d0a16_15 : decode cJ7_fill_d0a16 15 = .ok (.lastore, 1) := by decide +kernel
theorem dJ7_fill_d0a16_16 : decode cJ7_fill_d0a16 16 = .ok (.iinc 3 1, 3) := by decide +kernel
theorem dJ7_fill_d0a16_19 : decode cJ7_fill_d0a16 19 = .ok (.goto (-13), 3) := by decide +kernel
theorem dJ7_fill_d0a16_22 : decode cJ7_fill_d0a16 22 = .ok (.return_, 1) := by decide +kernel
theorem dJ3_checkIndex_8e157_0 : decode cJ3_checkIndex_8e157 0 = .ok (.iload_n 0, 1) := by decide +kernel
theorem dJ3_checkIndex_8e157_1 : decode cJ3_checkIndex_8e157 1 = .ok (.ifCond .lt 8, 3) := by decide +kernel
theorem dJ3_checkIndex_8e157_4 : decode cJ3_checkIndex_8e157 4 = .ok (.iload_n 0, 1) := by decide +kernel
theorem dJ3_checkIndex_8e157_5 : decode cJ3_checkIndex_8e157 5 = .ok (.iload_n 1, 1) := by decide +kernel
theorem dJ3_checkIndex_8e157_6 : decode cJ3_checkIndex_8e157 6 = .ok (.if_icmp .lt 10, 3) := by decide +kernel
theorem dJ3_checkIndex_8e157_9 : decode cJ3_checkIndex_8e157 9 = .ok (.aload_n 2, 1) := by decide +kernel
theorem dJ3_checkIndex_8e157_10 : decode cJ3_checkIndex_8e157 10 = .ok (.iload_n 0, 1) := by decide +kernel
theorem dJ3_checkIndex_8e157_11 : decode cJ3_checkIndex_8e157 11 = .ok (.iload_n 1, 1) := by decide +kernel
theorem dJ3_checkIndex_8e157_12 : decode cJ3_checkIndex_8e157 12 = .ok (.invokestatic 95, 3) := by decide +kernel
theorem dJ3_checkIndex_8e157_15 : decode cJ3_checkIndex_8e157 15 = .ok (.athrow, 1) := by decide +kernel
theorem dJ3_checkIndex_8e157_16 : decode cJ3_checkIndex_8e157 16 = .ok (.iload_n 0, 1) := by decide +kernel
theorem dJ3_checkIndex_8e157_17 : decode cJ3_checkIndex_8e157 17 = .ok (.ireturn, 1) := by decide +kernel
theorem dL_cell_0 : decode cL_cell 0 = .ok (.iload_n 1, 1) := by decide +kernel
theorem dL_cell_1 : decode cL_cell 1 = .ok (.aload_n 0, 1) := by decide +kernel
theorem dL_cell_2 : decode cL_cell 2 = .ok (.arraylength, 1) := by decide +kernel
theorem dL_cell_3 : decode cL_cell 3 = .ok (.if_icmp .ge 9, 3) := by decide +kernel
theorem dL_cell_6 : decode cL_cell 6 = .ok (.aload_n 0, 1) := by decide +kernel
theorem dL_cell_7 : decode cL_cell 7 = .ok (.iload_n 1, 1) := by decide +kernel
theorem dL_cell_8 : decode cL_cell 8 = .ok (.iaload, 1) := by decide +kernel
theorem dL_cell_9 : decode cL_cell 9 = .ok (.goto 10, 3) := by decide +kernel
theorem dL_cell_12 : decode cL_cell 12 = .ok (.ldc 7, 2) := by decide +kernel
theorem dL_cell_14 : decode cL_cell 14 = .ok (.iload_n 1, 1) := by decide +kernel
theorem dL_cell_15 : decode cL_cell 15 = .ok (.imul, 1) := by decide +kernel
theorem dL_cell_16 : decode cL_cell 16 = .ok (.bipush 107, 2) := by decide +kernel
theorem dL_cell_18 : decode cL_cell 18 = .ok (.iadd, 1) := by decide +kernel
theorem dL_cell_19 : decode cL_cell 19 = .ok (.ldc 8, 2) := by decide +kernel
theorem dL_cell_21 : decode cL_cell 21 = .ok (.iand, 1) := by decide +kernel
theorem dL_cell_22 : decode cL_cell 22 = .ok (.ireturn, 1) := by decide +kernel
theorem dL_over_0 : decode cL_over 0 = .ok (.lconst 0, 1) := by decide +kernel
theorem dL_over_1 : decode cL_over 1 = .ok (.lstore 4, 2) := by decide +kernel
theorem dL_over_3 : decode cL_over 3 = .ok (.aload_n 0, 1) := by decide +kernel
theorem dL_over_4 : decode cL_over 4 = .ok (.iconst 1, 1) := by decide +kernel
theorem dL_over_5 : decode cL_over 5 = .ok (.iload_n 1, 1) := by decide +kernel
theorem dL_over_6 : decode cL_over 6 = .ok (.iadd, 1) := by decide +kernel
theorem dL_over_7 : decode cL_over 7 = .ok (.invokevirtual 9, 3) := by decide +kernel
theorem dL_over_10 : decode cL_over 10 = .ok (.iconst 1, 1) := by decide +kernel
theorem dL_over_11 : decode cL_over 11 = .ok (.isub, 1) := by decide +kernel
theorem dL_over_12 : decode cL_over 12 = .ok (.istore 6, 2) := by decide +kernel
theorem dL_over_14 : decode cL_over 14 = .ok (.iload 6, 2) := by decide +kernel
theorem dL_over_16 : decode cL_over 16 = .ok (.ifCond .lt 28, 3) := by decide +kernel
theorem dL_over_19 : decode cL_over 19 = .ok (.lload 4, 2) := by decide +kernel
theorem dL_over_21 : decode cL_over 21 = .ok (.ldc2_w 15, 3) := by decide +kernel
theorem dL_over_24 : decode cL_over 24 = .ok (.lmul, 1) := by decide +kernel
theorem dL_over_25 : decode cL_over 25 = .ok (.aload_n 0, 1) := by decide +kernel
theorem dL_over_26 : decode cL_over 26 = .ok (.iload_n 1, 1) := by decide +kernel
theorem dL_over_27 : decode cL_over 27 = .ok (.iload 6, 2) := by decide +kernel
theorem dL_over_29 : decode cL_over 29 = .ok (.invokevirtual 17, 3) := by decide +kernel
theorem dL_over_32 : decode cL_over 32 = .ok (.i2l, 1) := by decide +kernel
theorem dL_over_33 : decode cL_over 33 = .ok (.ladd, 1) := by decide +kernel
theorem dL_over_34 : decode cL_over 34 = .ok (.lload_n 2, 1) := by decide +kernel
theorem dL_over_35 : decode cL_over 35 = .ok (.lrem, 1) := by decide +kernel
theorem dL_over_36 : decode cL_over 36 = .ok (.lstore 4, 2) := by decide +kernel
theorem dL_over_38 : decode cL_over 38 = .ok (.iinc 6 (-1), 3) := by decide +kernel
theorem dL_over_41 : decode cL_over 41 = .ok (.goto (-27), 3) := by decide +kernel
theorem dL_over_44 : decode cL_over 44 = .ok (.lload 4, 2) := by decide +kernel
theorem dL_over_46 : decode cL_over 46 = .ok (.lreturn, 1) := by decide +kernel
theorem dL_power_0 : decode cL_power 0 = .ok (.lconst 1, 1) := by decide +kernel
theorem dL_power_1 : decode cL_power 1 = .ok (.lstore 6, 2) := by decide +kernel
theorem dL_power_3 : decode cL_power 3 = .ok (.lload_n 0, 1) := by decide +kernel
theorem dL_power_4 : decode cL_power 4 = .ok (.lload 4, 2) := by decide +kernel
theorem dL_power_6 : decode cL_power 6 = .ok (.lrem, 1) := by decide +kernel
theorem dL_power_7 : decode cL_power 7 = .ok (.lstore 8, 2) := by decide +kernel
theorem dL_power_9 : decode cL_power 9 = .ok (.lload_n 2, 1) := by decide +kernel
theorem dL_power_10 : decode cL_power 10 = .ok (.lstore 10, 2) := by decide +kernel
theorem dL_power_12 : decode cL_power 12 = .ok (.lload 10, 2) := by decide +kernel
theorem dL_power_14 : decode cL_power 14 = .ok (.lconst 0, 1) := by decide +kernel
theorem dL_power_15 : decode cL_power 15 = .ok (.lcmp, 1) := by decide +kernel
theorem dL_power_16 : decode cL_power 16 = .ok (.ifCond .le 46, 3) := by decide +kernel
theorem dL_power_19 : decode cL_power 19 = .ok (.lload 10, 2) := by decide +kernel
theorem dL_power_21 : decode cL_power 21 = .ok (.lconst 1, 1) := by decide +kernel
theorem dL_power_22 : decode cL_power 22 = .ok (.land, 1) := by decide +kernel
theorem dL_power_23 : decode cL_power 23 = .ok (.lconst 1, 1) := by decide +kernel
theorem dL_power_24 : decode cL_power 24 = .ok (.lcmp, 1) := by decide +kernel
theorem dL_power_25 : decode cL_power 25 = .ok (.ifCond .ne 14, 3) := by decide +kernel
theorem dL_power_28 : decode cL_power 28 = .ok (.lload 6, 2) := by decide +kernel
theorem dL_power_30 : decode cL_power 30 = .ok (.lload 8, 2) := by decide +kernel
theorem dL_power_32 : decode cL_power 32 = .ok (.lmul, 1) := by decide +kernel
theorem dL_power_33 : decode cL_power 33 = .ok (.lload 4, 2) := by decide +kernel
theorem dL_power_35 : decode cL_power 35 = .ok (.lrem, 1) := by decide +kernel
theorem dL_power_36 : decode cL_power 36 = .ok (.goto 5, 3) := by decide +kernel
theorem dL_power_39 : decode cL_power 39 = .ok (.lload 6, 2) := by decide +kernel
theorem dL_power_41 : decode cL_power 41 = .ok (.lstore 6, 2) := by decide +kernel
theorem dL_power_43 : decode cL_power 43 = .ok (.lload 8, 2) := by decide +kernel
theorem dL_power_45 : decode cL_power 45 = .ok (.lload 8, 2) := by decide +kernel
theorem dL_power_47 : decode cL_power 47 = .ok (.lmul, 1) := by decide +kernel
theorem dL_power_48 : decode cL_power 48 = .ok (.lload 4, 2) := by decide +kernel
theorem dL_power_50 : decode cL_power 50 = .ok (.lrem, 1) := by decide +kernel
theorem dL_power_51 : decode cL_power 51 = .ok (.lstore 8, 2) := by decide +kernel
theorem dL_power_53 : decode cL_power 53 = .ok (.lload 10, 2) := by decide +kernel
theorem dL_power_55 : decode cL_power 55 = .ok (.iconst 1, 1) := by decide +kernel
theorem dL_power_56 : decode cL_power 56 = .ok (.lshr, 1) := by decide +kernel
theorem dL_power_57 : decode cL_power 57 = .ok (.lstore 10, 2) := by decide +kernel
theorem dL_power_59 : decode cL_power 59 = .ok (.goto (-47), 3) := by decide +kernel
theorem dL_power_62 : decode cL_power 62 = .ok (.lload 6, 2) := by decide +kernel
theorem dL_power_64 : decode cL_power 64 = .ok (.lreturn, 1) := by decide +kernel
theorem dL_digits_0 : decode cL_digits 0 = .ok (.aload_n 0, 1) := by decide +kernel
theorem dL_digits_1 : decode cL_digits 1 = .ok (.ldc2_w 21, 3) := by decide +kernel
theorem dL_digits_4 : decode cL_digits 4 = .ok (.iconst 1, 1) := by decide +kernel
theorem dL_digits_5 : decode cL_digits 5 = .ok (.invokevirtual 23, 3) := by decide +kernel
theorem dL_digits_8 : decode cL_digits 8 = .ok (.pop, 1) := by decide +kernel
theorem dL_digits_9 : decode cL_digits 9 = .ok (.iload_n 1, 1) := by decide +kernel
theorem dL_digits_10 : decode cL_digits 10 = .ok (.bipush 9, 2) := by decide +kernel
theorem dL_digits_12 : decode cL_digits 12 = .ok (.if_icmp .le 18, 3) := by decide +kernel
theorem dL_digits_15 : decode cL_digits 15 = .ok (.aload_n 0, 1) := by decide +kernel
theorem dL_digits_16 : decode cL_digits 16 = .ok (.ldc2_w 27, 3) := by decide +kernel
theorem dL_digits_19 : decode cL_digits 19 = .ok (.iload_n 1, 1) := by decide +kernel
theorem dL_digits_20 : decode cL_digits 20 = .ok (.bipush 10, 2) := by decide +kernel
theorem dL_digits_22 : decode cL_digits 22 = .ok (.idiv, 1) := by decide +kernel
theorem dL_digits_23 : decode cL_digits 23 = .ok (.i2l, 1) := by decide +kernel
theorem dL_digits_24 : decode cL_digits 24 = .ok (.ladd, 1) := by decide +kernel
theorem dL_digits_25 : decode cL_digits 25 = .ok (.iconst 1, 1) := by decide +kernel
theorem dL_digits_26 : decode cL_digits 26 = .ok (.invokevirtual 23, 3) := by decide +kernel
theorem dL_digits_29 : decode cL_digits 29 = .ok (.pop, 1) := by decide +kernel
theorem dL_digits_30 : decode cL_digits 30 = .ok (.aload_n 0, 1) := by decide +kernel
theorem dL_digits_31 : decode cL_digits 31 = .ok (.ldc2_w 27, 3) := by decide +kernel
theorem dL_digits_34 : decode cL_digits 34 = .ok (.iload_n 1, 1) := by decide +kernel
theorem dL_digits_35 : decode cL_digits 35 = .ok (.bipush 10, 2) := by decide +kernel
theorem dL_digits_37 : decode cL_digits 37 = .ok (.irem, 1) := by decide +kernel
theorem dL_digits_38 : decode cL_digits 38 = .ok (.i2l, 1) := by decide +kernel
theorem dL_digits_39 : decode cL_digits 39 = .ok (.ladd, 1) := by decide +kernel
theorem dL_digits_40 : decode cL_digits 40 = .ok (.iconst 1, 1) := by decide +kernel
theorem dL_digits_41 : decode cL_digits 41 = .ok (.invokevirtual 23, 3) := by decide +kernel
theorem dL_digits_44 : decode cL_digits 44 = .ok (.pop, 1) := by decide +kernel
theorem dL_digits_45 : decode cL_digits 45 = .ok (.return_, 1) := by decide +kernel
theorem dL_day_0 : decode cL_day 0 = .ok (.bipush 64, 2) := by decide +kernel
theorem dL_day_2 : decode cL_day 2 = .ok (.newarray .int, 2) := by decide +kernel
theorem dL_day_4 : decode cL_day 4 = .ok (.astore_n 3, 1) := by decide +kernel
theorem dL_day_5 : decode cL_day 5 = .ok (.aload_n 1, 1) := by decide +kernel
theorem dL_day_6 : decode cL_day 6 = .ok (.iconst 0, 1) := by decide +kernel
theorem dL_day_7 : decode cL_day 7 = .ok (.invokestatic 29, 3) := by decide +kernel
theorem dL_day_10 : decode cL_day 10 = .ok (.bipush 9, 2) := by decide +kernel
theorem dL_day_12 : decode cL_day 12 = .ok (.irem, 1) := by decide +kernel
theorem dL_day_13 : decode cL_day 13 = .ok (.istore 4, 2) := by decide +kernel
theorem dL_day_15 : decode cL_day 15 = .ok (.iconst 0, 1) := by decide +kernel
theorem dL_day_16 : decode cL_day 16 = .ok (.istore 5, 2) := by decide +kernel
theorem dL_day_18 : decode cL_day 18 = .ok (.iload 5, 2) := by decide +kernel
theorem dL_day_20 : decode cL_day 20 = .ok (.iload 4, 2) := by decide +kernel
theorem dL_day_22 : decode cL_day 22 = .ok (.if_icmp .ge 216, 3) := by decide +kernel
theorem dL_day_25 : decode cL_day 25 = .ok (.aload_n 1, 1) := by decide +kernel
theorem dL_day_26 : decode cL_day 26 = .ok (.iconst 1, 1) := by decide +kernel
theorem dL_day_27 : decode cL_day 27 = .ok (.iload 5, 2) := by decide +kernel
theorem dL_day_29 : decode cL_day 29 = .ok (.iadd, 1) := by decide +kernel
theorem dL_day_30 : decode cL_day 30 = .ok (.invokestatic 29, 3) := by decide +kernel
theorem dL_day_33 : decode cL_day 33 = .ok (.istore 6, 2) := by decide +kernel
theorem dL_day_35 : decode cL_day 35 = .ok (.iconst 1, 1) := by decide +kernel
theorem dL_day_36 : decode cL_day 36 = .ok (.iload 6, 2) := by decide +kernel
theorem dL_day_38 : decode cL_day 38 = .ok (.iconst 2, 1) := by decide +kernel
theorem dL_day_39 : decode cL_day 39 = .ok (.ishr, 1) := by decide +kernel
theorem dL_day_40 : decode cL_day 40 = .ok (.bipush 14, 2) := by decide +kernel
theorem dL_day_42 : decode cL_day 42 = .ok (.irem, 1) := by decide +kernel
theorem dL_day_43 : decode cL_day 43 = .ok (.iadd, 1) := by decide +kernel
theorem dL_day_44 : decode cL_day 44 = .ok (.istore 7, 2) := by decide +kernel
theorem dL_day_46 : decode cL_day 46 = .ok (.aload_n 3, 1) := by decide +kernel
theorem dL_day_47 : decode cL_day 47 = .ok (.bipush 63, 2) := by decide +kernel
theorem dL_day_49 : decode cL_day 49 = .ok (.iaload, 1) := by decide +kernel
theorem dL_day_50 : decode cL_day 50 = .ok (.iload 7, 2) := by decide +kernel
theorem dL_day_52 : decode cL_day 52 = .ok (.iadd, 1) := by decide +kernel
theorem dL_day_53 : decode cL_day 53 = .ok (.bipush 60, 2) := by decide +kernel
theorem dL_day_55 : decode cL_day 55 = .ok (.if_icmp .le 13, 3) := by decide +kernel
theorem dL_day_58 : decode cL_day 58 = .ok (.bipush 60, 2) := by decide +kernel
theorem dL_day_60 : decode cL_day 60 = .ok (.aload_n 3, 1) := by decide +kernel
theorem dL_day_61 : decode cL_day 61 = .ok (.bipush 63, 2) := by decide +kernel
theorem dL_day_63 : decode cL_day 63 = .ok (.iaload, 1) := by decide +kernel
theorem dL_day_64 : decode cL_day 64 = .ok (.isub, 1) := by decide +kernel
theorem dL_day_65 : decode cL_day 65 = .ok (.goto 5, 3) := by decide +kernel
theorem dL_day_68 : decode cL_day 68 = .ok (.iload 7, 2) := by decide +kernel
theorem dL_day_70 : decode cL_day 70 = .ok (.istore 7, 2) := by decide +kernel
theorem dL_day_72 : decode cL_day 72 = .ok (.iconst 1, 1) := by decide +kernel
theorem dL_day_73 : decode cL_day 73 = .ok (.iload 6, 2) := by decide +kernel
theorem dL_day_75 : decode cL_day 75 = .ok (.bipush 8, 2) := by decide +kernel
theorem dL_day_77 : decode cL_day 77 = .ok (.ishr, 1) := by decide +kernel
theorem dL_day_78 : decode cL_day 78 = .ok (.bipush 9, 2) := by decide +kernel
theorem dL_day_80 : decode cL_day 80 = .ok (.irem, 1) := by decide +kernel
theorem dL_day_81 : decode cL_day 81 = .ok (.iadd, 1) := by decide +kernel
theorem dL_day_82 : decode cL_day 82 = .ok (.istore 8, 2) := by decide +kernel
theorem dL_day_84 : decode cL_day 84 = .ok (.iload 7, 2) := by decide +kernel
theorem dL_day_86 : decode cL_day 86 = .ok (.ifCond .le 146, 3) := by decide +kernel
theorem dL_day_89 : decode cL_day 89 = .ok (.iconst 0, 1) := by decide +kernel
theorem dL_day_90 : decode cL_day 90 = .ok (.istore 9, 2) := by decide +kernel
theorem dL_day_92 : decode cL_day 92 = .ok (.iload 9, 2) := by decide +kernel
theorem dL_day_94 : decode cL_day 94 = .ok (.iload 7, 2) := by decide +kernel
theorem dL_day_96 : decode cL_day 96 = .ok (.if_icmp .ge 43, 3) := by decide +kernel
theorem dL_day_99 : decode cL_day 99 = .ok (.aload_n 3, 1) := by decide +kernel
theorem dL_day_100 : decode cL_day 100 = .ok (.aload_n 3, 1) := by decide +kernel
theorem dL_day_101 : decode cL_day 101 = .ok (.bipush 63, 2) := by decide +kernel
theorem dL_day_103 : decode cL_day 103 = .ok (.iaload, 1) := by decide +kernel
theorem dL_day_104 : decode cL_day 104 = .ok (.iload 6, 2) := by decide +kernel
theorem dL_day_106 : decode cL_day 106 = .ok (.iconst 4, 1) := by decide +kernel
theorem dL_day_107 : decode cL_day 107 = .ok (.irem, 1) := by decide +kernel
theorem dL_day_108 : decode cL_day 108 = .ok (.iconst 3, 1) := by decide +kernel
theorem dL_day_109 : decode cL_day 109 = .ok (.if_icmp .ne 11, 3) := by decide +kernel
theorem dL_day_112 : decode cL_day 112 = .ok (.bipush 10, 2) := by decide +kernel
theorem dL_day_114 : decode cL_day 114 = .ok (.iload 8, 2) := by decide +kernel
theorem dL_day_116 : decode cL_day 116 = .ok (.iadd, 1) := by decide +kernel
theorem dL_day_117 : decode cL_day 117 = .ok (.goto 7, 3) := by decide +kernel
theorem dL_day_120 : decode cL_day 120 = .ok (.iload 6, 2) := by decide +kernel
theorem dL_day_122 : decode cL_day 122 = .ok (.iconst 4, 1) := by decide +kernel
theorem dL_day_123 : decode cL_day 123 = .ok (.irem, 1) := by decide +kernel
theorem dL_day_124 : decode cL_day 124 = .ok (.iastore, 1) := by decide +kernel
theorem dL_day_125 : decode cL_day 125 = .ok (.aload_n 3, 1) := by decide +kernel
theorem dL_day_126 : decode cL_day 126 = .ok (.bipush 63, 2) := by decide +kernel
theorem dL_day_128 : decode cL_day 128 = .ok (.dup2, 1) := by decide +kernel
theorem dL_day_129 : decode cL_day 129 = .ok (.iaload, 1) := by decide +kernel
theorem dL_day_130 : decode cL_day 130 = .ok (.iconst 1, 1) := by decide +kernel
theorem dL_day_131 : decode cL_day 131 = .ok (.iadd, 1) := by decide +kernel
theorem dL_day_132 : decode cL_day 132 = .ok (.iastore, 1) := by decide +kernel
theorem dL_day_133 : decode cL_day 133 = .ok (.iinc 9 1, 3) := by decide +kernel
theorem dL_day_136 : decode cL_day 136 = .ok (.goto (-44), 3) := by decide +kernel
theorem dL_day_139 : decode cL_day 139 = .ok (.iload_n 2, 1) := by decide +kernel
theorem dL_day_140 : decode cL_day 140 = .ok (.ifCond .eq 92, 3) := by decide +kernel
theorem dL_day_143 : decode cL_day 143 = .ok (.iload 6, 2) := by decide +kernel
theorem dL_day_145 : decode cL_day 145 = .ok (.iconst 4, 1) := by decide +kernel
theorem dL_day_146 : decode cL_day 146 = .ok (.irem, 1) := by decide +kernel
theorem dL_day_147 : decode cL_day 147 = .ok (.ifCond .ne 15, 3) := by decide +kernel
theorem dL_day_150 : decode cL_day 150 = .ok (.aload_n 0, 1) := by decide +kernel
theorem dL_day_151 : decode cL_day 151 = .ok (.ldc2_w 35, 3) := by decide +kernel
theorem dL_day_154 : decode cL_day 154 = .ok (.iconst 5, 1) := by decide +kernel
theorem dL_day_155 : decode cL_day 155 = .ok (.invokevirtual 23, 3) := by decide +kernel
theorem dL_day_158 : decode cL_day 158 = .ok (.pop, 1) := by decide +kernel
theorem dL_day_159 : decode cL_day 159 = .ok (.goto 58, 3) := by decide +kernel
theorem dL_day_162 : decode cL_day 162 = .ok (.iload 6, 2) := by decide +kernel
theorem dL_day_164 : decode cL_day 164 = .ok (.iconst 4, 1) := by decide +kernel
theorem dL_day_165 : decode cL_day 165 = .ok (.irem, 1) := by decide +kernel
theorem dL_day_166 : decode cL_day 166 = .ok (.iconst 1, 1) := by decide +kernel
theorem dL_day_167 : decode cL_day 167 = .ok (.if_icmp .ne 15, 3) := by decide +kernel
theorem dL_day_170 : decode cL_day 170 = .ok (.aload_n 0, 1) := by decide +kernel
theorem dL_day_171 : decode cL_day 171 = .ok (.ldc2_w 37, 3) := by decide +kernel
theorem dL_day_174 : decode cL_day 174 = .ok (.iconst 5, 1) := by decide +kernel
theorem dL_day_175 : decode cL_day 175 = .ok (.invokevirtual 23, 3) := by decide +kernel
theorem dL_day_178 : decode cL_day 178 = .ok (.pop, 1) := by decide +kernel
theorem dL_day_179 : decode cL_day 179 = .ok (.goto 38, 3) := by decide +kernel
theorem dL_day_182 : decode cL_day 182 = .ok (.iload 6, 2) := by decide +kernel
theorem dL_day_184 : decode cL_day 184 = .ok (.iconst 4, 1) := by decide +kernel
theorem dL_day_185 : decode cL_day 185 = .ok (.irem, 1) := by decide +kernel
theorem dL_day_186 : decode cL_day 186 = .ok (.iconst 2, 1) := by decide +kernel
theorem dL_day_187 : decode cL_day 187 = .ok (.if_icmp .ne 15, 3) := by decide +kernel
theorem dL_day_190 : decode cL_day 190 = .ok (.aload_n 0, 1) := by decide +kernel
theorem dL_day_191 : decode cL_day 191 = .ok (.ldc2_w 39, 3) := by decide +kernel
theorem dL_day_194 : decode cL_day 194 = .ok (.iconst 5, 1) := by decide +kernel
theorem dL_day_195 : decode cL_day 195 = .ok (.invokevirtual 23, 3) := by decide +kernel
theorem dL_day_198 : decode cL_day 198 = .ok (.pop, 1) := by decide +kernel
theorem dL_day_199 : decode cL_day 199 = .ok (.goto 18, 3) := by decide +kernel
theorem dL_day_202 : decode cL_day 202 = .ok (.aload_n 0, 1) := by decide +kernel
theorem dL_day_203 : decode cL_day 203 = .ok (.ldc2_w 41, 3) := by decide +kernel
theorem dL_day_206 : decode cL_day 206 = .ok (.iconst 4, 1) := by decide +kernel
theorem dL_day_207 : decode cL_day 207 = .ok (.invokevirtual 23, 3) := by decide +kernel
theorem dL_day_210 : decode cL_day 210 = .ok (.pop, 1) := by decide +kernel
theorem dL_day_211 : decode cL_day 211 = .ok (.aload_n 0, 1) := by decide +kernel
theorem dL_day_212 : decode cL_day 212 = .ok (.iload 8, 2) := by decide +kernel
theorem dL_day_214 : decode cL_day 214 = .ok (.invokestatic 43, 3) := by decide +kernel
theorem dL_day_217 : decode cL_day 217 = .ok (.aload_n 0, 1) := by decide +kernel
theorem dL_day_218 : decode cL_day 218 = .ok (.iload 7, 2) := by decide +kernel
theorem dL_day_220 : decode cL_day 220 = .ok (.invokestatic 43, 3) := by decide +kernel
theorem dL_day_223 : decode cL_day 223 = .ok (.aload_n 0, 1) := by decide +kernel
theorem dL_day_224 : decode cL_day 224 = .ok (.ldc2_w 47, 3) := by decide +kernel
theorem dL_day_227 : decode cL_day 227 = .ok (.iconst 1, 1) := by decide +kernel
theorem dL_day_228 : decode cL_day 228 = .ok (.invokevirtual 23, 3) := by decide +kernel
theorem dL_day_231 : decode cL_day 231 = .ok (.pop, 1) := by decide +kernel
theorem dL_day_232 : decode cL_day 232 = .ok (.iinc 5 1, 3) := by decide +kernel
theorem dL_day_235 : decode cL_day 235 = .ok (.goto (-217), 3) := by decide +kernel
theorem dL_day_238 : decode cL_day 238 = .ok (.aload_n 3, 1) := by decide +kernel
theorem dL_day_239 : decode cL_day 239 = .ok (.areturn, 1) := by decide +kernel
theorem dL_first_0 : decode cL_first 0 = .ok (.aload_n 0, 1) := by decide +kernel
theorem dL_first_1 : decode cL_first 1 = .ok (.bipush 10, 2) := by decide +kernel
theorem dL_first_3 : decode cL_first 3 = .ok (.invokestatic 29, 3) := by decide +kernel
theorem dL_first_6 : decode cL_first 6 = .ok (.iconst 3, 1) := by decide +kernel
theorem dL_first_7 : decode cL_first 7 = .ok (.irem, 1) := by decide +kernel
theorem dL_first_8 : decode cL_first 8 = .ok (.ifCond .ne 17, 3) := by decide +kernel
theorem dL_first_11 : decode cL_first 11 = .ok (.aload_n 0, 1) := by decide +kernel
theorem dL_first_12 : decode cL_first 12 = .ok (.bipush 10, 2) := by decide +kernel
theorem dL_first_14 : decode cL_first 14 = .ok (.invokestatic 29, 3) := by decide +kernel
theorem dL_first_17 : decode cL_first 17 = .ok (.iconst 2, 1) := by decide +kernel
theorem dL_first_18 : decode cL_first 18 = .ok (.ishr, 1) := by decide +kernel
theorem dL_first_19 : decode cL_first 19 = .ok (.bipush 101, 2) := by decide +kernel
theorem dL_first_21 : decode cL_first 21 = .ok (.irem, 1) := by decide +kernel
theorem dL_first_22 : decode cL_first 22 = .ok (.goto 4, 3) := by decide +kernel
theorem dL_first_25 : decode cL_first 25 = .ok (.iconst 0, 1) := by decide +kernel
theorem dL_first_26 : decode cL_first 26 = .ok (.ireturn, 1) := by decide +kernel
theorem dL_tells_0 : decode cL_tells 0 = .ok (.aload_n 0, 1) := by decide +kernel
theorem dL_tells_1 : decode cL_tells 1 = .ok (.aload_n 1, 1) := by decide +kernel
theorem dL_tells_2 : decode cL_tells 2 = .ok (.iconst 1, 1) := by decide +kernel
theorem dL_tells_3 : decode cL_tells 3 = .ok (.invokestatic 56, 3) := by decide +kernel
theorem dL_tells_6 : decode cL_tells 6 = .ok (.pop, 1) := by decide +kernel
theorem dL_tells_7 : decode cL_tells 7 = .ok (.aload_n 0, 1) := by decide +kernel
theorem dL_tells_8 : decode cL_tells 8 = .ok (.iconst 0, 1) := by decide +kernel
theorem dL_tells_9 : decode cL_tells 9 = .ok (.aload_n 1, 1) := by decide +kernel
theorem dL_tells_10 : decode cL_tells 10 = .ok (.invokestatic 60, 3) := by decide +kernel
theorem dL_tells_13 : decode cL_tells 13 = .ok (.invokevirtual 64, 3) := by decide +kernel
theorem dL_tells_16 : decode cL_tells 16 = .ok (.ifCond .ne 15, 3) := by decide +kernel
theorem dL_tells_19 : decode cL_tells 19 = .ok (.aload_n 0, 1) := by decide +kernel
theorem dL_tells_20 : decode cL_tells 20 = .ok (.invokevirtual 67, 3) := by decide +kernel
theorem dL_tells_23 : decode cL_tells 23 = .ok (.iconst (-1), 1) := by decide +kernel
theorem dL_tells_24 : decode cL_tells 24 = .ok (.if_icmp .ne 7, 3) := by decide +kernel
theorem dL_tells_27 : decode cL_tells 27 = .ok (.iconst 1, 1) := by decide +kernel
theorem dL_tells_28 : decode cL_tells 28 = .ok (.goto 4, 3) := by decide +kernel
theorem dL_tells_31 : decode cL_tells 31 = .ok (.iconst 0, 1) := by decide +kernel
theorem dL_tells_32 : decode cL_tells 32 = .ok (.ireturn, 1) := by decide +kernel
theorem dL_thin_0 : decode cL_thin 0 = .ok (.iconst 1, 1) := by decide +kernel
theorem dL_thin_1 : decode cL_thin 1 = .ok (.aload_n 0, 1) := by decide +kernel
theorem dL_thin_2 : decode cL_thin 2 = .ok (.bipush 11, 2) := by decide +kernel
theorem dL_thin_4 : decode cL_thin 4 = .ok (.invokestatic 29, 3) := by decide +kernel
theorem dL_thin_7 : decode cL_thin 7 = .ok (.iconst 2, 1) := by decide +kernel
theorem dL_thin_8 : decode cL_thin 8 = .ok (.ishr, 1) := by decide +kernel
theorem dL_thin_9 : decode cL_thin 9 = .ok (.aload_n 0, 1) := by decide +kernel
theorem dL_thin_10 : decode cL_thin 10 = .ok (.bipush 11, 2) := by decide +kernel
theorem dL_thin_12 : decode cL_thin 12 = .ok (.invokestatic 29, 3) := by decide +kernel
theorem dL_thin_15 : decode cL_thin 15 = .ok (.iconst 2, 1) := by decide +kernel
theorem dL_thin_16 : decode cL_thin 16 = .ok (.irem, 1) := by decide +kernel
theorem dL_thin_17 : decode cL_thin 17 = .ok (.ifCond .ne 8, 3) := by decide +kernel
theorem dL_thin_20 : decode cL_thin 20 = .ok (.bipush 12, 2) := by decide +kernel
theorem dL_thin_22 : decode cL_thin 22 = .ok (.goto 5, 3) := by decide +kernel
theorem dL_thin_25 : decode cL_thin 25 = .ok (.bipush 40, 2) := by decide +kernel
theorem dL_thin_27 : decode cL_thin 27 = .ok (.irem, 1) := by decide +kernel
theorem dL_thin_28 : decode cL_thin 28 = .ok (.iadd, 1) := by decide +kernel
theorem dL_thin_29 : decode cL_thin 29 = .ok (.ireturn, 1) := by decide +kernel
theorem dL_right_0 : decode cL_right 0 = .ok (.iconst 1, 1) := by decide +kernel
theorem dL_right_1 : decode cL_right 1 = .ok (.aload_n 0, 1) := by decide +kernel
theorem dL_right_2 : decode cL_right 2 = .ok (.bipush 11, 2) := by decide +kernel
theorem dL_right_4 : decode cL_right 4 = .ok (.invokestatic 29, 3) := by decide +kernel
theorem dL_right_7 : decode cL_right 7 = .ok (.bipush 8, 2) := by decide +kernel
theorem dL_right_9 : decode cL_right 9 = .ok (.ishr, 1) := by decide +kernel
theorem dL_right_10 : decode cL_right 10 = .ok (.bipush 9, 2) := by decide +kernel
theorem dL_right_12 : decode cL_right 12 = .ok (.irem, 1) := by decide +kernel
theorem dL_right_13 : decode cL_right 13 = .ok (.iadd, 1) := by decide +kernel
theorem dL_right_14 : decode cL_right 14 = .ok (.ireturn, 1) := by decide +kernel
theorem dL_sound_0 : decode cL_sound 0 = .ok (.aload_n 0, 1) := by decide +kernel
theorem dL_sound_1 : decode cL_sound 1 = .ok (.bipush 11, 2) := by decide +kernel
theorem dL_sound_3 : decode cL_sound 3 = .ok (.invokestatic 29, 3) := by decide +kernel
theorem dL_sound_6 : decode cL_sound 6 = .ok (.bipush 12, 2) := by decide +kernel
theorem dL_sound_8 : decode cL_sound 8 = .ok (.ishr, 1) := by decide +kernel
theorem dL_sound_9 : decode cL_sound 9 = .ok (.bipush 100, 2) := by decide +kernel
theorem dL_sound_11 : decode cL_sound 11 = .ok (.irem, 1) := by decide +kernel
theorem dL_sound_12 : decode cL_sound 12 = .ok (.ireturn, 1) := by decide +kernel
theorem dL_prior_0 : decode cL_prior 0 = .ok (.aload_n 0, 1) := by decide +kernel
theorem dL_prior_1 : decode cL_prior 1 = .ok (.bipush 12, 2) := by decide +kernel
theorem dL_prior_3 : decode cL_prior 3 = .ok (.invokestatic 29, 3) := by decide +kernel
theorem dL_prior_6 : decode cL_prior 6 = .ok (.iconst 4, 1) := by decide +kernel
theorem dL_prior_7 : decode cL_prior 7 = .ok (.iload_n 1, 1) := by decide +kernel
theorem dL_prior_8 : decode cL_prior 8 = .ok (.imul, 1) := by decide +kernel
theorem dL_prior_9 : decode cL_prior 9 = .ok (.ishr, 1) := by decide +kernel
theorem dL_prior_10 : decode cL_prior 10 = .ok (.iload_n 1, 1) := by decide +kernel
theorem dL_prior_11 : decode cL_prior 11 = .ok (.bipush 6, 2) := by decide +kernel
theorem dL_prior_13 : decode cL_prior 13 = .ok (.if_icmp .ne 7, 3) := by decide +kernel
theorem dL_prior_16 : decode cL_prior 16 = .ok (.iconst 5, 1) := by decide +kernel
theorem dL_prior_17 : decode cL_prior 17 = .ok (.goto 5, 3) := by decide +kernel
theorem dL_prior_20 : decode cL_prior 20 = .ok (.bipush 10, 2) := by decide +kernel
theorem dL_prior_22 : decode cL_prior 22 = .ok (.irem, 1) := by decide +kernel
theorem dL_prior_23 : decode cL_prior 23 = .ok (.ireturn, 1) := by decide +kernel
theorem dL_looks_0 : decode cL_looks 0 = .ok (.aload_n 0, 1) := by decide +kernel
theorem dL_looks_1 : decode cL_looks 1 = .ok (.bipush 13, 2) := by decide +kernel
theorem dL_looks_3 : decode cL_looks 3 = .ok (.invokestatic 29, 3) := by decide +kernel
theorem dL_looks_6 : decode cL_looks 6 = .ok (.iconst 4, 1) := by decide +kernel
theorem dL_looks_7 : decode cL_looks 7 = .ok (.irem, 1) := by decide +kernel
theorem dL_looks_8 : decode cL_looks 8 = .ok (.ireturn, 1) := by decide +kernel
theorem dL_look_0 : decode cL_look 0 = .ok (.aload_n 0, 1) := by decide +kernel
theorem dL_look_1 : decode cL_look 1 = .ok (.bipush 14, 2) := by decide +kernel
theorem dL_look_3 : decode cL_look 3 = .ok (.iload_n 1, 1) := by decide +kernel
theorem dL_look_4 : decode cL_look 4 = .ok (.iadd, 1) := by decide +kernel
theorem dL_look_5 : decode cL_look 5 = .ok (.invokestatic 29, 3) := by decide +kernel
theorem dL_look_8 : decode cL_look 8 = .ok (.istore_n 3, 1) := by decide +kernel
theorem dL_look_9 : decode cL_look 9 = .ok (.iload_n 2, 1) := by decide +kernel
theorem dL_look_10 : decode cL_look 10 = .ok (.ifCond .ne 10, 3) := by decide +kernel
theorem dL_look_13 : decode cL_look 13 = .ok (.iload_n 3, 1) := by decide +kernel
theorem dL_look_14 : decode cL_look 14 = .ok (.bipush 70, 2) := by decide +kernel
theorem dL_look_16 : decode cL_look 16 = .ok (.irem, 1) := by decide +kernel
theorem dL_look_17 : decode cL_look 17 = .ok (.goto 53, 3) := by decide +kernel
theorem dL_look_20 : decode cL_look 20 = .ok (.iload_n 2, 1) := by decide +kernel
theorem dL_look_21 : decode cL_look 21 = .ok (.iconst 1, 1) := by decide +kernel
theorem dL_look_22 : decode cL_look 22 = .ok (.if_icmp .ne 12, 3) := by decide +kernel
theorem dL_look_25 : decode cL_look 25 = .ok (.iload_n 3, 1) := by decide +kernel
theorem dL_look_26 : decode cL_look 26 = .ok (.bipush 7, 2) := by decide +kernel
theorem dL_look_28 : decode cL_look 28 = .ok (.ishr, 1) := by decide +kernel
theorem dL_look_29 : decode cL_look 29 = .ok (.iconst 4, 1) := by decide +kernel
theorem dL_look_30 : decode cL_look 30 = .ok (.irem, 1) := by decide +kernel
theorem dL_look_31 : decode cL_look 31 = .ok (.goto 39, 3) := by decide +kernel
theorem dL_look_34 : decode cL_look 34 = .ok (.iload_n 2, 1) := by decide +kernel
theorem dL_look_35 : decode cL_look 35 = .ok (.iconst 2, 1) := by decide +kernel
theorem dL_look_36 : decode cL_look 36 = .ok (.if_icmp .ne 28, 3) := by decide +kernel
theorem dL_look_39 : decode cL_look 39 = .ok (.iload_n 3, 1) := by decide +kernel
theorem dL_look_40 : decode cL_look 40 = .ok (.bipush 9, 2) := by decide +kernel
theorem dL_look_42 : decode cL_look 42 = .ok (.ishr, 1) := by decide +kernel
theorem dL_look_43 : decode cL_look 43 = .ok (.bipush 9, 2) := by decide +kernel
theorem dL_look_45 : decode cL_look 45 = .ok (.irem, 1) := by decide +kernel
theorem dL_look_46 : decode cL_look 46 = .ok (.iconst 4, 1) := by decide +kernel
theorem dL_look_47 : decode cL_look 47 = .ok (.if_icmp .ge 13, 3) := by decide +kernel
theorem dL_look_50 : decode cL_look 50 = .ok (.iload_n 3, 1) := by decide +kernel
theorem dL_look_51 : decode cL_look 51 = .ok (.bipush 9, 2) := by decide +kernel
theorem dL_look_53 : decode cL_look 53 = .ok (.ishr, 1) := by decide +kernel
theorem dL_look_54 : decode cL_look 54 = .ok (.bipush 9, 2) := by decide +kernel
theorem dL_look_56 : decode cL_look 56 = .ok (.irem, 1) := by decide +kernel
theorem dL_look_57 : decode cL_look 57 = .ok (.goto 13, 3) := by decide +kernel
theorem dL_look_60 : decode cL_look 60 = .ok (.iconst (-1), 1) := by decide +kernel
theorem dL_look_61 : decode cL_look 61 = .ok (.goto 9, 3) := by decide +kernel
theorem dL_look_64 : decode cL_look 64 = .ok (.iload_n 3, 1) := by decide +kernel
theorem dL_look_65 : decode cL_look 65 = .ok (.bipush 13, 2) := by decide +kernel
theorem dL_look_67 : decode cL_look 67 = .ok (.ishr, 1) := by decide +kernel
theorem dL_look_68 : decode cL_look 68 = .ok (.iconst 3, 1) := by decide +kernel
theorem dL_look_69 : decode cL_look 69 = .ok (.irem, 1) := by decide +kernel
theorem dL_look_70 : decode cL_look 70 = .ok (.ireturn, 1) := by decide +kernel
theorem dL_looked_0 : decode cL_looked 0 = .ok (.aload_n 0, 1) := by decide +kernel
theorem dL_looked_1 : decode cL_looked 1 = .ok (.iconst 1, 1) := by decide +kernel
theorem dL_looked_2 : decode cL_looked 2 = .ok (.aload_n 1, 1) := by decide +kernel
theorem dL_looked_3 : decode cL_looked 3 = .ok (.invokestatic 71, 3) := by decide +kernel
theorem dL_looked_6 : decode cL_looked 6 = .ok (.invokevirtual 64, 3) := by decide +kernel
theorem dL_looked_9 : decode cL_looked 9 = .ok (.iconst 5, 1) := by decide +kernel
theorem dL_looked_10 : decode cL_looked 10 = .ok (.if_icmp .ne 35, 3) := by decide +kernel
theorem dL_looked_13 : decode cL_looked 13 = .ok (.aload_n 0, 1) := by decide +kernel
theorem dL_looked_14 : decode cL_looked 14 = .ok (.iconst 2, 1) := by decide +kernel
theorem dL_looked_15 : decode cL_looked 15 = .ok (.aload_n 1, 1) := by decide +kernel
theorem dL_looked_16 : decode cL_looked 16 = .ok (.invokestatic 74, 3) := by decide +kernel
theorem dL_looked_19 : decode cL_looked 19 = .ok (.invokevirtual 64, 3) := by decide +kernel
theorem dL_looked_22 : decode cL_looked 22 = .ok (.bipush 8, 2) := by decide +kernel
theorem dL_looked_24 : decode cL_looked 24 = .ok (.if_icmp .ne 21, 3) := by decide +kernel
theorem dL_looked_27 : decode cL_looked 27 = .ok (.aload_n 0, 1) := by decide +kernel
theorem dL_looked_28 : decode cL_looked 28 = .ok (.iconst 3, 1) := by decide +kernel
theorem dL_looked_29 : decode cL_looked 29 = .ok (.aload_n 1, 1) := by decide +kernel
theorem dL_looked_30 : decode cL_looked 30 = .ok (.invokestatic 77, 3) := by decide +kernel
theorem dL_looked_33 : decode cL_looked 33 = .ok (.invokevirtual 64, 3) := by decide +kernel
theorem dL_looked_36 : decode cL_looked 36 = .ok (.bipush 9, 2) := by decide +kernel
theorem dL_looked_38 : decode cL_looked 38 = .ok (.if_icmp .ne 7, 3) := by decide +kernel
theorem dL_looked_41 : decode cL_looked 41 = .ok (.iconst 1, 1) := by decide +kernel
theorem dL_looked_42 : decode cL_looked 42 = .ok (.goto 4, 3) := by decide +kernel
theorem dL_looked_45 : decode cL_looked 45 = .ok (.iconst 0, 1) := by decide +kernel
theorem dL_looked_46 : decode cL_looked 46 = .ok (.istore_n 2, 1) := by decide +kernel
theorem dL_looked_47 : decode cL_looked 47 = .ok (.iconst 0, 1) := by decide +kernel
theorem dL_looked_48 : decode cL_looked 48 = .ok (.istore_n 3, 1) := by decide +kernel
theorem dL_looked_49 : decode cL_looked 49 = .ok (.iload_n 3, 1) := by decide +kernel
theorem dL_looked_50 : decode cL_looked 50 = .ok (.bipush 7, 2) := by decide +kernel
theorem dL_looked_52 : decode cL_looked 52 = .ok (.if_icmp .ge 33, 3) := by decide +kernel
theorem dL_looked_55 : decode cL_looked 55 = .ok (.iload_n 2, 1) := by decide +kernel
theorem dL_looked_56 : decode cL_looked 56 = .ok (.ifCond .eq 21, 3) := by decide +kernel
theorem dL_looked_59 : decode cL_looked 59 = .ok (.aload_n 0, 1) := by decide +kernel
theorem dL_looked_60 : decode cL_looked 60 = .ok (.iload_n 3, 1) := by decide +kernel
theorem dL_looked_61 : decode cL_looked 61 = .ok (.aload_n 1, 1) := by decide +kernel
theorem dL_looked_62 : decode cL_looked 62 = .ok (.iload_n 3, 1) := by decide +kernel
theorem dL_looked_63 : decode cL_looked 63 = .ok (.invokestatic 80, 3) := by decide +kernel
theorem dL_looked_66 : decode cL_looked 66 = .ok (.invokevirtual 83, 3) := by decide +kernel
theorem dL_looked_69 : decode cL_looked 69 = .ok (.iconst 1, 1) := by decide +kernel
theorem dL_looked_70 : decode cL_looked 70 = .ok (.if_icmp .ne 7, 3) := by decide +kernel
theorem dL_looked_73 : decode cL_looked 73 = .ok (.iconst 1, 1) := by decide +kernel
theorem dL_looked_74 : decode cL_looked 74 = .ok (.goto 4, 3) := by decide +kernel
theorem dL_looked_77 : decode cL_looked 77 = .ok (.iconst 0, 1) := by decide +kernel
theorem dL_looked_78 : decode cL_looked 78 = .ok (.istore_n 2, 1) := by decide +kernel
theorem dL_looked_79 : decode cL_looked 79 = .ok (.iinc 3 1, 3) := by decide +kernel
theorem dL_looked_82 : decode cL_looked 82 = .ok (.goto (-33), 3) := by decide +kernel
theorem dL_looked_85 : decode cL_looked 85 = .ok (.iconst 0, 1) := by decide +kernel
theorem dL_looked_86 : decode cL_looked 86 = .ok (.istore_n 3, 1) := by decide +kernel
theorem dL_looked_87 : decode cL_looked 87 = .ok (.iload_n 3, 1) := by decide +kernel
theorem dL_looked_88 : decode cL_looked 88 = .ok (.aload_n 1, 1) := by decide +kernel
theorem dL_looked_89 : decode cL_looked 89 = .ok (.invokestatic 85, 3) := by decide +kernel
theorem dL_looked_92 : decode cL_looked 92 = .ok (.if_icmp .ge 51, 3) := by decide +kernel
theorem dL_looked_95 : decode cL_looked 95 = .ok (.iload_n 2, 1) := by decide +kernel
theorem dL_looked_96 : decode cL_looked 96 = .ok (.ifCond .eq 39, 3) := by decide +kernel
theorem dL_looked_99 : decode cL_looked 99 = .ok (.aload_n 0, 1) := by decide +kernel
theorem dL_looked_100 : decode cL_looked 100 = .ok (.aload_n 1, 1) := by decide +kernel
theorem dL_looked_101 : decode cL_looked 101 = .ok (.iload_n 3, 1) := by decide +kernel
theorem dL_looked_102 : decode cL_looked 102 = .ok (.iconst 0, 1) := by decide +kernel
theorem dL_looked_103 : decode cL_looked 103 = .ok (.invokestatic 88, 3) := by decide +kernel
theorem dL_looked_106 : decode cL_looked 106 = .ok (.aload_n 1, 1) := by decide +kernel
theorem dL_looked_107 : decode cL_looked 107 = .ok (.iload_n 3, 1) := by decide +kernel
theorem dL_looked_108 : decode cL_looked 108 = .ok (.iconst 1, 1) := by decide +kernel
theorem dL_looked_109 : decode cL_looked 109 = .ok (.invokestatic 88, 3) := by decide +kernel
theorem dL_looked_112 : decode cL_looked 112 = .ok (.aload_n 1, 1) := by decide +kernel
theorem dL_looked_113 : decode cL_looked 113 = .ok (.iload_n 3, 1) := by decide +kernel
theorem dL_looked_114 : decode cL_looked 114 = .ok (.iconst 2, 1) := by decide +kernel
theorem dL_looked_115 : decode cL_looked 115 = .ok (.invokestatic 88, 3) := by decide +kernel
theorem dL_looked_118 : decode cL_looked 118 = .ok (.aload_n 1, 1) := by decide +kernel
theorem dL_looked_119 : decode cL_looked 119 = .ok (.iload_n 3, 1) := by decide +kernel
theorem dL_looked_120 : decode cL_looked 120 = .ok (.iconst 3, 1) := by decide +kernel
theorem dL_looked_121 : decode cL_looked 121 = .ok (.invokestatic 88, 3) := by decide +kernel
theorem dL_looked_124 : decode cL_looked 124 = .ok (.invokevirtual 91, 3) := by decide +kernel
theorem dL_looked_127 : decode cL_looked 127 = .ok (.iload_n 3, 1) := by decide +kernel
theorem dL_looked_128 : decode cL_looked 128 = .ok (.if_icmp .ne 7, 3) := by decide +kernel
theorem dL_looked_131 : decode cL_looked 131 = .ok (.iconst 1, 1) := by decide +kernel
theorem dL_looked_132 : decode cL_looked 132 = .ok (.goto 4, 3) := by decide +kernel
theorem dL_looked_135 : decode cL_looked 135 = .ok (.iconst 0, 1) := by decide +kernel
theorem dL_looked_136 : decode cL_looked 136 = .ok (.istore_n 2, 1) := by decide +kernel
theorem dL_looked_137 : decode cL_looked 137 = .ok (.iinc 3 1, 3) := by decide +kernel
theorem dL_looked_140 : decode cL_looked 140 = .ok (.goto (-53), 3) := by decide +kernel
theorem dL_looked_143 : decode cL_looked 143 = .ok (.iload_n 2, 1) := by decide +kernel
theorem dL_looked_144 : decode cL_looked 144 = .ok (.ireturn, 1) := by decide +kernel
theorem dL_divisor_0 : decode cL_divisor 0 = .ok (.lload_n 0, 1) := by decide +kernel
theorem dL_divisor_1 : decode cL_divisor 1 = .ok (.lstore 4, 2) := by decide +kernel
theorem dL_divisor_3 : decode cL_divisor 3 = .ok (.lload_n 2, 1) := by decide +kernel
theorem dL_divisor_4 : decode cL_divisor 4 = .ok (.lstore 6, 2) := by decide +kernel
theorem dL_divisor_6 : decode cL_divisor 6 = .ok (.lload 6, 2) := by decide +kernel
theorem dL_divisor_8 : decode cL_divisor 8 = .ok (.lconst 0, 1) := by decide +kernel
theorem dL_divisor_9 : decode cL_divisor 9 = .ok (.lcmp, 1) := by decide +kernel
theorem dL_divisor_10 : decode cL_divisor 10 = .ok (.ifCond .eq 21, 3) := by decide +kernel
theorem dL_divisor_13 : decode cL_divisor 13 = .ok (.lload 4, 2) := by decide +kernel
theorem dL_divisor_15 : decode cL_divisor 15 = .ok (.lload 6, 2) := by decide +kernel
theorem dL_divisor_17 : decode cL_divisor 17 = .ok (.lrem, 1) := by decide +kernel
theorem dL_divisor_18 : decode cL_divisor 18 = .ok (.lstore 8, 2) := by decide +kernel
theorem dL_divisor_20 : decode cL_divisor 20 = .ok (.lload 6, 2) := by decide +kernel
theorem dL_divisor_22 : decode cL_divisor 22 = .ok (.lstore 4, 2) := by decide +kernel
theorem dL_divisor_24 : decode cL_divisor 24 = .ok (.lload 8, 2) := by decide +kernel
theorem dL_divisor_26 : decode cL_divisor 26 = .ok (.lstore 6, 2) := by decide +kernel
theorem dL_divisor_28 : decode cL_divisor 28 = .ok (.goto (-22), 3) := by decide +kernel
theorem dL_divisor_31 : decode cL_divisor 31 = .ok (.lload 4, 2) := by decide +kernel
theorem dL_divisor_33 : decode cL_divisor 33 = .ok (.lreturn, 1) := by decide +kernel
theorem dL_is_0 : decode cL_is 0 = .ok (.lload_n 1, 1) := by decide +kernel
theorem dL_is_1 : decode cL_is 1 = .ok (.lload_n 3, 1) := by decide +kernel
theorem dL_is_2 : decode cL_is 2 = .ok (.invokestatic 100, 3) := by decide +kernel
theorem dL_is_5 : decode cL_is 5 = .ok (.lstore 5, 2) := by decide +kernel
theorem dL_is_7 : decode cL_is 7 = .ok (.aload_n 0, 1) := by decide +kernel
theorem dL_is_8 : decode cL_is 8 = .ok (.iconst 0, 1) := by decide +kernel
theorem dL_is_9 : decode cL_is 9 = .ok (.invokestatic 104, 3) := by decide +kernel
theorem dL_is_12 : decode cL_is 12 = .ok (.lload_n 1, 1) := by decide +kernel
theorem dL_is_13 : decode cL_is 13 = .ok (.lload 5, 2) := by decide +kernel
theorem dL_is_15 : decode cL_is 15 = .ok (.ldiv, 1) := by decide +kernel
theorem dL_is_16 : decode cL_is 16 = .ok (.lcmp, 1) := by decide +kernel
theorem dL_is_17 : decode cL_is 17 = .ok (.ifCond .ne 20, 3) := by decide +kernel
theorem dL_is_20 : decode cL_is 20 = .ok (.aload_n 0, 1) := by decide +kernel
theorem dL_is_21 : decode cL_is 21 = .ok (.iconst 1, 1) := by decide +kernel
theorem dL_is_22 : decode cL_is 22 = .ok (.invokestatic 104, 3) := by decide +kernel
theorem dL_is_25 : decode cL_is 25 = .ok (.lload_n 3, 1) := by decide +kernel
theorem dL_is_26 : decode cL_is 26 = .ok (.lload 5, 2) := by decide +kernel
theorem dL_is_28 : decode cL_is 28 = .ok (.ldiv, 1) := by decide +kernel
theorem dL_is_29 : decode cL_is 29 = .ok (.lcmp, 1) := by decide +kernel
theorem dL_is_30 : decode cL_is 30 = .ok (.ifCond .ne 7, 3) := by decide +kernel
theorem dL_is_33 : decode cL_is 33 = .ok (.iconst 1, 1) := by decide +kernel
theorem dL_is_34 : decode cL_is 34 = .ok (.goto 4, 3) := by decide +kernel
theorem dL_is_37 : decode cL_is 37 = .ok (.iconst 0, 1) := by decide +kernel
theorem dL_is_38 : decode cL_is 38 = .ok (.ireturn, 1) := by decide +kernel
theorem dL_value_0 : decode cL_value 0 = .ok (.lconst 0, 1) := by decide +kernel
theorem dL_value_1 : decode cL_value 1 = .ok (.lstore_n 2, 1) := by decide +kernel
theorem dL_value_2 : decode cL_value 2 = .ok (.aload_n 0, 1) := by decide +kernel
theorem dL_value_3 : decode cL_value 3 = .ok (.iconst 1, 1) := by decide +kernel
theorem dL_value_4 : decode cL_value 4 = .ok (.iload_n 1, 1) := by decide +kernel
theorem dL_value_5 : decode cL_value 5 = .ok (.iadd, 1) := by decide +kernel
theorem dL_value_6 : decode cL_value 6 = .ok (.invokevirtual 9, 3) := by decide +kernel
theorem dL_value_9 : decode cL_value 9 = .ok (.iconst 1, 1) := by decide +kernel
theorem dL_value_10 : decode cL_value 10 = .ok (.isub, 1) := by decide +kernel
theorem dL_value_11 : decode cL_value 11 = .ok (.istore 4, 2) := by decide +kernel
theorem dL_value_13 : decode cL_value 13 = .ok (.iload 4, 2) := by decide +kernel
theorem dL_value_15 : decode cL_value 15 = .ok (.ifCond .lt 23, 3) := by decide +kernel
theorem dL_value_18 : decode cL_value 18 = .ok (.lload_n 2, 1) := by decide +kernel
theorem dL_value_19 : decode cL_value 19 = .ok (.bipush 30, 2) := by decide +kernel
theorem dL_value_21 : decode cL_value 21 = .ok (.lshl, 1) := by decide +kernel
theorem dL_value_22 : decode cL_value 22 = .ok (.aload_n 0, 1) := by decide +kernel
theorem dL_value_23 : decode cL_value 23 = .ok (.iload_n 1, 1) := by decide +kernel
theorem dL_value_24 : decode cL_value 24 = .ok (.iload 4, 2) := by decide +kernel
theorem dL_value_26 : decode cL_value 26 = .ok (.invokevirtual 17, 3) := by decide +kernel
theorem dL_value_29 : decode cL_value 29 = .ok (.i2l, 1) := by decide +kernel
theorem dL_value_30 : decode cL_value 30 = .ok (.ladd, 1) := by decide +kernel
theorem dL_value_31 : decode cL_value 31 = .ok (.lstore_n 2, 1) := by decide +kernel
theorem dL_value_32 : decode cL_value 32 = .ok (.iinc 4 (-1), 3) := by decide +kernel
theorem dL_value_35 : decode cL_value 35 = .ok (.goto (-22), 3) := by decide +kernel
theorem dL_value_38 : decode cL_value 38 = .ok (.lload_n 2, 1) := by decide +kernel
theorem dL_value_39 : decode cL_value 39 = .ok (.lreturn, 1) := by decide +kernel
theorem dL_law_0 : decode cL_law 0 = .ok (.new 10, 3) := by decide +kernel
theorem dL_law_3 : decode cL_law 3 = .ok (.dup, 1) := by decide +kernel
theorem dL_law_4 : decode cL_law 4 = .ok (.invokespecial 108, 3) := by decide +kernel
theorem dL_law_7 : decode cL_law 7 = .ok (.astore_n 1, 1) := by decide +kernel
theorem dL_law_8 : decode cL_law 8 = .ok (.ldc2_w 109, 3) := by decide +kernel
theorem dL_law_11 : decode cL_law 11 = .ok (.lstore_n 2, 1) := by decide +kernel
theorem dL_law_12 : decode cL_law 12 = .ok (.aload_n 1, 1) := by decide +kernel
theorem dL_law_13 : decode cL_law 13 = .ok (.aload_n 0, 1) := by decide +kernel
theorem dL_law_14 : decode cL_law 14 = .ok (.invokestatic 111, 3) := by decide +kernel
theorem dL_law_17 : decode cL_law 17 = .ok (.ifCond .eq 15, 3) := by decide +kernel
theorem dL_law_20 : decode cL_law 20 = .ok (.aload_n 1, 1) := by decide +kernel
theorem dL_law_21 : decode cL_law 21 = .ok (.aload_n 0, 1) := by decide +kernel
theorem dL_law_22 : decode cL_law 22 = .ok (.invokestatic 115, 3) := by decide +kernel
theorem dL_law_25 : decode cL_law 25 = .ok (.ifCond .eq 7, 3) := by decide +kernel
theorem dL_law_28 : decode cL_law 28 = .ok (.iconst 1, 1) := by decide +kernel
theorem dL_law_29 : decode cL_law 29 = .ok (.goto 4, 3) := by decide +kernel
theorem dL_law_32 : decode cL_law 32 = .ok (.iconst 0, 1) := by decide +kernel
theorem dL_law_33 : decode cL_law 33 = .ok (.istore 4, 2) := by decide +kernel
theorem dL_law_35 : decode cL_law 35 = .ok (.aload_n 1, 1) := by decide +kernel
theorem dL_law_36 : decode cL_law 36 = .ok (.aload_n 0, 1) := by decide +kernel
theorem dL_law_37 : decode cL_law 37 = .ok (.iconst 0, 1) := by decide +kernel
theorem dL_law_38 : decode cL_law 38 = .ok (.invokestatic 56, 3) := by decide +kernel
theorem dL_law_41 : decode cL_law 41 = .ok (.astore 5, 2) := by decide +kernel
theorem dL_law_43 : decode cL_law 43 = .ok (.aload_n 1, 1) := by decide +kernel
theorem dL_law_44 : decode cL_law 44 = .ok (.invokevirtual 118, 3) := by decide +kernel
theorem dL_law_47 : decode cL_law 47 = .ok (.istore 6, 2) := by decide +kernel
theorem dL_law_49 : decode cL_law 49 = .ok (.iload 4, 2) := by decide +kernel
theorem dL_law_51 : decode cL_law 51 = .ok (.ifCond .eq 29, 3) := by decide +kernel
theorem dL_law_54 : decode cL_law 54 = .ok (.iload 6, 2) := by decide +kernel
theorem dL_law_56 : decode cL_law 56 = .ok (.aload 5, 2) := by decide +kernel
theorem dL_law_58 : decode cL_law 58 = .ok (.bipush 63, 2) := by decide +kernel
theorem dL_law_60 : decode cL_law 60 = .ok (.iaload, 1) := by decide +kernel
theorem dL_law_61 : decode cL_law 61 = .ok (.if_icmp .ne 19, 3) := by decide +kernel
theorem dL_law_64 : decode cL_law 64 = .ok (.aload_n 1, 1) := by decide +kernel
theorem dL_law_65 : decode cL_law 65 = .ok (.iconst 0, 1) := by decide +kernel
theorem dL_law_66 : decode cL_law 66 = .ok (.invokevirtual 121, 3) := by decide +kernel
theorem dL_law_69 : decode cL_law 69 = .ok (.aload_n 0, 1) := by decide +kernel
theorem dL_law_70 : decode cL_law 70 = .ok (.invokestatic 60, 3) := by decide +kernel
theorem dL_law_73 : decode cL_law 73 = .ok (.if_icmp .ne 7, 3) := by decide +kernel
theorem dL_law_76 : decode cL_law 76 = .ok (.iconst 1, 1) := by decide +kernel
theorem dL_law_77 : decode cL_law 77 = .ok (.goto 4, 3) := by decide +kernel
theorem dL_law_80 : decode cL_law 80 = .ok (.iconst 0, 1) := by decide +kernel
theorem dL_law_81 : decode cL_law 81 = .ok (.istore 4, 2) := by decide +kernel
theorem dL_law_83 : decode cL_law 83 = .ok (.iconst 0, 1) := by decide +kernel
theorem dL_law_84 : decode cL_law 84 = .ok (.istore 7, 2) := by decide +kernel
theorem dL_law_86 : decode cL_law 86 = .ok (.iconst 0, 1) := by decide +kernel
theorem dL_law_87 : decode cL_law 87 = .ok (.istore 8, 2) := by decide +kernel
theorem dL_law_89 : decode cL_law 89 = .ok (.iconst 0, 1) := by decide +kernel
theorem dL_law_90 : decode cL_law 90 = .ok (.istore 9, 2) := by decide +kernel
theorem dL_law_92 : decode cL_law 92 = .ok (.iload 9, 2) := by decide +kernel
theorem dL_law_94 : decode cL_law 94 = .ok (.iload 6, 2) := by decide +kernel
theorem dL_law_96 : decode cL_law 96 = .ok (.if_icmp .ge 285, 3) := by decide +kernel
theorem dL_law_99 : decode cL_law 99 = .ok (.aload_n 1, 1) := by decide +kernel
theorem dL_law_100 : decode cL_law 100 = .ok (.iload 9, 2) := by decide +kernel
theorem dL_law_102 : decode cL_law 102 = .ok (.invokevirtual 121, 3) := by decide +kernel
theorem dL_law_105 : decode cL_law 105 = .ok (.istore 10, 2) := by decide +kernel
theorem dL_law_107 : decode cL_law 107 = .ok (.aload_n 1, 1) := by decide +kernel
theorem dL_law_108 : decode cL_law 108 = .ok (.iload 9, 2) := by decide +kernel
theorem dL_law_110 : decode cL_law 110 = .ok (.iconst 1, 1) := by decide +kernel
theorem dL_law_111 : decode cL_law 111 = .ok (.iadd, 1) := by decide +kernel
theorem dL_law_112 : decode cL_law 112 = .ok (.invokevirtual 121, 3) := by decide +kernel
theorem dL_law_115 : decode cL_law 115 = .ok (.istore 11, 2) := by decide +kernel
theorem dL_law_117 : decode cL_law 117 = .ok (.iload 4, 2) := by decide +kernel
theorem dL_law_119 : decode cL_law 119 = .ok (.ifCond .eq 53, 3) := by decide +kernel
theorem dL_law_122 : decode cL_law 122 = .ok (.iload 10, 2) := by decide +kernel
theorem dL_law_124 : decode cL_law 124 = .ok (.ifCond .lt 48, 3) := by decide +kernel
theorem dL_law_127 : decode cL_law 127 = .ok (.iload 10, 2) := by decide +kernel
theorem dL_law_129 : decode cL_law 129 = .ok (.bipush 100, 2) := by decide +kernel
theorem dL_law_131 : decode cL_law 131 = .ok (.if_icmp .gt 41, 3) := by decide +kernel
theorem dL_law_134 : decode cL_law 134 = .ok (.aload 5, 2) := by decide +kernel
theorem dL_law_136 : decode cL_law 136 = .ok (.iload 9, 2) := by decide +kernel
theorem dL_law_138 : decode cL_law 138 = .ok (.iaload, 1) := by decide +kernel
theorem dL_law_139 : decode cL_law 139 = .ok (.ifCond .ne 22, 3) := by decide +kernel
theorem dL_law_142 : decode cL_law 142 = .ok (.iload 11, 2) := by decide +kernel
theorem dL_law_144 : decode cL_law 144 = .ok (.iload 10, 2) := by decide +kernel
theorem dL_law_146 : decode cL_law 146 = .ok (.if_icmp .eq 22, 3) := by decide +kernel
theorem dL_law_149 : decode cL_law 149 = .ok (.iload 11, 2) := by decide +kernel
theorem dL_law_151 : decode cL_law 151 = .ok (.iload 10, 2) := by decide +kernel
theorem dL_law_153 : decode cL_law 153 = .ok (.iconst 1, 1) := by decide +kernel
theorem dL_law_154 : decode cL_law 154 = .ok (.isub, 1) := by decide +kernel
theorem dL_law_155 : decode cL_law 155 = .ok (.if_icmp .ne 17, 3) := by decide +kernel
theorem dL_law_158 : decode cL_law 158 = .ok (.goto 10, 3) := by decide +kernel
theorem dL_law_161 : decode cL_law 161 = .ok (.iload 11, 2) := by decide +kernel
theorem dL_law_163 : decode cL_law 163 = .ok (.iload 10, 2) := by decide +kernel
theorem dL_law_165 : decode cL_law 165 = .ok (.if_icmp .lt 7, 3) := by decide +kernel
theorem dL_law_168 : decode cL_law 168 = .ok (.iconst 1, 1) := by decide +kernel
theorem dL_law_169 : decode cL_law 169 = .ok (.goto 4, 3) := by decide +kernel
theorem dL_law_172 : decode cL_law 172 = .ok (.iconst 0, 1) := by decide +kernel
theorem dL_law_173 : decode cL_law 173 = .ok (.istore 4, 2) := by decide +kernel
theorem dL_law_175 : decode cL_law 175 = .ok (.iconst 0, 1) := by decide +kernel
theorem dL_law_176 : decode cL_law 176 = .ok (.istore 12, 2) := by decide +kernel
theorem dL_law_178 : decode cL_law 178 = .ok (.iload 12, 2) := by decide +kernel
theorem dL_law_180 : decode cL_law 180 = .ok (.bipush 7, 2) := by decide +kernel
theorem dL_law_182 : decode cL_law 182 = .ok (.if_icmp .ge 129, 3) := by decide +kernel
theorem dL_law_185 : decode cL_law 185 = .ok (.iconst 0, 1) := by decide +kernel
theorem dL_law_186 : decode cL_law 186 = .ok (.istore 13, 2) := by decide +kernel
theorem dL_law_188 : decode cL_law 188 = .ok (.iload 13, 2) := by decide +kernel
