theorem dX0_init_0 : decode cX0_init 0 = .ok (.aload_n 0, 1) := by decide +kernel
theorem dX0_init_1 : decode cX0_init 1 = .ok (.invokespecial 3, 3) := by decide +kernel
theorem dX0_init_4 : decode cX0_init 4 = .ok (.aload_n 0, 1) := by decide +kernel
theorem dX0_init_5 : decode cX0_init 5 = .ok (.iconst (-1), 1) := by decide +kernel
theorem dX0_init_6 : decode cX0_init 6 = .ok (.putfield 9, 3) := by decide +kernel
theorem dX0_init_9 : decode cX0_init 9 = .ok (.aload_n 0, 1) := by decide +kernel
theorem dX0_init_10 : decode cX0_init 10 = .ok (.bipush 121, 2) := by decide +kernel
theorem dX0_init_12 : decode cX0_init 12 = .ok (.newarray .int, 2) := by decide +kernel
theorem dX0_init_14 : decode cX0_init 14 = .ok (.putfield 15, 3) := by decide +kernel
theorem dX0_init_17 : decode cX0_init 17 = .ok (.aload_n 0, 1) := by decide +kernel
theorem dX0_init_18 : decode cX0_init 18 = .ok (.bipush 120, 2) := by decide +kernel
theorem dX0_init_20 : decode cX0_init 20 = .ok (.newarray .int, 2) := by decide +kernel
theorem dX0_init_22 : decode cX0_init 22 = .ok (.putfield 19, 3) := by decide +kernel
theorem dX0_init_25 : decode cX0_init 25 = .ok (.aload_n 0, 1) := by decide +kernel
theorem dX0_init_26 : decode cX0_init 26 = .ok (.bipush 120, 2) := by decide +kernel
theorem dX0_init_28 : decode cX0_init 28 = .ok (.newarray .int, 2) := by decide +kernel
theorem dX0_init_30 : decode cX0_init 30 = .ok (.putfield 22, 3) := by decide +kernel
theorem dX0_init_33 : decode cX0_init 33 = .ok (.aload_n 0, 1) := by decide +kernel
theorem dX0_init_34 : decode cX0_init 34 = .ok (.sipush 360, 3) := by decide +kernel
theorem dX0_init_37 : decode cX0_init 37 = .ok (.newarray .int, 2) := by decide +kernel
theorem dX0_init_39 : decode cX0_init 39 = .ok (.putfield 25, 3) := by decide +kernel
theorem dX0_init_42 : decode cX0_init 42 = .ok (.return_, 1) := by decide +kernel
theorem dX0_read_0 : decode cX0_read 0 = .ok (.aload_n 0, 1) := by decide +kernel
theorem dX0_read_1 : decode cX0_read 1 = .ok (.iconst (-1), 1) := by decide +kernel
theorem dX0_read_2 : decode cX0_read 2 = .ok (.putfield 9, 3) := by decide +kernel
theorem dX0_read_5 : decode cX0_read 5 = .ok (.aload_n 0, 1) := by decide +kernel
theorem dX0_read_6 : decode cX0_read 6 = .ok (.iconst 0, 1) := by decide +kernel
theorem dX0_read_7 : decode cX0_read 7 = .ok (.putfield 28, 3) := by decide +kernel
theorem dX0_read_10 : decode cX0_read 10 = .ok (.aload_n 0, 1) := by decide +kernel
theorem dX0_read_11 : decode cX0_read 11 = .ok (.iconst 0, 1) := by decide +kernel
theorem dX0_read_12 : decode cX0_read 12 = .ok (.putfield 31, 3) := by decide +kernel
theorem dX0_read_15 : decode cX0_read 15 = .ok (.iconst 0, 1) := by decide +kernel
theorem dX0_read_16 : decode cX0_read 16 = .ok (.istore_n 3, 1) := by decide +kernel
theorem dX0_read_17 : decode cX0_read 17 = .ok (.iload_n 3, 1) := by decide +kernel
theorem dX0_read_18 : decode cX0_read 18 = .ok (.iload_n 2, 1) := by decide +kernel
theorem dX0_read_19 : decode cX0_read 19 = .ok (.if_icmp .ge 45, 3) := by decide +kernel
theorem dX0_read_22 : decode cX0_read 22 = .ok (.aload_n 0, 1) := by decide +kernel
theorem dX0_read_23 : decode cX0_read 23 = .ok (.getfield 9, 3) := by decide +kernel
theorem dX0_read_26 : decode cX0_read 26 = .ok (.iconst (-1), 1) := by decide +kernel
theorem dX0_read_27 : decode cX0_read 27 = .ok (.if_icmp .ne 37, 3) := by decide +kernel
theorem dX0_read_30 : decode cX0_read 30 = .ok (.aload_n 1, 1) := by decide +kernel
theorem dX0_read_31 : decode cX0_read 31 = .ok (.iload_n 3, 1) := by decide +kernel
theorem dX0_read_32 : decode cX0_read 32 = .ok (.invokestatic 34, 3) := by decide +kernel
theorem dX0_read_35 : decode cX0_read 35 = .ok (.ifCond .eq 23, 3) := by decide +kernel
theorem dX0_read_38 : decode cX0_read 38 = .ok (.aload_n 0, 1) := by decide +kernel
theorem dX0_read_39 : decode cX0_read 39 = .ok (.aload_n 1, 1) := by decide +kernel
theorem dX0_read_40 : decode cX0_read 40 = .ok (.iload_n 3, 1) := by decide +kernel
theorem dX0_read_41 : decode cX0_read 41 = .ok (.aload_n 1, 1) := by decide +kernel
theorem dX0_read_42 : decode cX0_read 42 = .ok (.iload_n 3, 1) := by decide +kernel
theorem dX0_read_43 : decode cX0_read 43 = .ok (.iload_n 2, 1) := by decide +kernel
theorem dX0_read_44 : decode cX0_read 44 = .ok (.invokestatic 38, 3) := by decide +kernel
theorem dX0_read_47 : decode cX0_read 47 = .ok (.invokevirtual 42, 3) := by decide +kernel
theorem dX0_read_50 : decode cX0_read 50 = .ok (.ifCond .ne 8, 3) := by decide +kernel
theorem dX0_read_53 : decode cX0_read 53 = .ok (.aload_n 0, 1) := by decide +kernel
theorem dX0_read_54 : decode cX0_read 54 = .ok (.iload_n 3, 1) := by decide +kernel
theorem dX0_read_55 : decode cX0_read 55 = .ok (.putfield 9, 3) := by decide +kernel
theorem dX0_read_58 : decode cX0_read 58 = .ok (.iinc 3 1, 3) := by decide +kernel
theorem dX0_read_61 : decode cX0_read 61 = .ok (.goto (-44), 3) := by decide +kernel
theorem dX0_read_64 : decode cX0_read 64 = .ok (.aload_n 0, 1) := by decide +kernel
theorem dX0_read_65 : decode cX0_read 65 = .ok (.getfield 9, 3) := by decide +kernel
theorem dX0_read_68 : decode cX0_read 68 = .ok (.iconst (-1), 1) := by decide +kernel
theorem dX0_read_69 : decode cX0_read 69 = .ok (.if_icmp .ne 15, 3) := by decide +kernel
theorem dX0_read_72 : decode cX0_read 72 = .ok (.aload_n 0, 1) := by decide +kernel
theorem dX0_read_73 : decode cX0_read 73 = .ok (.getfield 31, 3) := by decide +kernel
theorem dX0_read_76 : decode cX0_read 76 = .ok (.ifCond .eq 8, 3) := by decide +kernel
theorem dX0_read_79 : decode cX0_read 79 = .ok (.aload_n 0, 1) := by decide +kernel
theorem dX0_read_80 : decode cX0_read 80 = .ok (.iload_n 2, 1) := by decide +kernel
theorem dX0_read_81 : decode cX0_read 81 = .ok (.putfield 9, 3) := by decide +kernel
theorem dX0_read_84 : decode cX0_read 84 = .ok (.iconst 1, 1) := by decide +kernel
theorem dX0_read_85 : decode cX0_read 85 = .ok (.istore_n 3, 1) := by decide +kernel
theorem dX0_read_86 : decode cX0_read 86 = .ok (.iload_n 3, 1) := by decide +kernel
theorem dX0_read_87 : decode cX0_read 87 = .ok (.iconst 3, 1) := by decide +kernel
theorem dX0_read_88 : decode cX0_read 88 = .ok (.if_icmp .gt 14, 3) := by decide +kernel
theorem dX0_read_91 : decode cX0_read 91 = .ok (.aload_n 0, 1) := by decide +kernel
theorem dX0_read_92 : decode cX0_read 92 = .ok (.iload_n 3, 1) := by decide +kernel
theorem dX0_read_93 : decode cX0_read 93 = .ok (.invokevirtual 46, 3) := by decide +kernel
theorem dX0_read_96 : decode cX0_read 96 = .ok (.iinc 3 1, 3) := by decide +kernel
theorem dX0_read_99 : decode cX0_read 99 = .ok (.goto (-13), 3) := by decide +kernel
theorem dX0_read_102 : decode cX0_read 102 = .ok (.return_, 1) := by decide +kernel
theorem dX0_sortOf_0 : decode cX0_sortOf 0 = .ok (.iload_n 0, 1) := by decide +kernel
theorem dX0_sortOf_1 : decode cX0_sortOf 1 = .ok (.bipush 32, 2) := by decide +kernel
theorem dX0_sortOf_3 : decode cX0_sortOf 3 = .ok (.if_icmp .ne 5, 3) := by decide +kernel
theorem dX0_sortOf_6 : decode cX0_sortOf 6 = .ok (.iconst 0, 1) := by decide +kernel
theorem dX0_sortOf_7 : decode cX0_sortOf 7 = .ok (.ireturn, 1) := by decide +kernel
theorem dX0_sortOf_8 : decode cX0_sortOf 8 = .ok (.iload_n 0, 1) := by decide +kernel
theorem dX0_sortOf_9 : decode cX0_sortOf 9 = .ok (.bipush 97, 2) := by decide +kernel
theorem dX0_sortOf_11 : decode cX0_sortOf 11 = .ok (.if_icmp .lt 11, 3) := by decide +kernel
theorem dX0_sortOf_14 : decode cX0_sortOf 14 = .ok (.iload_n 0, 1) := by decide +kernel
theorem dX0_sortOf_15 : decode cX0_sortOf 15 = .ok (.bipush 122, 2) := by decide +kernel
theorem dX0_sortOf_17 : decode cX0_sortOf 17 = .ok (.if_icmp .gt 5, 3) := by decide +kernel
theorem dX0_sortOf_20 : decode cX0_sortOf 20 = .ok (.iconst 1, 1) := by decide +kernel
theorem dX0_sortOf_21 : decode cX0_sortOf 21 = .ok (.ireturn, 1) := by decide +kernel
theorem dX0_sortOf_22 : decode cX0_sortOf 22 = .ok (.iload_n 0, 1) := by decide +kernel
theorem dX0_sortOf_23 : decode cX0_sortOf 23 = .ok (.bipush 48, 2) := by decide +kernel
theorem dX0_sortOf_25 : decode cX0_sortOf 25 = .ok (.if_icmp .lt 13, 3) := by decide +kernel
theorem dX0_sortOf_28 : decode cX0_sortOf 28 = .ok (.iload_n 0, 1) := by decide +kernel
theorem dX0_sortOf_29 : decode cX0_sortOf 29 = .ok (.bipush 57, 2) := by decide +kernel
theorem dX0_sortOf_31 : decode cX0_sortOf 31 = .ok (.if_icmp .gt 7, 3) := by decide +kernel
theorem dX0_sortOf_34 : decode cX0_sortOf 34 = .ok (.iconst 2, 1) := by decide +kernel
theorem dX0_sortOf_35 : decode cX0_sortOf 35 = .ok (.goto 4, 3) := by decide +kernel
theorem dX0_sortOf_38 : decode cX0_sortOf 38 = .ok (.iconst 3, 1) := by decide +kernel
theorem dX0_sortOf_39 : decode cX0_sortOf 39 = .ok (.ireturn, 1) := by decide +kernel
theorem dX0_beginsToken_0 : decode cX0_beginsToken 0 = .ok (.aload_n 0, 1) := by decide +kernel
theorem dX0_beginsToken_1 : decode cX0_beginsToken 1 = .ok (.iload_n 1, 1) := by decide +kernel
theorem dX0_beginsToken_2 : decode cX0_beginsToken 2 = .ok (.invokestatic 50, 3) := by decide +kernel
theorem dX0_beginsToken_5 : decode cX0_beginsToken 5 = .ok (.invokestatic 54, 3) := by decide +kernel
theorem dX0_beginsToken_8 : decode cX0_beginsToken 8 = .ok (.istore_n 2, 1) := by decide +kernel
theorem dX0_beginsToken_9 : decode cX0_beginsToken 9 = .ok (.iload_n 2, 1) := by decide +kernel
theorem dX0_beginsToken_10 : decode cX0_beginsToken 10 = .ok (.ifCond .ne 5, 3) := by decide +kernel
theorem dX0_beginsToken_13 : decode cX0_beginsToken 13 = .ok (.iconst 0, 1) := by decide +kernel
theorem dX0_beginsToken_14 : decode cX0_beginsToken 14 = .ok (.ireturn, 1) := by decide +kernel
theorem dX0_beginsToken_15 : decode cX0_beginsToken 15 = .ok (.iload_n 2, 1) := by decide +kernel
theorem dX0_beginsToken_16 : decode cX0_beginsToken 16 = .ok (.iconst 3, 1) := by decide +kernel
theorem dX0_beginsToken_17 : decode cX0_beginsToken 17 = .ok (.if_icmp .eq 21, 3) := by decide +kernel
theorem dX0_beginsToken_20 : decode cX0_beginsToken 20 = .ok (.iload_n 1, 1) := by decide +kernel
theorem dX0_beginsToken_21 : decode cX0_beginsToken 21 = .ok (.ifCond .eq 17, 3) := by decide +kernel
theorem dX0_beginsToken_24 : decode cX0_beginsToken 24 = .ok (.aload_n 0, 1) := by decide +kernel
theorem dX0_beginsToken_25 : decode cX0_beginsToken 25 = .ok (.iload_n 1, 1) := by decide +kernel
theorem dX0_beginsToken_26 : decode cX0_beginsToken 26 = .ok (.iconst 1, 1) := by decide +kernel
theorem dX0_beginsToken_27 : decode cX0_beginsToken 27 = .ok (.isub, 1) := by decide +kernel
theorem dX0_beginsToken_28 : decode cX0_beginsToken 28 = .ok (.invokestatic 50, 3) := by decide +kernel
theorem dX0_beginsToken_31 : decode cX0_beginsToken 31 = .ok (.invokestatic 54, 3) := by decide +kernel
theorem dX0_beginsToken_34 : decode cX0_beginsToken 34 = .ok (.iload_n 2, 1) := by decide +kernel
theorem dX0_beginsToken_35 : decode cX0_beginsToken 35 = .ok (.if_icmp .eq 7, 3) := by decide +kernel
theorem dX0_beginsToken_38 : decode cX0_beginsToken 38 = .ok (.iconst 1, 1) := by decide +kernel
theorem dX0_beginsToken_39 : decode cX0_beginsToken 39 = .ok (.goto 4, 3) := by decide +kernel
theorem dX0_beginsToken_42 : decode cX0_beginsToken 42 = .ok (.iconst 0, 1) := by decide +kernel
theorem dX0_beginsToken_43 : decode cX0_beginsToken 43 = .ok (.ireturn, 1) := by decide +kernel
theorem dX0_tokenEnd_0 : decode cX0_tokenEnd 0 = .ok (.aload_n 0, 1) := by decide +kernel
theorem dX0_tokenEnd_1 : decode cX0_tokenEnd 1 = .ok (.iload_n 1, 1) := by decide +kernel
theorem dX0_tokenEnd_2 : decode cX0_tokenEnd 2 = .ok (.invokestatic 50, 3) := by decide +kernel
theorem dX0_tokenEnd_5 : decode cX0_tokenEnd 5 = .ok (.invokestatic 54, 3) := by decide +kernel
theorem dX0_tokenEnd_8 : decode cX0_tokenEnd 8 = .ok (.istore_n 3, 1) := by decide +kernel
theorem dX0_tokenEnd_9 : decode cX0_tokenEnd 9 = .ok (.iload_n 1, 1) := by decide +kernel
theorem dX0_tokenEnd_10 : decode cX0_tokenEnd 10 = .ok (.iconst 1, 1) := by decide +kernel
theorem dX0_tokenEnd_11 : decode cX0_tokenEnd 11 = .ok (.iadd, 1) := by decide +kernel
theorem dX0_tokenEnd_12 : decode cX0_tokenEnd 12 = .ok (.istore 4, 2) := by decide +kernel
theorem dX0_tokenEnd_14 : decode cX0_tokenEnd 14 = .ok (.iload_n 3, 1) := by decide +kernel
theorem dX0_tokenEnd_15 : decode cX0_tokenEnd 15 = .ok (.iconst 3, 1) := by decide +kernel
theorem dX0_tokenEnd_16 : decode cX0_tokenEnd 16 = .ok (.if_icmp .eq 28, 3) := by decide +kernel
theorem dX0_tokenEnd_19 : decode cX0_tokenEnd 19 = .ok (.iload 4, 2) := by decide +kernel
theorem dX0_tokenEnd_21 : decode cX0_tokenEnd 21 = .ok (.iload_n 2, 1) := by decide +kernel
theorem dX0_tokenEnd_22 : decode cX0_tokenEnd 22 = .ok (.if_icmp .ge 22, 3) := by decide +kernel
theorem dX0_tokenEnd_25 : decode cX0_tokenEnd 25 = .ok (.aload_n 0, 1) := by decide +kernel
theorem dX0_tokenEnd_26 : decode cX0_tokenEnd 26 = .ok (.iload 4, 2) := by decide +kernel
theorem dX0_tokenEnd_28 : decode cX0_tokenEnd 28 = .ok (.invokestatic 50, 3) := by decide +kernel
theorem dX0_tokenEnd_31 : decode cX0_tokenEnd 31 = .ok (.invokestatic 54, 3) := by decide +kernel
theorem dX0_tokenEnd_34 : decode cX0_tokenEnd 34 = .ok (.iload_n 3, 1) := by decide +kernel
theorem dX0_tokenEnd_35 : decode cX0_tokenEnd 35 = .ok (.if_icmp .ne 9, 3) := by decide +kernel
theorem dX0_tokenEnd_38 : decode cX0_tokenEnd 38 = .ok (.iinc 4 1, 3) := by decide +kernel
theorem dX0_tokenEnd_41 : decode cX0_tokenEnd 41 = .ok (.goto (-27), 3) := by decide +kernel
theorem dX0_tokenEnd_44 : decode cX0_tokenEnd 44 = .ok (.iload 4, 2) := by decide +kernel
theorem dX0_tokenEnd_46 : decode cX0_tokenEnd 46 = .ok (.ireturn, 1) := by decide +kernel
theorem dX0_takesToken_0 : decode cX0_takesToken 0 = .ok (.aload_n 0, 1) := by decide +kernel
theorem dX0_takesToken_1 : decode cX0_takesToken 1 = .ok (.getfield 31, 3) := by decide +kernel
theorem dX0_takesToken_4 : decode cX0_takesToken 4 = .ok (.tableswitch 128 0 2 #[28, 74, 112], 28) := by decide +kernel
theorem dX0_takesToken_32 : decode cX0_takesToken 32 = .ok (.aload_n 0, 1) := by decide +kernel
theorem dX0_takesToken_33 : decode cX0_takesToken 33 = .ok (.aload_n 1, 1) := by decide +kernel
theorem dX0_takesToken_34 : decode cX0_takesToken 34 = .ok (.iload_n 2, 1) := by decide +kernel
theorem dX0_takesToken_35 : decode cX0_takesToken 35 = .ok (.iload_n 3, 1) := by decide +kernel
theorem dX0_takesToken_36 : decode cX0_takesToken 36 = .ok (.invokestatic 58, 3) := by decide +kernel
theorem dX0_takesToken_39 : decode cX0_takesToken 39 = .ok (.putfield 61, 3) := by decide +kernel
theorem dX0_takesToken_42 : decode cX0_takesToken 42 = .ok (.aload_n 0, 1) := by decide +kernel
theorem dX0_takesToken_43 : decode cX0_takesToken 43 = .ok (.iconst 0, 1) := by decide +kernel
theorem dX0_takesToken_44 : decode cX0_takesToken 44 = .ok (.putfield 64, 3) := by decide +kernel
theorem dX0_takesToken_47 : decode cX0_takesToken 47 = .ok (.aload_n 0, 1) := by decide +kernel
theorem dX0_takesToken_48 : decode cX0_takesToken 48 = .ok (.aload_n 0, 1) := by decide +kernel
theorem dX0_takesToken_49 : decode cX0_takesToken 49 = .ok (.getfield 61, 3) := by decide +kernel
theorem dX0_takesToken_52 : decode cX0_takesToken 52 = .ok (.iconst 2, 1) := by decide +kernel
theorem dX0_takesToken_53 : decode cX0_takesToken 53 = .ok (.if_icmp .ne 7, 3) := by decide +kernel
theorem dX0_takesToken_56 : decode cX0_takesToken 56 = .ok (.iconst 1, 1) := by decide +kernel
theorem dX0_takesToken_57 : decode cX0_takesToken 57 = .ok (.goto 4, 3) := by decide +kernel
theorem dX0_takesToken_60 : decode cX0_takesToken 60 = .ok (.iconst 2, 1) := by decide +kernel
theorem dX0_takesToken_61 : decode cX0_takesToken 61 = .ok (.putfield 31, 3) := by decide +kernel
theorem dX0_takesToken_64 : decode cX0_takesToken 64 = .ok (.aload_n 0, 1) := by decide +kernel
theorem dX0_takesToken_65 : decode cX0_takesToken 65 = .ok (.getfield 61, 3) := by decide +kernel
theorem dX0_takesToken_68 : decode cX0_takesToken 68 = .ok (.iconst (-1), 1) := by decide +kernel
theorem dX0_takesToken_69 : decode cX0_takesToken 69 = .ok (.if_icmp .eq 7, 3) := by decide +kernel
theorem dX0_takesToken_72 : decode cX0_takesToken 72 = .ok (.iconst 1, 1) := by decide +kernel
theorem dX0_takesToken_73 : decode cX0_takesToken 73 = .ok (.goto 4, 3) := by decide +kernel
theorem dX0_takesToken_76 : decode cX0_takesToken 76 = .ok (.iconst 0, 1) := by decide +kernel
theorem dX0_takesToken_77 : decode cX0_takesToken 77 = .ok (.ireturn, 1) := by decide +kernel
theorem dX0_takesToken_78 : decode cX0_takesToken 78 = .ok (.aload_n 0, 1) := by decide +kernel
theorem dX0_takesToken_79 : decode cX0_takesToken 79 = .ok (.aload_n 1, 1) := by decide +kernel
theorem dX0_takesToken_80 : decode cX0_takesToken 80 = .ok (.iload_n 2, 1) := by decide +kernel
theorem dX0_takesToken_81 : decode cX0_takesToken 81 = .ok (.iload_n 3, 1) := by decide +kernel
theorem dX0_takesToken_82 : decode cX0_takesToken 82 = .ok (.invokestatic 67, 3) := by decide +kernel
theorem dX0_takesToken_85 : decode cX0_takesToken 85 = .ok (.putfield 64, 3) := by decide +kernel
theorem dX0_takesToken_88 : decode cX0_takesToken 88 = .ok (.aload_n 0, 1) := by decide +kernel
theorem dX0_takesToken_89 : decode cX0_takesToken 89 = .ok (.iconst 2, 1) := by decide +kernel
theorem dX0_takesToken_90 : decode cX0_takesToken 90 = .ok (.putfield 31, 3) := by decide +kernel
theorem dX0_takesToken_93 : decode cX0_takesToken 93 = .ok (.aload_n 0, 1) := by decide +kernel
theorem dX0_takesToken_94 : decode cX0_takesToken 94 = .ok (.getfield 64, 3) := by decide +kernel
theorem dX0_takesToken_97 : decode cX0_takesToken 97 = .ok (.iconst 1, 1) := by decide +kernel
theorem dX0_takesToken_98 : decode cX0_takesToken 98 = .ok (.if_icmp .lt 16, 3) := by decide +kernel
theorem dX0_takesToken_101 : decode cX0_takesToken 101 = .ok (.aload_n 0, 1) := by decide +kernel
theorem dX0_takesToken_102 : decode cX0_takesToken 102 = .ok (.getfield 64, 3) := by decide +kernel
theorem dX0_takesToken_105 : decode cX0_takesToken 105 = .ok (.bipush 9, 2) := by decide +kernel
theorem dX0_takesToken_107 : decode cX0_takesToken 107 = .ok (.if_icmp .gt 7, 3) := by decide +kernel
theorem dX0_takesToken_110 : decode cX0_takesToken 110 = .ok (.iconst 1, 1) := by decide +kernel
theorem dX0_takesToken_111 : decode cX0_takesToken 111 = .ok (.goto 4, 3) := by decide +kernel
theorem dX0_takesToken_114 : decode cX0_takesToken 114 = .ok (.iconst 0, 1) := by decide +kernel
theorem dX0_takesToken_115 : decode cX0_takesToken 115 = .ok (.ireturn, 1) := by decide +kernel
theorem dX0_takesToken_116 : decode cX0_takesToken 116 = .ok (.aload_n 0, 1) := by decide +kernel
theorem dX0_takesToken_117 : decode cX0_takesToken 117 = .ok (.iconst 3, 1) := by decide +kernel
theorem dX0_takesToken_118 : decode cX0_takesToken 118 = .ok (.putfield 31, 3) := by decide +kernel
theorem dX0_takesToken_121 : decode cX0_takesToken 121 = .ok (.aload_n 0, 1) := by decide +kernel
theorem dX0_takesToken_122 : decode cX0_takesToken 122 = .ok (.aload_n 1, 1) := by decide +kernel
theorem dX0_takesToken_123 : decode cX0_takesToken 123 = .ok (.iload_n 2, 1) := by decide +kernel
theorem dX0_takesToken_124 : decode cX0_takesToken 124 = .ok (.iload_n 3, 1) := by decide +kernel
theorem dX0_takesToken_125 : decode cX0_takesToken 125 = .ok (.invokestatic 67, 3) := by decide +kernel
theorem dX0_takesToken_128 : decode cX0_takesToken 128 = .ok (.invokevirtual 70, 3) := by decide +kernel
theorem dX0_takesToken_131 : decode cX0_takesToken 131 = .ok (.ireturn, 1) := by decide +kernel
theorem dX0_takesToken_132 : decode cX0_takesToken 132 = .ok (.aload_n 0, 1) := by decide +kernel
theorem dX0_takesToken_133 : decode cX0_takesToken 133 = .ok (.iconst 0, 1) := by decide +kernel
theorem dX0_takesToken_134 : decode cX0_takesToken 134 = .ok (.putfield 31, 3) := by decide +kernel
theorem dX0_takesToken_137 : decode cX0_takesToken 137 = .ok (.aload_n 1, 1) := by decide +kernel
theorem dX0_takesToken_138 : decode cX0_takesToken 138 = .ok (.iload_n 2, 1) := by decide +kernel
theorem dX0_takesToken_139 : decode cX0_takesToken 139 = .ok (.invokestatic 50, 3) := by decide +kernel
theorem dX0_takesToken_142 : decode cX0_takesToken 142 = .ok (.bipush 59, 2) := by decide +kernel
theorem dX0_takesToken_144 : decode cX0_takesToken 144 = .ok (.if_icmp .ne 7, 3) := by decide +kernel
theorem dX0_takesToken_147 : decode cX0_takesToken 147 = .ok (.iconst 1, 1) := by decide +kernel
theorem dX0_takesToken_148 : decode cX0_takesToken 148 = .ok (.goto 4, 3) := by decide +kernel
theorem dX0_takesToken_151 : decode cX0_takesToken 151 = .ok (.iconst 0, 1) := by decide +kernel
theorem dX0_takesToken_152 : decode cX0_takesToken 152 = .ok (.ireturn, 1) := by decide +kernel
theorem dX0_itemAt_0 : decode cX0_itemAt 0 = .ok (.aload_n 0, 1) := by decide +kernel
theorem dX0_itemAt_1 : decode cX0_itemAt 1 = .ok (.iload_n 1, 1) := by decide +kernel
theorem dX0_itemAt_2 : decode cX0_itemAt 2 = .ok (.iload_n 2, 1) := by decide +kernel
theorem dX0_itemAt_3 : decode cX0_itemAt 3 = .ok (.ldc 74, 2) := by decide +kernel
theorem dX0_itemAt_5 : decode cX0_itemAt 5 = .ok (.invokestatic 76, 3) := by decide +kernel
theorem dX0_itemAt_8 : decode cX0_itemAt 8 = .ok (.ifCond .eq 5, 3) := by decide +kernel
theorem dX0_itemAt_11 : decode cX0_itemAt 11 = .ok (.iconst 0, 1) := by decide +kernel
theorem dX0_itemAt_12 : decode cX0_itemAt 12 = .ok (.ireturn, 1) := by decide +kernel
theorem dX0_itemAt_13 : decode cX0_itemAt 13 = .ok (.aload_n 0, 1) := by decide +kernel
theorem dX0_itemAt_14 : decode cX0_itemAt 14 = .ok (.iload_n 1, 1) := by decide +kernel
theorem dX0_itemAt_15 : decode cX0_itemAt 15 = .ok (.iload_n 2, 1) := by decide +kernel
theorem dX0_itemAt_16 : decode cX0_itemAt 16 = .ok (.ldc 80, 2) := by decide +kernel
theorem dX0_itemAt_18 : decode cX0_itemAt 18 = .ok (.invokestatic 76, 3) := by decide +kernel
theorem dX0_itemAt_21 : decode cX0_itemAt 21 = .ok (.ifCond .eq 5, 3) := by decide +kernel
theorem dX0_itemAt_24 : decode cX0_itemAt 24 = .ok (.iconst 1, 1) := by decide +kernel
theorem dX0_itemAt_25 : decode cX0_itemAt 25 = .ok (.ireturn, 1) := by decide +kernel
theorem dX0_itemAt_26 : decode cX0_itemAt 26 = .ok (.aload_n 0, 1) := by decide +kernel
theorem dX0_itemAt_27 : decode cX0_itemAt 27 = .ok (.iload_n 1, 1) := by decide +kernel
theorem dX0_itemAt_28 : decode cX0_itemAt 28 = .ok (.iload_n 2, 1) := by decide +kernel
theorem dX0_itemAt_29 : decode cX0_itemAt 29 = .ok (.ldc 82, 2) := by decide +kernel
theorem dX0_itemAt_31 : decode cX0_itemAt 31 = .ok (.invokestatic 76, 3) := by decide +kernel
theorem dX0_itemAt_34 : decode cX0_itemAt 34 = .ok (.ifCond .eq 5, 3) := by decide +kernel
theorem dX0_itemAt_37 : decode cX0_itemAt 37 = .ok (.iconst 2, 1) := by decide +kernel
theorem dX0_itemAt_38 : decode cX0_itemAt 38 = .ok (.ireturn, 1) := by decide +kernel
theorem dX0_itemAt_39 : decode cX0_itemAt 39 = .ok (.aload_n 0, 1) := by decide +kernel
theorem dX0_itemAt_40 : decode cX0_itemAt 40 = .ok (.iload_n 1, 1) := by decide +kernel
theorem dX0_itemAt_41 : decode cX0_itemAt 41 = .ok (.iload_n 2, 1) := by decide +kernel
theorem dX0_itemAt_42 : decode cX0_itemAt 42 = .ok (.ldc 84, 2) := by decide +kernel
theorem dX0_itemAt_44 : decode cX0_itemAt 44 = .ok (.invokestatic 76, 3) := by decide +kernel
theorem dX0_itemAt_47 : decode cX0_itemAt 47 = .ok (.ifCond .eq 7, 3) := by decide +kernel
theorem dX0_itemAt_50 : decode cX0_itemAt 50 = .ok (.iconst 3, 1) := by decide +kernel
theorem dX0_itemAt_51 : decode cX0_itemAt 51 = .ok (.goto 4, 3) := by decide +kernel
theorem dX0_itemAt_54 : decode cX0_itemAt 54 = .ok (.iconst (-1), 1) := by decide +kernel
theorem dX0_itemAt_55 : decode cX0_itemAt 55 = .ok (.ireturn, 1) := by decide +kernel
theorem dX0_isWord_0 : decode cX0_isWord 0 = .ok (.iload_n 2, 1) := by decide +kernel
theorem dX0_isWord_1 : decode cX0_isWord 1 = .ok (.iload_n 1, 1) := by decide +kernel
theorem dX0_isWord_2 : decode cX0_isWord 2 = .ok (.isub, 1) := by decide +kernel
theorem dX0_isWord_3 : decode cX0_isWord 3 = .ok (.aload_n 3, 1) := by decide +kernel
theorem dX0_isWord_4 : decode cX0_isWord 4 = .ok (.invokevirtual 86, 3) := by decide +kernel
theorem dX0_isWord_7 : decode cX0_isWord 7 = .ok (.if_icmp .eq 5, 3) := by decide +kernel
theorem dX0_isWord_10 : decode cX0_isWord 10 = .ok (.iconst 0, 1) := by decide +kernel
theorem dX0_isWord_11 : decode cX0_isWord 11 = .ok (.ireturn, 1) := by decide +kernel
theorem dX0_isWord_12 : decode cX0_isWord 12 = .ok (.iconst 0, 1) := by decide +kernel
theorem dX0_isWord_13 : decode cX0_isWord 13 = .ok (.istore 4, 2) := by decide +kernel
theorem dX0_isWord_15 : decode cX0_isWord 15 = .ok (.iload 4, 2) := by decide +kernel
theorem dX0_isWord_17 : decode cX0_isWord 17 = .ok (.aload_n 3, 1) := by decide +kernel
theorem dX0_isWord_18 : decode cX0_isWord 18 = .ok (.invokevirtual 86, 3) := by decide +kernel
theorem dX0_isWord_21 : decode cX0_isWord 21 = .ok (.if_icmp .ge 28, 3) := by decide +kernel
theorem dX0_isWord_24 : decode cX0_isWord 24 = .ok (.aload_n 0, 1) := by decide +kernel
theorem dX0_isWord_25 : decode cX0_isWord 25 = .ok (.iload_n 1, 1) := by decide +kernel
theorem dX0_isWord_26 : decode cX0_isWord 26 = .ok (.iload 4, 2) := by decide +kernel
theorem dX0_isWord_28 : decode cX0_isWord 28 = .ok (.iadd, 1) := by decide +kernel
theorem dX0_isWord_29 : decode cX0_isWord 29 = .ok (.invokestatic 50, 3) := by decide +kernel
theorem dX0_isWord_32 : decode cX0_isWord 32 = .ok (.aload_n 3, 1) := by decide +kernel
theorem dX0_isWord_33 : decode cX0_isWord 33 = .ok (.iload 4, 2) := by decide +kernel
theorem dX0_isWord_35 : decode cX0_isWord 35 = .ok (.invokevirtual 91, 3) := by decide +kernel
theorem dX0_isWord_38 : decode cX0_isWord 38 = .ok (.if_icmp .eq 5, 3) := by decide +kernel
theorem dX0_isWord_41 : decode cX0_isWord 41 = .ok (.iconst 0, 1) := by decide +kernel
theorem dX0_isWord_42 : decode cX0_isWord 42 = .ok (.ireturn, 1) := by decide +kernel
theorem dX0_isWord_43 : decode cX0_isWord 43 = .ok (.iinc 4 1, 3) := by decide +kernel
theorem dX0_isWord_46 : decode cX0_isWord 46 = .ok (.goto (-31), 3) := by decide +kernel
theorem dX0_isWord_49 : decode cX0_isWord 49 = .ok (.iconst 1, 1) := by decide +kernel
theorem dX0_isWord_50 : decode cX0_isWord 50 = .ok (.ireturn, 1) := by decide +kernel
theorem dX0_numberAt_0 : decode cX0_numberAt 0 = .ok (.aload_n 0, 1) := by decide +kernel
theorem dX0_numberAt_1 : decode cX0_numberAt 1 = .ok (.iload_n 1, 1) := by decide +kernel
theorem dX0_numberAt_2 : decode cX0_numberAt 2 = .ok (.invokestatic 50, 3) := by decide +kernel
theorem dX0_numberAt_5 : decode cX0_numberAt 5 = .ok (.invokestatic 54, 3) := by decide +kernel
theorem dX0_numberAt_8 : decode cX0_numberAt 8 = .ok (.iconst 2, 1) := by decide +kernel
theorem dX0_numberAt_9 : decode cX0_numberAt 9 = .ok (.if_icmp .ne 10, 3) := by decide +kernel
theorem dX0_numberAt_12 : decode cX0_numberAt 12 = .ok (.iload_n 2, 1) := by decide +kernel
theorem dX0_numberAt_13 : decode cX0_numberAt 13 = .ok (.iload_n 1, 1) := by decide +kernel
theorem dX0_numberAt_14 : decode cX0_numberAt 14 = .ok (.isub, 1) := by decide +kernel
theorem dX0_numberAt_15 : decode cX0_numberAt 15 = .ok (.iconst 2, 1) := by decide +kernel
theorem dX0_numberAt_16 : decode cX0_numberAt 16 = .ok (.if_icmp .le 5, 3) := by decide +kernel
theorem dX0_numberAt_19 : decode cX0_numberAt 19 = .ok (.iconst (-1), 1) := by decide +kernel
theorem dX0_numberAt_20 : decode cX0_numberAt 20 = .ok (.ireturn, 1) := by decide +kernel
theorem dX0_numberAt_21 : decode cX0_numberAt 21 = .ok (.iconst 0, 1) := by decide +kernel
theorem dX0_numberAt_22 : decode cX0_numberAt 22 = .ok (.istore_n 3, 1) := by decide +kernel
theorem dX0_numberAt_23 : decode cX0_numberAt 23 = .ok (.iload_n 1, 1) := by decide +kernel
theorem dX0_numberAt_24 : decode cX0_numberAt 24 = .ok (.istore 4, 2) := by decide +kernel
theorem dX0_numberAt_26 : decode cX0_numberAt 26 = .ok (.iload 4, 2) := by decide +kernel
theorem dX0_numberAt_28 : decode cX0_numberAt 28 = .ok (.iload_n 2, 1) := by decide +kernel
theorem dX0_numberAt_29 : decode cX0_numberAt 29 = .ok (.if_icmp .ge 24, 3) := by decide +kernel
theorem dX0_numberAt_32 : decode cX0_numberAt 32 = .ok (.bipush 10, 2) := by decide +kernel
theorem dX0_numberAt_34 : decode cX0_numberAt 34 = .ok (.iload_n 3, 1) := by decide +kernel
theorem dX0_numberAt_35 : decode cX0_numberAt 35 = .ok (.imul, 1) := by decide +kernel
theorem dX0_numberAt_36 : decode cX0_numberAt 36 = .ok (.aload_n 0, 1) := by decide +kernel
theorem dX0_numberAt_37 : decode cX0_numberAt 37 = .ok (.iload 4, 2) := by decide +kernel
theorem dX0_numberAt_39 : decode cX0_numberAt 39 = .ok (.invokestatic 50, 3) := by decide +kernel
theorem dX0_numberAt_42 : decode cX0_numberAt 42 = .ok (.iadd, 1) := by decide +kernel
theorem dX0_numberAt_43 : decode cX0_numberAt 43 = .ok (.bipush 48, 2) := by decide +kernel
theorem dX0_numberAt_45 : decode cX0_numberAt 45 = .ok (.isub, 1) := by decide +kernel
theorem dX0_numberAt_46 : decode cX0_numberAt 46 = .ok (.istore_n 3, 1) := by decide +kernel
theorem dX0_numberAt_47 : decode cX0_numberAt 47 = .ok (.iinc 4 1, 3) := by decide +kernel
theorem dX0_numberAt_50 : decode cX0_numberAt 50 = .ok (.goto (-24), 3) := by decide +kernel
theorem dX0_numberAt_53 : decode cX0_numberAt 53 = .ok (.iload_n 3, 1) := by decide +kernel
theorem dX0_numberAt_54 : decode cX0_numberAt 54 = .ok (.ireturn, 1) := by decide +kernel
theorem dX0_lasts_0 : decode cX0_lasts 0 = .ok (.iload_n 1, 1) := by decide +kernel
theorem dX0_lasts_1 : decode cX0_lasts 1 = .ok (.iconst 1, 1) := by decide +kernel
theorem dX0_lasts_2 : decode cX0_lasts 2 = .ok (.if_icmp .lt 20, 3) := by decide +kernel
theorem dX0_lasts_5 : decode cX0_lasts 5 = .ok (.iload_n 1, 1) := by decide +kernel
theorem dX0_lasts_6 : decode cX0_lasts 6 = .ok (.bipush 60, 2) := by decide +kernel
theorem dX0_lasts_8 : decode cX0_lasts 8 = .ok (.if_icmp .gt 14, 3) := by decide +kernel
theorem dX0_lasts_11 : decode cX0_lasts 11 = .ok (.aload_n 0, 1) := by decide +kernel
theorem dX0_lasts_12 : decode cX0_lasts 12 = .ok (.getfield 28, 3) := by decide +kernel
theorem dX0_lasts_15 : decode cX0_lasts 15 = .ok (.iload_n 1, 1) := by decide +kernel
theorem dX0_lasts_16 : decode cX0_lasts 16 = .ok (.iadd, 1) := by decide +kernel
theorem dX0_lasts_17 : decode cX0_lasts 17 = .ok (.bipush 120, 2) := by decide +kernel
theorem dX0_lasts_19 : decode cX0_lasts 19 = .ok (.if_icmp .le 5, 3) := by decide +kernel
theorem dX0_lasts_22 : decode cX0_lasts 22 = .ok (.iconst 0, 1) := by decide +kernel
theorem dX0_lasts_23 : decode cX0_lasts 23 = .ok (.ireturn, 1) := by decide +kernel
theorem dX0_lasts_24 : decode cX0_lasts 24 = .ok (.iconst 0, 1) := by decide +kernel
theorem dX0_lasts_25 : decode cX0_lasts 25 = .ok (.istore_n 2, 1) := by decide +kernel
theorem dX0_lasts_26 : decode cX0_lasts 26 = .ok (.iload_n 2, 1) := by decide +kernel
theorem dX0_lasts_27 : decode cX0_lasts 27 = .ok (.iload_n 1, 1) := by decide +kernel
theorem dX0_lasts_28 : decode cX0_lasts 28 = .ok (.if_icmp .ge 49, 3) := by decide +kernel
theorem dX0_lasts_31 : decode cX0_lasts 31 = .ok (.aload_n 0, 1) := by decide +kernel
theorem dX0_lasts_32 : decode cX0_lasts 32 = .ok (.getfield 19, 3) := by decide +kernel
theorem dX0_lasts_35 : decode cX0_lasts 35 = .ok (.aload_n 0, 1) := by decide +kernel
theorem dX0_lasts_36 : decode cX0_lasts 36 = .ok (.getfield 28, 3) := by decide +kernel
theorem dX0_lasts_39 : decode cX0_lasts 39 = .ok (.aload_n 0, 1) := by decide +kernel
theorem dX0_lasts_40 : decode cX0_lasts 40 = .ok (.getfield 61, 3) := by decide +kernel
theorem dX0_lasts_43 : decode cX0_lasts 43 = .ok (.invokestatic 95, 3) := by decide +kernel
theorem dX0_lasts_46 : decode cX0_lasts 46 = .ok (.aload_n 0, 1) := by decide +kernel
theorem dX0_lasts_47 : decode cX0_lasts 47 = .ok (.getfield 22, 3) := by decide +kernel
theorem dX0_lasts_50 : decode cX0_lasts 50 = .ok (.aload_n 0, 1) := by decide +kernel
theorem dX0_lasts_51 : decode cX0_lasts 51 = .ok (.getfield 28, 3) := by decide +kernel
theorem dX0_lasts_54 : decode cX0_lasts 54 = .ok (.aload_n 0, 1) := by decide +kernel
theorem dX0_lasts_55 : decode cX0_lasts 55 = .ok (.getfield 64, 3) := by decide +kernel
theorem dX0_lasts_58 : decode cX0_lasts 58 = .ok (.invokestatic 95, 3) := by decide +kernel
theorem dX0_lasts_61 : decode cX0_lasts 61 = .ok (.aload_n 0, 1) := by decide +kernel
theorem dX0_lasts_62 : decode cX0_lasts 62 = .ok (.dup, 1) := by decide +kernel
theorem dX0_lasts_63 : decode cX0_lasts 63 = .ok (.getfield 28, 3) := by decide +kernel
theorem dX0_lasts_66 : decode cX0_lasts 66 = .ok (.iconst 1, 1) := by decide +kernel
theorem dX0_lasts_67 : decode cX0_lasts 67 = .ok (.iadd, 1) := by decide +kernel
theorem dX0_lasts_68 : decode cX0_lasts 68 = .ok (.putfield 28, 3) := by decide +kernel
theorem dX0_lasts_71 : decode cX0_lasts 71 = .ok (.iinc 2 1, 3) := by decide +kernel
theorem dX0_lasts_74 : decode cX0_lasts 74 = .ok (.goto (-48), 3) := by decide +kernel
theorem dX0_lasts_77 : decode cX0_lasts 77 = .ok (.iconst 1, 1) := by decide +kernel
theorem dX0_lasts_78 : decode cX0_lasts 78 = .ok (.ireturn, 1) := by decide +kernel
theorem dX0_has_0 : decode cX0_has 0 = .ok (.iload_n 1, 1) := by decide +kernel
theorem dX0_has_1 : decode cX0_has 1 = .ok (.ifCond .lt 15, 3) := by decide +kernel
theorem dX0_has_4 : decode cX0_has 4 = .ok (.iload_n 1, 1) := by decide +kernel
theorem dX0_has_5 : decode cX0_has 5 = .ok (.aload_n 0, 1) := by decide +kernel
theorem dX0_has_6 : decode cX0_has 6 = .ok (.getfield 28, 3) := by decide +kernel
theorem dX0_has_9 : decode cX0_has 9 = .ok (.if_icmp .ge 7, 3) := by decide +kernel
theorem dX0_has_12 : decode cX0_has 12 = .ok (.iconst 1, 1) := by decide +kernel
theorem dX0_has_13 : decode cX0_has 13 = .ok (.goto 4, 3) := by decide +kernel
theorem dX0_has_16 : decode cX0_has 16 = .ok (.iconst 0, 1) := by decide +kernel
theorem dX0_has_17 : decode cX0_has 17 = .ok (.ireturn, 1) := by decide +kernel
theorem dX0_heat_0 : decode cX0_heat 0 = .ok (.iload_n 1, 1) := by decide +kernel
theorem dX0_heat_1 : decode cX0_heat 1 = .ok (.istore_n 2, 1) := by decide +kernel
theorem dX0_heat_2 : decode cX0_heat 2 = .ok (.iconst 0, 1) := by decide +kernel
theorem dX0_heat_3 : decode cX0_heat 3 = .ok (.istore_n 3, 1) := by decide +kernel
theorem dX0_heat_4 : decode cX0_heat 4 = .ok (.iload_n 3, 1) := by decide +kernel
theorem dX0_heat_5 : decode cX0_heat 5 = .ok (.aload_n 0, 1) := by decide +kernel
theorem dX0_heat_6 : decode cX0_heat 6 = .ok (.getfield 28, 3) := by decide +kernel
theorem dX0_heat_9 : decode cX0_heat 9 = .ok (.if_icmp .ge 60, 3) := by decide +kernel
theorem dX0_heat_12 : decode cX0_heat 12 = .ok (.aload_n 0, 1) := by decide +kernel
theorem dX0_heat_13 : decode cX0_heat 13 = .ok (.getfield 15, 3) := by decide +kernel
theorem dX0_heat_16 : decode cX0_heat 16 = .ok (.iload_n 3, 1) := by decide +kernel
theorem dX0_heat_17 : decode cX0_heat 17 = .ok (.iload_n 2, 1) := by decide +kernel
theorem dX0_heat_18 : decode cX0_heat 18 = .ok (.invokestatic 95, 3) := by decide +kernel
theorem dX0_heat_21 : decode cX0_heat 21 = .ok (.aload_n 0, 1) := by decide +kernel
theorem dX0_heat_22 : decode cX0_heat 22 = .ok (.getfield 19, 3) := by decide +kernel
theorem dX0_heat_25 : decode cX0_heat 25 = .ok (.iload_n 3, 1) := by decide +kernel
theorem dX0_heat_26 : decode cX0_heat 26 = .ok (.invokestatic 50, 3) := by decide +kernel
theorem dX0_heat_29 : decode cX0_heat 29 = .ok (.ifCond .ne 14, 3) := by decide +kernel
theorem dX0_heat_32 : decode cX0_heat 32 = .ok (.iload_n 2, 1) := by decide +kernel
theorem dX0_heat_33 : decode cX0_heat 33 = .ok (.iconst 1, 1) := by decide +kernel
theorem dX0_heat_34 : decode cX0_heat 34 = .ok (.isub, 1) := by decide +kernel
theorem dX0_heat_35 : decode cX0_heat 35 = .ok (.iconst 0, 1) := by decide +kernel
theorem dX0_heat_36 : decode cX0_heat 36 = .ok (.invokestatic 99, 3) := by decide +kernel
theorem dX0_heat_39 : decode cX0_heat 39 = .ok (.istore_n 2, 1) := by decide +kernel
theorem dX0_heat_40 : decode cX0_heat 40 = .ok (.goto 23, 3) := by decide +kernel
theorem dX0_heat_43 : decode cX0_heat 43 = .ok (.iload_n 2, 1) := by decide +kernel
theorem dX0_heat_44 : decode cX0_heat 44 = .ok (.iconst 2, 1) := by decide +kernel
theorem dX0_heat_45 : decode cX0_heat 45 = .ok (.iadd, 1) := by decide +kernel
theorem dX0_heat_46 : decode cX0_heat 46 = .ok (.aload_n 0, 1) := by decide +kernel
theorem dX0_heat_47 : decode cX0_heat 47 = .ok (.getfield 22, 3) := by decide +kernel
theorem dX0_heat_50 : decode cX0_heat 50 = .ok (.iload_n 3, 1) := by decide +kernel
theorem dX0_heat_51 : decode cX0_heat 51 = .ok (.invokestatic 50, 3) := by decide +kernel
theorem dX0_heat_54 : decode cX0_heat 54 = .ok (.iconst 3, 1) := by decide +kernel
theorem dX0_heat_55 : decode cX0_heat 55 = .ok (.idiv, 1) := by decide +kernel
theorem dX0_heat_56 : decode cX0_heat 56 = .ok (.iadd, 1) := by decide +kernel
theorem dX0_heat_57 : decode cX0_heat 57 = .ok (.bipush 100, 2) := by decide +kernel
theorem dX0_heat_59 : decode cX0_heat 59 = .ok (.invokestatic 105, 3) := by decide +kernel
theorem dX0_heat_62 : decode cX0_heat 62 = .ok (.istore_n 2, 1) := by decide +kernel
theorem dX0_heat_63 : decode cX0_heat 63 = .ok (.iinc 3 1, 3) := by decide +kernel
theorem dX0_heat_66 : decode cX0_heat 66 = .ok (.goto (-62), 3) := by decide +kernel
theorem dX0_heat_69 : decode cX0_heat 69 = .ok (.aload_n 0, 1) := by decide +kernel
theorem dX0_heat_70 : decode cX0_heat 70 = .ok (.getfield 15, 3) := by decide +kernel
theorem dX0_heat_73 : decode cX0_heat 73 = .ok (.aload_n 0, 1) := by decide +kernel
theorem dX0_heat_74 : decode cX0_heat 74 = .ok (.getfield 28, 3) := by decide +kernel
theorem dX0_heat_77 : decode cX0_heat 77 = .ok (.iload_n 2, 1) := by decide +kernel
theorem dX0_heat_78 : decode cX0_heat 78 = .ok (.invokestatic 95, 3) := by decide +kernel
theorem dX0_heat_81 : decode cX0_heat 81 = .ok (.return_, 1) := by decide +kernel
theorem dX0_seep_0 : decode cX0_seep 0 = .ok (.iconst 0, 1) := by decide +kernel
theorem dX0_seep_1 : decode cX0_seep 1 = .ok (.istore_n 2, 1) := by decide +kernel
theorem dX0_seep_2 : decode cX0_seep 2 = .ok (.iconst 0, 1) := by decide +kernel
theorem dX0_seep_3 : decode cX0_seep 3 = .ok (.istore_n 3, 1) := by decide +kernel
theorem dX0_seep_4 : decode cX0_seep 4 = .ok (.iload_n 3, 1) := by decide +kernel
theorem dX0_seep_5 : decode cX0_seep 5 = .ok (.aload_n 0, 1) := by decide +kernel
theorem dX0_seep_6 : decode cX0_seep 6 = .ok (.getfield 28, 3) := by decide +kernel
theorem dX0_seep_9 : decode cX0_seep 9 = .ok (.if_icmp .ge 105, 3) := by decide +kernel
theorem dX0_seep_12 : decode cX0_seep 12 = .ok (.aload_n 0, 1) := by decide +kernel
theorem dX0_seep_13 : decode cX0_seep 13 = .ok (.getfield 19, 3) := by decide +kernel
theorem dX0_seep_16 : decode cX0_seep 16 = .ok (.iload_n 3, 1) := by decide +kernel
theorem dX0_seep_17 : decode cX0_seep 17 = .ok (.invokestatic 50, 3) := by decide +kernel
theorem dX0_seep_20 : decode cX0_seep 20 = .ok (.istore 4, 2) := by decide +kernel
theorem dX0_seep_22 : decode cX0_seep 22 = .ok (.iload 4, 2) := by decide +kernel
theorem dX0_seep_24 : decode cX0_seep 24 = .ok (.ifCond .ne 7, 3) := by decide +kernel
theorem dX0_seep_27 : decode cX0_seep 27 = .ok (.iload_n 1, 1) := by decide +kernel
theorem dX0_seep_28 : decode cX0_seep 28 = .ok (.goto 16, 3) := by decide +kernel
theorem dX0_seep_31 : decode cX0_seep 31 = .ok (.iload 4, 2) := by decide +kernel
theorem dX0_seep_33 : decode cX0_seep 33 = .ok (.iconst 3, 1) := by decide +kernel
theorem dX0_seep_34 : decode cX0_seep 34 = .ok (.if_icmp .ne 9, 3) := by decide +kernel
theorem dX0_seep_37 : decode cX0_seep 37 = .ok (.iconst 3, 1) := by decide +kernel
theorem dX0_seep_38 : decode cX0_seep 38 = .ok (.iload_n 1, 1) := by decide +kernel
theorem dX0_seep_39 : decode cX0_seep 39 = .ok (.imul, 1) := by decide +kernel
theorem dX0_seep_40 : decode cX0_seep 40 = .ok (.goto 4, 3) := by decide +kernel
theorem dX0_seep_43 : decode cX0_seep 43 = .ok (.iconst 0, 1) := by decide +kernel
theorem dX0_seep_44 : decode cX0_seep 44 = .ok (.istore 5, 2) := by decide +kernel
theorem dX0_seep_46 : decode cX0_seep 46 = .ok (.iload 4, 2) := by decide +kernel
theorem dX0_seep_48 : decode cX0_seep 48 = .ok (.iconst 2, 1) := by decide +kernel
theorem dX0_seep_49 : decode cX0_seep 49 = .ok (.if_icmp .ne 9, 3) := by decide +kernel
theorem dX0_seep_52 : decode cX0_seep 52 = .ok (.iconst 4, 1) := by decide +kernel
theorem dX0_seep_53 : decode cX0_seep 53 = .ok (.iload_n 1, 1) := by decide +kernel
theorem dX0_seep_54 : decode cX0_seep 54 = .ok (.imul, 1) := by decide +kernel
theorem dX0_seep_55 : decode cX0_seep 55 = .ok (.goto 14, 3) := by decide +kernel
theorem dX0_seep_58 : decode cX0_seep 58 = .ok (.iload 4, 2) := by decide +kernel
theorem dX0_seep_60 : decode cX0_seep 60 = .ok (.iconst 1, 1) := by decide +kernel
theorem dX0_seep_61 : decode cX0_seep 61 = .ok (.if_icmp .ne 7, 3) := by decide +kernel
theorem dX0_seep_64 : decode cX0_seep 64 = .ok (.iconst 1, 1) := by decide +kernel
theorem dX0_seep_65 : decode cX0_seep 65 = .ok (.goto 4, 3) := by decide +kernel
theorem dX0_seep_68 : decode cX0_seep 68 = .ok (.iconst 0, 1) := by decide +kernel
theorem dX0_seep_69 : decode cX0_seep 69 = .ok (.istore 6, 2) := by decide +kernel
theorem dX0_seep_71 : decode cX0_seep 71 = .ok (.iload_n 2, 1) := by decide +kernel
theorem dX0_seep_72 : decode cX0_seep 72 = .ok (.iload 5, 2) := by decide +kernel
theorem dX0_seep_74 : decode cX0_seep 74 = .ok (.iadd, 1) := by decide +kernel
theorem dX0_seep_75 : decode cX0_seep 75 = .ok (.bipush 30, 2) := by decide +kernel
theorem dX0_seep_77 : decode cX0_seep 77 = .ok (.invokestatic 105, 3) := by decide +kernel
theorem dX0_seep_80 : decode cX0_seep 80 = .ok (.istore_n 2, 1) := by decide +kernel
theorem dX0_seep_81 : decode cX0_seep 81 = .ok (.iload_n 2, 1) := by decide +kernel
theorem dX0_seep_82 : decode cX0_seep 82 = .ok (.iload 6, 2) := by decide +kernel
theorem dX0_seep_84 : decode cX0_seep 84 = .ok (.invokestatic 105, 3) := by decide +kernel
theorem dX0_seep_87 : decode cX0_seep 87 = .ok (.istore 7, 2) := by decide +kernel
theorem dX0_seep_89 : decode cX0_seep 89 = .ok (.iload_n 2, 1) := by decide +kernel
theorem dX0_seep_90 : decode cX0_seep 90 = .ok (.iload 7, 2) := by decide +kernel
theorem dX0_seep_92 : decode cX0_seep 92 = .ok (.isub, 1) := by decide +kernel
theorem dX0_seep_93 : decode cX0_seep 93 = .ok (.istore_n 2, 1) := by decide +kernel
theorem dX0_seep_94 : decode cX0_seep 94 = .ok (.aload_n 0, 1) := by decide +kernel
theorem dX0_seep_95 : decode cX0_seep 95 = .ok (.getfield 25, 3) := by decide +kernel
theorem dX0_seep_98 : decode cX0_seep 98 = .ok (.iload_n 1, 1) := by decide +kernel
theorem dX0_seep_99 : decode cX0_seep 99 = .ok (.iload_n 3, 1) := by decide +kernel
theorem dX0_seep_100 : decode cX0_seep 100 = .ok (.invokestatic 108, 3) := by decide +kernel
theorem dX0_seep_103 : decode cX0_seep 103 = .ok (.iload 7, 2) := by decide +kernel
theorem dX0_seep_105 : decode cX0_seep 105 = .ok (.invokestatic 95, 3) := by decide +kernel
theorem dX0_seep_108 : decode cX0_seep 108 = .ok (.iinc 3 1, 3) := by decide +kernel
theorem dX0_seep_111 : decode cX0_seep 111 = .ok (.goto (-107), 3) := by decide +kernel
theorem dX0_seep_114 : decode cX0_seep 114 = .ok (.return_, 1) := by decide +kernel
theorem dX0_oilPlace_0 : decode cX0_oilPlace 0 = .ok (.iload_n 0, 1) := by decide +kernel
theorem dX0_oilPlace_1 : decode cX0_oilPlace 1 = .ok (.iconst 1, 1) := by decide +kernel
theorem dX0_oilPlace_2 : decode cX0_oilPlace 2 = .ok (.isub, 1) := by decide +kernel
theorem dX0_oilPlace_3 : decode cX0_oilPlace 3 = .ok (.bipush 120, 2) := by decide +kernel
theorem dX0_oilPlace_5 : decode cX0_oilPlace 5 = .ok (.imul, 1) := by decide +kernel
theorem dX0_oilPlace_6 : decode cX0_oilPlace 6 = .ok (.iload_n 1, 1) := by decide +kernel
theorem dX0_oilPlace_7 : decode cX0_oilPlace 7 = .ok (.iadd, 1) := by decide +kernel
theorem dX0_oilPlace_8 : decode cX0_oilPlace 8 = .ok (.ireturn, 1) := by decide +kernel
theorem dX0_given_0 : decode cX0_given 0 = .ok (.aload_n 0, 1) := by decide +kernel
theorem dX0_given_1 : decode cX0_given 1 = .ok (.getfield 19, 3) := by decide +kernel
theorem dX0_given_4 : decode cX0_given 4 = .ok (.iload_n 2, 1) := by decide +kernel
theorem dX0_given_5 : decode cX0_given 5 = .ok (.invokestatic 50, 3) := by decide +kernel
theorem dX0_given_8 : decode cX0_given 8 = .ok (.ifCond .ne 5, 3) := by decide +kernel
theorem dX0_given_11 : decode cX0_given 11 = .ok (.iconst 0, 1) := by decide +kernel
theorem dX0_given_12 : decode cX0_given 12 = .ok (.ireturn, 1) := by decide +kernel
theorem dX0_given_13 : decode cX0_given 13 = .ok (.iload_n 1, 1) := by decide +kernel
theorem dX0_given_14 : decode cX0_given 14 = .ok (.iconst 3, 1) := by decide +kernel
theorem dX0_given_15 : decode cX0_given 15 = .ok (.idiv, 1) := by decide +kernel
theorem dX0_given_16 : decode cX0_given 16 = .ok (.istore 4, 2) := by decide +kernel
theorem dX0_given_18 : decode cX0_given 18 = .ok (.iload_n 1, 1) := by decide +kernel
theorem dX0_given_19 : decode cX0_given 19 = .ok (.iconst 3, 1) := by decide +kernel
theorem dX0_given_20 : decode cX0_given 20 = .ok (.irem, 1) := by decide +kernel
theorem dX0_given_21 : decode cX0_given 21 = .ok (.iconst 1, 1) := by decide +kernel
theorem dX0_given_22 : decode cX0_given 22 = .ok (.iadd, 1) := by decide +kernel
theorem dX0_given_23 : decode cX0_given 23 = .ok (.istore 5, 2) := by decide +kernel
theorem dX0_given_25 : decode cX0_given 25 = .ok (.aload_n 0, 1) := by decide +kernel
theorem dX0_given_26 : decode cX0_given 26 = .ok (.getfield 22, 3) := by decide +kernel
theorem dX0_given_29 : decode cX0_given 29 = .ok (.iload_n 2, 1) := by decide +kernel
theorem dX0_given_30 : decode cX0_given 30 = .ok (.invokestatic 50, 3) := by decide +kernel
theorem dX0_given_33 : decode cX0_given 33 = .ok (.istore 6, 2) := by decide +kernel
theorem dX0_given_35 : decode cX0_given 35 = .ok (.iload_n 3, 1) := by decide +kernel
theorem dX0_given_36 : decode cX0_given 36 = .ok (.tableswitch 102 0 2 #[28, 60, 76], 28) := by decide +kernel
theorem dX0_given_64 : decode cX0_given 64 = .ok (.iload 4, 2) := by decide +kernel
theorem dX0_given_66 : decode cX0_given 66 = .ok (.iconst 1, 1) := by decide +kernel
theorem dX0_given_67 : decode cX0_given 67 = .ok (.if_icmp .ne 19, 3) := by decide +kernel
theorem dX0_given_70 : decode cX0_given 70 = .ok (.aload_n 0, 1) := by decide +kernel
theorem dX0_given_71 : decode cX0_given 71 = .ok (.getfield 25, 3) := by decide +kernel
theorem dX0_given_74 : decode cX0_given 74 = .ok (.iload 5, 2) := by decide +kernel
theorem dX0_given_76 : decode cX0_given 76 = .ok (.iload_n 2, 1) := by decide +kernel
theorem dX0_given_77 : decode cX0_given 77 = .ok (.invokestatic 108, 3) := by decide +kernel
theorem dX0_given_80 : decode cX0_given 80 = .ok (.invokestatic 50, 3) := by decide +kernel
theorem dX0_given_83 : decode cX0_given 83 = .ok (.goto 12, 3) := by decide +kernel
theorem dX0_given_86 : decode cX0_given 86 = .ok (.iload 4, 2) := by decide +kernel
theorem dX0_given_88 : decode cX0_given 88 = .ok (.iload 5, 2) := by decide +kernel
theorem dX0_given_90 : decode cX0_given 90 = .ok (.iload 6, 2) := by decide +kernel
theorem dX0_given_92 : decode cX0_given 92 = .ok (.invokestatic 111, 3) := by decide +kernel
theorem dX0_given_95 : decode cX0_given 95 = .ok (.ireturn, 1) := by decide +kernel
theorem dX0_given_96 : decode cX0_given 96 = .ok (.iload 4, 2) := by decide +kernel
theorem dX0_given_98 : decode cX0_given 98 = .ok (.iload 5, 2) := by decide +kernel
theorem dX0_given_100 : decode cX0_given 100 = .ok (.aload_n 0, 1) := by decide +kernel
theorem dX0_given_101 : decode cX0_given 101 = .ok (.getfield 15, 3) := by decide +kernel
theorem dX0_given_104 : decode cX0_given 104 = .ok (.iload_n 2, 1) := by decide +kernel
theorem dX0_given_105 : decode cX0_given 105 = .ok (.invokestatic 50, 3) := by decide +kernel
theorem dX0_given_108 : decode cX0_given 108 = .ok (.invokestatic 115, 3) := by decide +kernel
theorem dX0_given_111 : decode cX0_given 111 = .ok (.ireturn, 1) := by decide +kernel
theorem dX0_given_112 : decode cX0_given 112 = .ok (.iload 4, 2) := by decide +kernel
theorem dX0_given_114 : decode cX0_given 114 = .ok (.iconst 3, 1) := by decide +kernel
theorem dX0_given_115 : decode cX0_given 115 = .ok (.if_icmp .ne 21, 3) := by decide +kernel
theorem dX0_given_118 : decode cX0_given 118 = .ok (.iload 5, 2) := by decide +kernel
theorem dX0_given_120 : decode cX0_given 120 = .ok (.iload 6, 2) := by decide +kernel
theorem dX0_given_122 : decode cX0_given 122 = .ok (.aload_n 0, 1) := by decide +kernel
theorem dX0_given_123 : decode cX0_given 123 = .ok (.getfield 15, 3) := by decide +kernel
theorem dX0_given_126 : decode cX0_given 126 = .ok (.iload_n 2, 1) := by decide +kernel
theorem dX0_given_127 : decode cX0_given 127 = .ok (.invokestatic 50, 3) := by decide +kernel
theorem dX0_given_130 : decode cX0_given 130 = .ok (.invokestatic 118, 3) := by decide +kernel
theorem dX0_given_133 : decode cX0_given 133 = .ok (.goto 4, 3) := by decide +kernel
theorem dX0_given_136 : decode cX0_given 136 = .ok (.iconst 0, 1) := by decide +kernel
theorem dX0_given_137 : decode cX0_given 137 = .ok (.ireturn, 1) := by decide +kernel
theorem dX0_given_138 : decode cX0_given 138 = .ok (.iload 4, 2) := by decide +kernel
theorem dX0_given_140 : decode cX0_given 140 = .ok (.iload 5, 2) := by decide +kernel
theorem dX0_given_142 : decode cX0_given 142 = .ok (.iload 6, 2) := by decide +kernel
theorem dX0_given_144 : decode cX0_given 144 = .ok (.invokestatic 121, 3) := by decide +kernel
theorem dX0_given_147 : decode cX0_given 147 = .ok (.ireturn, 1) := by decide +kernel
theorem dX0_blue_0 : decode cX0_blue 0 = .ok (.iload_n 1, 1) := by decide +kernel
theorem dX0_blue_1 : decode cX0_blue 1 = .ok (.iload_n 2, 1) := by decide +kernel
theorem dX0_blue_2 : decode cX0_blue 2 = .ok (.imul, 1) := by decide +kernel
theorem dX0_blue_3 : decode cX0_blue 3 = .ok (.istore_n 3, 1) := by decide +kernel
theorem dX0_blue_4 : decode cX0_blue 4 = .ok (.iload_n 0, 1) := by decide +kernel
theorem dX0_blue_5 : decode cX0_blue 5 = .ok (.lookupswitch 33 #[(0, 27), (6, 29)], 27) := by decide +kernel
theorem dX0_blue_32 : decode cX0_blue 32 = .ok (.iload_n 3, 1) := by decide +kernel
theorem dX0_blue_33 : decode cX0_blue 33 = .ok (.ireturn, 1) := by decide +kernel
theorem dX0_blue_34 : decode cX0_blue 34 = .ok (.iload_n 3, 1) := by decide +kernel
theorem dX0_blue_35 : decode cX0_blue 35 = .ok (.iconst 2, 1) := by decide +kernel
theorem dX0_blue_36 : decode cX0_blue 36 = .ok (.idiv, 1) := by decide +kernel
theorem dX0_blue_37 : decode cX0_blue 37 = .ok (.ireturn, 1) := by decide +kernel
theorem dX0_blue_38 : decode cX0_blue 38 = .ok (.iconst 0, 1) := by decide +kernel
theorem dX0_blue_39 : decode cX0_blue 39 = .ok (.ireturn, 1) := by decide +kernel
theorem dX0_sweet_0 : decode cX0_sweet 0 = .ok (.iload_n 0, 1) := by decide +kernel
theorem dX0_sweet_1 : decode cX0_sweet 1 = .ok (.lookupswitch 45 #[(2, 27), (6, 33)], 27) := by decide +kernel
theorem dX0_sweet_28 : decode cX0_sweet 28 = .ok (.iload_n 1, 1) := by decide +kernel
theorem dX0_sweet_29 : decode cX0_sweet 29 = .ok (.iload_n 2, 1) := by decide +kernel
theorem dX0_sweet_30 : decode cX0_sweet 30 = .ok (.invokestatic 124, 3) := by decide +kernel
theorem dX0_sweet_33 : decode cX0_sweet 33 = .ok (.ireturn, 1) := by decide +kernel
theorem dX0_sweet_34 : decode cX0_sweet 34 = .ok (.iload_n 2, 1) := by decide +kernel
theorem dX0_sweet_35 : decode cX0_sweet 35 = .ok (.bipush 30, 2) := by decide +kernel
theorem dX0_sweet_37 : decode cX0_sweet 37 = .ok (.if_icmp .ge 7, 3) := by decide +kernel
theorem dX0_sweet_40 : decode cX0_sweet 40 = .ok (.iconst 1, 1) := by decide +kernel
theorem dX0_sweet_41 : decode cX0_sweet 41 = .ok (.goto 4, 3) := by decide +kernel
theorem dX0_sweet_44 : decode cX0_sweet 44 = .ok (.iconst 0, 1) := by decide +kernel
theorem dX0_sweet_45 : decode cX0_sweet 45 = .ok (.ireturn, 1) := by decide +kernel
theorem dX0_sweet_46 : decode cX0_sweet 46 = .ok (.iconst 0, 1) := by decide +kernel
theorem dX0_sweet_47 : decode cX0_sweet 47 = .ok (.ireturn, 1) := by decide +kernel
theorem dX0_cracked_0 : decode cX0_cracked 0 = .ok (.iload_n 0, 1) := by decide +kernel
theorem dX0_cracked_1 : decode cX0_cracked 1 = .ok (.bipush 100, 2) := by decide +kernel
theorem dX0_cracked_3 : decode cX0_cracked 3 = .ok (.iload_n 1, 1) := by decide +kernel
theorem dX0_cracked_4 : decode cX0_cracked 4 = .ok (.isub, 1) := by decide +kernel
theorem dX0_cracked_5 : decode cX0_cracked 5 = .ok (.imul, 1) := by decide +kernel
theorem dX0_cracked_6 : decode cX0_cracked 6 = .ok (.bipush 20, 2) := by decide +kernel
theorem dX0_cracked_8 : decode cX0_cracked 8 = .ok (.idiv, 1) := by decide +kernel
theorem dX0_cracked_9 : decode cX0_cracked 9 = .ok (.ireturn, 1) := by decide +kernel
theorem dX0_sharp_0 : decode cX0_sharp 0 = .ok (.iload_n 0, 1) := by decide +kernel
theorem dX0_sharp_1 : decode cX0_sharp 1 = .ok (.iload_n 2, 1) := by decide +kernel
theorem dX0_sharp_2 : decode cX0_sharp 2 = .ok (.invokestatic 124, 3) := by decide +kernel
theorem dX0_sharp_5 : decode cX0_sharp 5 = .ok (.iconst 2, 1) := by decide +kernel
theorem dX0_sharp_6 : decode cX0_sharp 6 = .ok (.idiv, 1) := by decide +kernel
theorem dX0_sharp_7 : decode cX0_sharp 7 = .ok (.iload_n 1, 1) := by decide +kernel
theorem dX0_sharp_8 : decode cX0_sharp 8 = .ok (.ifCond .ne 7, 3) := by decide +kernel
theorem dX0_sharp_11 : decode cX0_sharp 11 = .ok (.iload_n 0, 1) := by decide +kernel
theorem dX0_sharp_12 : decode cX0_sharp 12 = .ok (.goto 4, 3) := by decide +kernel
theorem dX0_sharp_15 : decode cX0_sharp 15 = .ok (.iconst 0, 1) := by decide +kernel
theorem dX0_sharp_16 : decode cX0_sharp 16 = .ok (.iadd, 1) := by decide +kernel
theorem dX0_sharp_17 : decode cX0_sharp 17 = .ok (.ireturn, 1) := by decide +kernel
theorem dX0_black_0 : decode cX0_black 0 = .ok (.iload_n 0, 1) := by decide +kernel
theorem dX0_black_1 : decode cX0_black 1 = .ok (.lookupswitch 61 #[(4, 27), (5, 33)], 27) := by decide +kernel
theorem dX0_black_28 : decode cX0_black 28 = .ok (.iload_n 1, 1) := by decide +kernel
theorem dX0_black_29 : decode cX0_black 29 = .ok (.iload_n 2, 1) := by decide +kernel
theorem dX0_black_30 : decode cX0_black 30 = .ok (.invokestatic 127, 3) := by decide +kernel
theorem dX0_black_33 : decode cX0_black 33 = .ok (.ireturn, 1) := by decide +kernel
theorem dX0_black_34 : decode cX0_black 34 = .ok (.iload_n 1, 1) := by decide +kernel
theorem dX0_black_35 : decode cX0_black 35 = .ok (.iload_n 2, 1) := by decide +kernel
theorem dX0_black_36 : decode cX0_black 36 = .ok (.ifCond .ne 7, 3) := by decide +kernel
theorem dX0_black_39 : decode cX0_black 39 = .ok (.iconst 0, 1) := by decide +kernel
theorem dX0_black_40 : decode cX0_black 40 = .ok (.goto 6, 3) := by decide +kernel
theorem dX0_black_43 : decode cX0_black 43 = .ok (.iload_n 2, 1) := by decide +kernel
theorem dX0_black_44 : decode cX0_black 44 = .ok (.iconst 2, 1) := by decide +kernel
theorem dX0_black_45 : decode cX0_black 45 = .ok (.iadd, 1) := by decide +kernel
theorem dX0_black_46 : decode cX0_black 46 = .ok (.invokestatic 127, 3) := by decide +kernel
theorem dX0_black_49 : decode cX0_black 49 = .ok (.iload_n 2, 1) := by decide +kernel
theorem dX0_black_50 : decode cX0_black 50 = .ok (.bipush 6, 2) := by decide +kernel
theorem dX0_black_52 : decode cX0_black 52 = .ok (.if_icmp .le 7, 3) := by decide +kernel
theorem dX0_black_55 : decode cX0_black 55 = .ok (.iload_n 1, 1) := by decide +kernel
theorem dX0_black_56 : decode cX0_black 56 = .ok (.goto 4, 3) := by decide +kernel
theorem dX0_black_59 : decode cX0_black 59 = .ok (.iconst 0, 1) := by decide +kernel
theorem dX0_black_60 : decode cX0_black 60 = .ok (.iadd, 1) := by decide +kernel
theorem dX0_black_61 : decode cX0_black 61 = .ok (.ireturn, 1) := by decide +kernel
theorem dX0_black_62 : decode cX0_black 62 = .ok (.iconst 0, 1) := by decide +kernel
theorem dX0_black_63 : decode cX0_black 63 = .ok (.ireturn, 1) := by decide +kernel
theorem dX0_over_0 : decode cX0_over 0 = .ok (.iload_n 1, 1) := by decide +kernel
theorem dX0_over_1 : decode cX0_over 1 = .ok (.iconst 4, 1) := by decide +kernel
theorem dX0_over_2 : decode cX0_over 2 = .ok (.if_icmp .le 11, 3) := by decide +kernel
theorem dX0_over_5 : decode cX0_over 5 = .ok (.iload_n 0, 1) := by decide +kernel
theorem dX0_over_6 : decode cX0_over 6 = .ok (.iload_n 1, 1) := by decide +kernel
theorem dX0_over_7 : decode cX0_over 7 = .ok (.iconst 4, 1) := by decide +kernel
theorem dX0_over_8 : decode cX0_over 8 = .ok (.isub, 1) := by decide +kernel
theorem dX0_over_9 : decode cX0_over 9 = .ok (.imul, 1) := by decide +kernel
theorem dX0_over_10 : decode cX0_over 10 = .ok (.goto 4, 3) := by decide +kernel
theorem dX0_over_13 : decode cX0_over 13 = .ok (.iconst 0, 1) := by decide +kernel
theorem dX0_over_14 : decode cX0_over 14 = .ok (.ireturn, 1) := by decide +kernel
theorem dX0_givesNothing_0 : decode cX0_givesNothing 0 = .ok (.iconst 0, 1) := by decide +kernel
theorem dX0_givesNothing_1 : decode cX0_givesNothing 1 = .ok (.istore_n 2, 1) := by decide +kernel
theorem dX0_givesNothing_2 : decode cX0_givesNothing 2 = .ok (.iload_n 2, 1) := by decide +kernel
theorem dX0_givesNothing_3 : decode cX0_givesNothing 3 = .ok (.aload_n 0, 1) := by decide +kernel
theorem dX0_givesNothing_4 : decode cX0_givesNothing 4 = .ok (.getfield 28, 3) := by decide +kernel
theorem dX0_givesNothing_7 : decode cX0_givesNothing 7 = .ok (.if_icmp .ge 34, 3) := by decide +kernel
theorem dX0_givesNothing_10 : decode cX0_givesNothing 10 = .ok (.iconst 0, 1) := by decide +kernel
theorem dX0_givesNothing_11 : decode cX0_givesNothing 11 = .ok (.istore_n 3, 1) := by decide +kernel
theorem dX0_givesNothing_12 : decode cX0_givesNothing 12 = .ok (.iload_n 3, 1) := by decide +kernel
theorem dX0_givesNothing_13 : decode cX0_givesNothing 13 = .ok (.iconst 4, 1) := by decide +kernel
theorem dX0_givesNothing_14 : decode cX0_givesNothing 14 = .ok (.if_icmp .ge 21, 3) := by decide +kernel
theorem dX0_givesNothing_17 : decode cX0_givesNothing 17 = .ok (.aload_n 0, 1) := by decide +kernel
theorem dX0_givesNothing_18 : decode cX0_givesNothing 18 = .ok (.iload_n 1, 1) := by decide +kernel
theorem dX0_givesNothing_19 : decode cX0_givesNothing 19 = .ok (.iload_n 2, 1) := by decide +kernel
theorem dX0_givesNothing_20 : decode cX0_givesNothing 20 = .ok (.iload_n 3, 1) := by decide +kernel
theorem dX0_givesNothing_21 : decode cX0_givesNothing 21 = .ok (.invokevirtual 130, 3) := by decide +kernel
theorem dX0_givesNothing_24 : decode cX0_givesNothing 24 = .ok (.ifCond .le 5, 3) := by decide +kernel
theorem dX0_givesNothing_27 : decode cX0_givesNothing 27 = .ok (.iconst 0, 1) := by decide +kernel
theorem dX0_givesNothing_28 : decode cX0_givesNothing 28 = .ok (.ireturn, 1) := by decide +kernel
theorem dX0_givesNothing_29 : decode cX0_givesNothing 29 = .ok (.iinc 3 1, 3) := by decide +kernel
theorem dX0_givesNothing_32 : decode cX0_givesNothing 32 = .ok (.goto (-20), 3) := by decide +kernel
theorem dX0_givesNothing_35 : decode cX0_givesNothing 35 = .ok (.iinc 2 1, 3) := by decide +kernel
theorem dX0_givesNothing_38 : decode cX0_givesNothing 38 = .ok (.goto (-36), 3) := by decide +kernel
theorem dX0_givesNothing_41 : decode cX0_givesNothing 41 = .ok (.iconst 1, 1) := by decide +kernel
theorem dX0_givesNothing_42 : decode cX0_givesNothing 42 = .ok (.ireturn, 1) := by decide +kernel
theorem dX0_bring_0 : decode cX0_bring 0 = .ok (.iconst 0, 1) := by decide +kernel
theorem dX0_bring_1 : decode cX0_bring 1 = .ok (.istore 4, 2) := by decide +kernel
theorem dX0_bring_3 : decode cX0_bring 3 = .ok (.iload 4, 2) := by decide +kernel
theorem dX0_bring_5 : decode cX0_bring 5 = .ok (.aload_n 3, 1) := by decide +kernel
theorem dX0_bring_6 : decode cX0_bring 6 = .ok (.arraylength, 1) := by decide +kernel
theorem dX0_bring_7 : decode cX0_bring 7 = .ok (.if_icmp .ge 21, 3) := by decide +kernel
theorem dX0_bring_10 : decode cX0_bring 10 = .ok (.aload_n 3, 1) := by decide +kernel
theorem dX0_bring_11 : decode cX0_bring 11 = .ok (.iload 4, 2) := by decide +kernel
theorem dX0_bring_13 : decode cX0_bring 13 = .ok (.aload_n 0, 1) := by decide +kernel
theorem dX0_bring_14 : decode cX0_bring 14 = .ok (.iload 4, 2) := by decide +kernel
theorem dX0_bring_16 : decode cX0_bring 16 = .ok (.iload_n 1, 1) := by decide +kernel
theorem dX0_bring_17 : decode cX0_bring 17 = .ok (.iload_n 2, 1) := by decide +kernel
theorem dX0_bring_18 : decode cX0_bring 18 = .ok (.invokevirtual 130, 3) := by decide +kernel
theorem dX0_bring_21 : decode cX0_bring 21 = .ok (.iastore, 1) := by decide +kernel
theorem dX0_bring_22 : decode cX0_bring 22 = .ok (.iinc 4 1, 3) := by decide +kernel
theorem dX0_bring_25 : decode cX0_bring 25 = .ok (.goto (-22), 3) := by decide +kernel
theorem dX0_bring_28 : decode cX0_bring 28 = .ok (.return_, 1) := by decide +kernel
theorem dX0_bringBurnt_0 : decode cX0_bringBurnt 0 = .ok (.iconst 0, 1) := by decide +kernel
theorem dX0_bringBurnt_1 : decode cX0_bringBurnt 1 = .ok (.istore_n 2, 1) := by decide +kernel
theorem dX0_bringBurnt_2 : decode cX0_bringBurnt 2 = .ok (.iload_n 2, 1) := by decide +kernel
theorem dX0_bringBurnt_3 : decode cX0_bringBurnt 3 = .ok (.aload_n 1, 1) := by decide +kernel
theorem dX0_bringBurnt_4 : decode cX0_bringBurnt 4 = .ok (.arraylength, 1) := by decide +kernel
theorem dX0_bringBurnt_5 : decode cX0_bringBurnt 5 = .ok (.if_icmp .ge 44, 3) := by decide +kernel
theorem dX0_bringBurnt_8 : decode cX0_bringBurnt 8 = .ok (.iconst 0, 1) := by decide +kernel
theorem dX0_bringBurnt_9 : decode cX0_bringBurnt 9 = .ok (.istore_n 3, 1) := by decide +kernel
theorem dX0_bringBurnt_10 : decode cX0_bringBurnt 10 = .ok (.iconst 0, 1) := by decide +kernel
theorem dX0_bringBurnt_11 : decode cX0_bringBurnt 11 = .ok (.istore 4, 2) := by decide +kernel
theorem dX0_bringBurnt_13 : decode cX0_bringBurnt 13 = .ok (.iload 4, 2) := by decide +kernel
theorem dX0_bringBurnt_15 : decode cX0_bringBurnt 15 = .ok (.aload_n 0, 1) := by decide +kernel
theorem dX0_bringBurnt_16 : decode cX0_bringBurnt 16 = .ok (.getfield 28, 3) := by decide +kernel
theorem dX0_bringBurnt_19 : decode cX0_bringBurnt 19 = .ok (.if_icmp .ge 20, 3) := by decide +kernel
theorem dX0_bringBurnt_22 : decode cX0_bringBurnt 22 = .ok (.iload_n 3, 1) := by decide +kernel
theorem dX0_bringBurnt_23 : decode cX0_bringBurnt 23 = .ok (.aload_n 0, 1) := by decide +kernel
theorem dX0_bringBurnt_24 : decode cX0_bringBurnt 24 = .ok (.iload_n 2, 1) := by decide +kernel
theorem dX0_bringBurnt_25 : decode cX0_bringBurnt 25 = .ok (.iload 4, 2) := by decide +kernel
theorem dX0_bringBurnt_27 : decode cX0_bringBurnt 27 = .ok (.iconst 0, 1) := by decide +kernel
theorem dX0_bringBurnt_28 : decode cX0_bringBurnt 28 = .ok (.invokevirtual 130, 3) := by decide +kernel
theorem dX0_bringBurnt_31 : decode cX0_bringBurnt 31 = .ok (.iadd, 1) := by decide +kernel
theorem dX0_bringBurnt_32 : decode cX0_bringBurnt 32 = .ok (.istore_n 3, 1) := by decide +kernel
theorem dX0_bringBurnt_33 : decode cX0_bringBurnt 33 = .ok (.iinc 4 1, 3) := by decide +kernel
theorem dX0_bringBurnt_36 : decode cX0_bringBurnt 36 = .ok (.goto (-23), 3) := by decide +kernel
theorem dX0_bringBurnt_39 : decode cX0_bringBurnt 39 = .ok (.aload_n 1, 1) := by decide +kernel
theorem dX0_bringBurnt_40 : decode cX0_bringBurnt 40 = .ok (.iload_n 2, 1) := by decide +kernel
theorem dX0_bringBurnt_41 : decode cX0_bringBurnt 41 = .ok (.iload_n 3, 1) := by decide +kernel
theorem dX0_bringBurnt_42 : decode cX0_bringBurnt 42 = .ok (.iastore, 1) := by decide +kernel
theorem dX0_bringBurnt_43 : decode cX0_bringBurnt 43 = .ok (.iinc 2 1, 3) := by decide +kernel
theorem dX0_bringBurnt_46 : decode cX0_bringBurnt 46 = .ok (.goto (-44), 3) := by decide +kernel
theorem dX0_bringBurnt_49 : decode cX0_bringBurnt 49 = .ok (.return_, 1) := by decide +kernel
theorem dX1_init_0 : decode cX1_init 0 = .ok (.aload_n 0, 1) := by decide +kernel
theorem dX1_init_1 : decode cX1_init 1 = .ok (.invokespecial 5, 3) := by decide +kernel
theorem dX1_init_4 : decode cX1_init 4 = .ok (.aload_n 0, 1) := by decide +kernel
theorem dX1_init_5 : decode cX1_init 5 = .ok (.iconst 3, 1) := by decide +kernel
theorem dX1_init_6 : decode cX1_init 6 = .ok (.newarray .long, 2) := by decide +kernel
theorem dX1_init_8 : decode cX1_init 8 = .ok (.putfield 11, 3) := by decide +kernel
theorem dX1_init_11 : decode cX1_init 11 = .ok (.aload_n 0, 1) := by decide +kernel
theorem dX1_init_12 : decode cX1_init 12 = .ok (.iconst 3, 1) := by decide +kernel
theorem dX1_init_13 : decode cX1_init 13 = .ok (.newarray .long, 2) := by decide +kernel
theorem dX1_init_15 : decode cX1_init 15 = .ok (.putfield 15, 3) := by decide +kernel
theorem dX1_init_18 : decode cX1_init 18 = .ok (.aload_n 0, 1) := by decide +kernel
theorem dX1_init_19 : decode cX1_init 19 = .ok (.iconst 3, 1) := by decide +kernel
theorem dX1_init_20 : decode cX1_init 20 = .ok (.newarray .long, 2) := by decide +kernel
theorem dX1_init_22 : decode cX1_init 22 = .ok (.putfield 18, 3) := by decide +kernel
theorem dX1_init_25 : decode cX1_init 25 = .ok (.aload_n 0, 1) := by decide +kernel
theorem dX1_init_26 : decode cX1_init 26 = .ok (.iconst 3, 1) := by decide +kernel
theorem dX1_init_27 : decode cX1_init 27 = .ok (.newarray .long, 2) := by decide +kernel
theorem dX1_init_29 : decode cX1_init 29 = .ok (.putfield 21, 3) := by decide +kernel
theorem dX1_init_32 : decode cX1_init 32 = .ok (.aload_n 0, 1) := by decide +kernel
theorem dX1_init_33 : decode cX1_init 33 = .ok (.iconst 3, 1) := by decide +kernel
theorem dX1_init_34 : decode cX1_init 34 = .ok (.newarray .long, 2) := by decide +kernel
theorem dX1_init_36 : decode cX1_init 36 = .ok (.putfield 24, 3) := by decide +kernel
theorem dX1_init_39 : decode cX1_init 39 = .ok (.aload_n 0, 1) := by decide +kernel
theorem dX1_init_40 : decode cX1_init 40 = .ok (.getfield 15, 3) := by decide +kernel
theorem dX1_init_43 : decode cX1_init 43 = .ok (.lconst 1, 1) := by decide +kernel
theorem dX1_init_44 : decode cX1_init 44 = .ok (.invokestatic 27, 3) := by decide +kernel
theorem dX1_init_47 : decode cX1_init 47 = .ok (.return_, 1) := by decide +kernel
theorem dX1_setShare_0 : decode cX1_setShare 0 = .ok (.lload_n 3, 1) := by decide +kernel
theorem dX1_setShare_1 : decode cX1_setShare 1 = .ok (.lload_n 1, 1) := by decide +kernel
theorem dX1_setShare_2 : decode cX1_setShare 2 = .ok (.invokestatic 31, 3) := by decide +kernel
theorem dX1_setShare_5 : decode cX1_setShare 5 = .ok (.lstore 5, 2) := by decide +kernel
theorem dX1_setShare_7 : decode cX1_setShare 7 = .ok (.lload 5, 2) := by decide +kernel
theorem dX1_setShare_9 : decode cX1_setShare 9 = .ok (.lconst 0, 1) := by decide +kernel
theorem dX1_setShare_10 : decode cX1_setShare 10 = .ok (.lcmp, 1) := by decide +kernel
theorem dX1_setShare_11 : decode cX1_setShare 11 = .ok (.ifCond .le 25, 3) := by decide +kernel
theorem dX1_setShare_14 : decode cX1_setShare 14 = .ok (.aload_n 0, 1) := by decide +kernel
theorem dX1_setShare_15 : decode cX1_setShare 15 = .ok (.getfield 11, 3) := by decide +kernel
theorem dX1_setShare_18 : decode cX1_setShare 18 = .ok (.lload_n 1, 1) := by decide +kernel
theorem dX1_setShare_19 : decode cX1_setShare 19 = .ok (.lload 5, 2) := by decide +kernel
theorem dX1_setShare_21 : decode cX1_setShare 21 = .ok (.ldiv, 1) := by decide +kernel
theorem dX1_setShare_22 : decode cX1_setShare 22 = .ok (.invokestatic 27, 3) := by decide +kernel
theorem dX1_setShare_25 : decode cX1_setShare 25 = .ok (.aload_n 0, 1) := by decide +kernel
theorem dX1_setShare_26 : decode cX1_setShare 26 = .ok (.getfield 15, 3) := by decide +kernel
theorem dX1_setShare_29 : decode cX1_setShare 29 = .ok (.lload_n 3, 1) := by decide +kernel
theorem dX1_setShare_30 : decode cX1_setShare 30 = .ok (.lload 5, 2) := by decide +kernel
theorem dX1_setShare_32 : decode cX1_setShare 32 = .ok (.ldiv, 1) := by decide +kernel
theorem dX1_setShare_33 : decode cX1_setShare 33 = .ok (.invokestatic 27, 3) := by decide +kernel
theorem dX1_setShare_36 : decode cX1_setShare 36 = .ok (.return_, 1) := by decide +kernel
theorem dX1_commonOf_0 : decode cX1_commonOf 0 = .ok (.lload_n 0, 1) := by decide +kernel
theorem dX1_commonOf_1 : decode cX1_commonOf 1 = .ok (.lstore 4, 2) := by decide +kernel
theorem dX1_commonOf_3 : decode cX1_commonOf 3 = .ok (.lload_n 2, 1) := by decide +kernel
theorem dX1_commonOf_4 : decode cX1_commonOf 4 = .ok (.lstore 6, 2) := by decide +kernel
theorem dX1_commonOf_6 : decode cX1_commonOf 6 = .ok (.iconst 0, 1) := by decide +kernel
theorem dX1_commonOf_7 : decode cX1_commonOf 7 = .ok (.istore 8, 2) := by decide +kernel
theorem dX1_commonOf_9 : decode cX1_commonOf 9 = .ok (.iload 8, 2) := by decide +kernel
theorem dX1_commonOf_11 : decode cX1_commonOf 11 = .ok (.bipush 100, 2) := by decide +kernel
theorem dX1_commonOf_13 : decode cX1_commonOf 13 = .ok (.if_icmp .ge 31, 3) := by decide +kernel
theorem dX1_commonOf_16 : decode cX1_commonOf 16 = .ok (.lload 6, 2) := by decide +kernel
theorem dX1_commonOf_18 : decode cX1_commonOf 18 = .ok (.lconst 0, 1) := by decide +kernel
theorem dX1_commonOf_19 : decode cX1_commonOf 19 = .ok (.lcmp, 1) := by decide +kernel
theorem dX1_commonOf_20 : decode cX1_commonOf 20 = .ok (.ifCond .eq 24, 3) := by decide +kernel
theorem dX1_commonOf_23 : decode cX1_commonOf 23 = .ok (.lload 4, 2) := by decide +kernel
theorem dX1_commonOf_25 : decode cX1_commonOf 25 = .ok (.lload 6, 2) := by decide +kernel
theorem dX1_commonOf_27 : decode cX1_commonOf 27 = .ok (.lrem, 1) := by decide +kernel
theorem dX1_commonOf_28 : decode cX1_commonOf 28 = .ok (.lstore 9, 2) := by decide +kernel
theorem dX1_commonOf_30 : decode cX1_commonOf 30 = .ok (.lload 6, 2) := by decide +kernel
theorem dX1_commonOf_32 : decode cX1_commonOf 32 = .ok (.lstore 4, 2) := by decide +kernel
theorem dX1_commonOf_34 : decode cX1_commonOf 34 = .ok (.lload 9, 2) := by decide +kernel
theorem dX1_commonOf_36 : decode cX1_commonOf 36 = .ok (.lstore 6, 2) := by decide +kernel
theorem dX1_commonOf_38 : decode cX1_commonOf 38 = .ok (.iinc 8 1, 3) := by decide +kernel
theorem dX1_commonOf_41 : decode cX1_commonOf 41 = .ok (.goto (-32), 3) := by decide +kernel
theorem dX1_commonOf_44 : decode cX1_commonOf 44 = .ok (.lload 4, 2) := by decide +kernel
theorem dX1_commonOf_46 : decode cX1_commonOf 46 = .ok (.lreturn, 1) := by decide +kernel
theorem dX1_write_0 : decode cX1_write 0 = .ok (.iconst 0, 1) := by decide +kernel
theorem dX1_write_1 : decode cX1_write 1 = .ok (.istore_n 3, 1) := by decide +kernel
theorem dX1_write_2 : decode cX1_write 2 = .ok (.iload_n 3, 1) := by decide +kernel
theorem dX1_write_3 : decode cX1_write 3 = .ok (.aload_n 0, 1) := by decide +kernel
theorem dX1_write_4 : decode cX1_write 4 = .ok (.arraylength, 1) := by decide +kernel
theorem dX1_write_5 : decode cX1_write 5 = .ok (.if_icmp .ge 22, 3) := by decide +kernel
theorem dX1_write_8 : decode cX1_write 8 = .ok (.aload_n 0, 1) := by decide +kernel
theorem dX1_write_9 : decode cX1_write 9 = .ok (.iload_n 3, 1) := by decide +kernel
theorem dX1_write_10 : decode cX1_write 10 = .ok (.lload_n 1, 1) := by decide +kernel
theorem dX1_write_11 : decode cX1_write 11 = .ok (.bipush 30, 2) := by decide +kernel
theorem dX1_write_13 : decode cX1_write 13 = .ok (.iload_n 3, 1) := by decide +kernel
theorem dX1_write_14 : decode cX1_write 14 = .ok (.imul, 1) := by decide +kernel
theorem dX1_write_15 : decode cX1_write 15 = .ok (.lshr, 1) := by decide +kernel
theorem dX1_write_16 : decode cX1_write 16 = .ok (.ldc2_w 35, 3) := by decide +kernel
theorem dX1_write_19 : decode cX1_write 19 = .ok (.land, 1) := by decide +kernel
theorem dX1_write_20 : decode cX1_write 20 = .ok (.lastore, 1) := by decide +kernel
theorem dX1_write_21 : decode cX1_write 21 = .ok (.iinc 3 1, 3) := by decide +kernel
theorem dX1_write_24 : decode cX1_write 24 = .ok (.goto (-22), 3) := by decide +kernel
theorem dX1_write_27 : decode cX1_write 27 = .ok (.return_, 1) := by decide +kernel
theorem dX1_setGone_0 : decode cX1_setGone 0 = .ok (.aload_n 0, 1) := by decide +kernel
theorem dX1_setGone_1 : decode cX1_setGone 1 = .ok (.getfield 18, 3) := by decide +kernel
theorem dX1_setGone_4 : decode cX1_setGone 4 = .ok (.iload_n 1, 1) := by decide +kernel
theorem dX1_setGone_5 : decode cX1_setGone 5 = .ok (.iconst 1, 1) := by decide +kernel
theorem dX1_setGone_6 : decode cX1_setGone 6 = .ok (.if_icmp .ne 7, 3) := by decide +kernel
theorem dX1_setGone_9 : decode cX1_setGone 9 = .ok (.lconst 1, 1) := by decide +kernel
theorem dX1_setGone_10 : decode cX1_setGone 10 = .ok (.goto 4, 3) := by decide +kernel
theorem dX1_setGone_13 : decode cX1_setGone 13 = .ok (.lconst 0, 1) := by decide +kernel
theorem dX1_setGone_14 : decode cX1_setGone 14 = .ok (.invokestatic 27, 3) := by decide +kernel
theorem dX1_setGone_17 : decode cX1_setGone 17 = .ok (.aload_n 0, 1) := by decide +kernel
theorem dX1_setGone_18 : decode cX1_setGone 18 = .ok (.getfield 21, 3) := by decide +kernel
theorem dX1_setGone_21 : decode cX1_setGone 21 = .ok (.iload_n 1, 1) := by decide +kernel
theorem dX1_setGone_22 : decode cX1_setGone 22 = .ok (.iconst 2, 1) := by decide +kernel
theorem dX1_setGone_23 : decode cX1_setGone 23 = .ok (.if_icmp .ne 7, 3) := by decide +kernel
theorem dX1_setGone_26 : decode cX1_setGone 26 = .ok (.lconst 1, 1) := by decide +kernel
theorem dX1_setGone_27 : decode cX1_setGone 27 = .ok (.goto 4, 3) := by decide +kernel
theorem dX1_setGone_30 : decode cX1_setGone 30 = .ok (.lconst 0, 1) := by decide +kernel
theorem dX1_setGone_31 : decode cX1_setGone 31 = .ok (.invokestatic 27, 3) := by decide +kernel
theorem dX1_setGone_34 : decode cX1_setGone 34 = .ok (.aload_n 0, 1) := by decide +kernel
theorem dX1_setGone_35 : decode cX1_setGone 35 = .ok (.getfield 24, 3) := by decide +kernel
theorem dX1_setGone_38 : decode cX1_setGone 38 = .ok (.iload_n 1, 1) := by decide +kernel
theorem dX1_setGone_39 : decode cX1_setGone 39 = .ok (.iconst 3, 1) := by decide +kernel
theorem dX1_setGone_40 : decode cX1_setGone 40 = .ok (.if_icmp .ne 7, 3) := by decide +kernel
theorem dX1_setGone_43 : decode cX1_setGone 43 = .ok (.lconst 1, 1) := by decide +kernel
theorem dX1_setGone_44 : decode cX1_setGone 44 = .ok (.goto 4, 3) := by decide +kernel
theorem dX1_setGone_47 : decode cX1_setGone 47 = .ok (.lconst 0, 1) := by decide +kernel
theorem dX1_setGone_48 : decode cX1_setGone 48 = .ok (.invokestatic 27, 3) := by decide +kernel
theorem dX1_setGone_51 : decode cX1_setGone 51 = .ok (.aload_n 0, 1) := by decide +kernel
theorem dX1_setGone_52 : decode cX1_setGone 52 = .ok (.getfield 11, 3) := by decide +kernel
theorem dX1_setGone_55 : decode cX1_setGone 55 = .ok (.lconst 0, 1) := by decide +kernel
theorem dX1_setGone_56 : decode cX1_setGone 56 = .ok (.invokestatic 27, 3) := by decide +kernel
theorem dX1_setGone_59 : decode cX1_setGone 59 = .ok (.aload_n 0, 1) := by decide +kernel
theorem dX1_setGone_60 : decode cX1_setGone 60 = .ok (.getfield 15, 3) := by decide +kernel
theorem dX1_setGone_63 : decode cX1_setGone 63 = .ok (.lconst 1, 1) := by decide +kernel
theorem dX1_setGone_64 : decode cX1_setGone 64 = .ok (.invokestatic 27, 3) := by decide +kernel
theorem dX1_setGone_67 : decode cX1_setGone 67 = .ok (.bipush 20, 2) := by decide +kernel
theorem dX1_setGone_69 : decode cX1_setGone 69 = .ok (.iload_n 2, 1) := by decide +kernel
theorem dX1_setGone_70 : decode cX1_setGone 70 = .ok (.isub, 1) := by decide +kernel
theorem dX1_setGone_71 : decode cX1_setGone 71 = .ok (.istore 4, 2) := by decide +kernel
theorem dX1_setGone_73 : decode cX1_setGone 73 = .ok (.iconst 0, 1) := by decide +kernel
theorem dX1_setGone_74 : decode cX1_setGone 74 = .ok (.istore 5, 2) := by decide +kernel
theorem dX1_setGone_76 : decode cX1_setGone 76 = .ok (.iload 5, 2) := by decide +kernel
theorem dX1_setGone_78 : decode cX1_setGone 78 = .ok (.iload_n 3, 1) := by decide +kernel
theorem dX1_setGone_79 : decode cX1_setGone 79 = .ok (.if_icmp .ge 79, 3) := by decide +kernel
theorem dX1_setGone_82 : decode cX1_setGone 82 = .ok (.aload_n 0, 1) := by decide +kernel
theorem dX1_setGone_83 : decode cX1_setGone 83 = .ok (.getfield 11, 3) := by decide +kernel
theorem dX1_setGone_86 : decode cX1_setGone 86 = .ok (.bipush 20, 2) := by decide +kernel
theorem dX1_setGone_88 : decode cX1_setGone 88 = .ok (.aload_n 0, 1) := by decide +kernel
theorem dX1_setGone_89 : decode cX1_setGone 89 = .ok (.getfield 24, 3) := by decide +kernel
theorem dX1_setGone_92 : decode cX1_setGone 92 = .ok (.iload_n 2, 1) := by decide +kernel
theorem dX1_setGone_93 : decode cX1_setGone 93 = .ok (.invokestatic 37, 3) := by decide +kernel
theorem dX1_setGone_96 : decode cX1_setGone 96 = .ok (.aload_n 0, 1) := by decide +kernel
theorem dX1_setGone_97 : decode cX1_setGone 97 = .ok (.getfield 24, 3) := by decide +kernel
theorem dX1_setGone_100 : decode cX1_setGone 100 = .ok (.iload 4, 2) := by decide +kernel
theorem dX1_setGone_102 : decode cX1_setGone 102 = .ok (.aload_n 0, 1) := by decide +kernel
theorem dX1_setGone_103 : decode cX1_setGone 103 = .ok (.getfield 21, 3) := by decide +kernel
theorem dX1_setGone_106 : decode cX1_setGone 106 = .ok (.iload_n 2, 1) := by decide +kernel
theorem dX1_setGone_107 : decode cX1_setGone 107 = .ok (.invokestatic 37, 3) := by decide +kernel
theorem dX1_setGone_110 : decode cX1_setGone 110 = .ok (.aload_n 0, 1) := by decide +kernel
theorem dX1_setGone_111 : decode cX1_setGone 111 = .ok (.getfield 21, 3) := by decide +kernel
theorem dX1_setGone_114 : decode cX1_setGone 114 = .ok (.iload 4, 2) := by decide +kernel
theorem dX1_setGone_116 : decode cX1_setGone 116 = .ok (.aload_n 0, 1) := by decide +kernel
theorem dX1_setGone_117 : decode cX1_setGone 117 = .ok (.getfield 18, 3) := by decide +kernel
theorem dX1_setGone_120 : decode cX1_setGone 120 = .ok (.iload_n 2, 1) := by decide +kernel
theorem dX1_setGone_121 : decode cX1_setGone 121 = .ok (.invokestatic 37, 3) := by decide +kernel
theorem dX1_setGone_124 : decode cX1_setGone 124 = .ok (.aload_n 0, 1) := by decide +kernel
theorem dX1_setGone_125 : decode cX1_setGone 125 = .ok (.getfield 18, 3) := by decide +kernel
theorem dX1_setGone_128 : decode cX1_setGone 128 = .ok (.iload 4, 2) := by decide +kernel
theorem dX1_setGone_130 : decode cX1_setGone 130 = .ok (.aload_n 0, 1) := by decide +kernel
theorem dX1_setGone_131 : decode cX1_setGone 131 = .ok (.getfield 18, 3) := by decide +kernel
theorem dX1_setGone_134 : decode cX1_setGone 134 = .ok (.iconst 0, 1) := by decide +kernel
theorem dX1_setGone_135 : decode cX1_setGone 135 = .ok (.invokestatic 37, 3) := by decide +kernel
theorem dX1_setGone_138 : decode cX1_setGone 138 = .ok (.aload_n 0, 1) := by decide +kernel
theorem dX1_setGone_139 : decode cX1_setGone 139 = .ok (.getfield 15, 3) := by decide +kernel
theorem dX1_setGone_142 : decode cX1_setGone 142 = .ok (.bipush 20, 2) := by decide +kernel
theorem dX1_setGone_144 : decode cX1_setGone 144 = .ok (.aload_n 0, 1) := by decide +kernel
theorem dX1_setGone_145 : decode cX1_setGone 145 = .ok (.getfield 15, 3) := by decide +kernel
theorem dX1_setGone_148 : decode cX1_setGone 148 = .ok (.iconst 0, 1) := by decide +kernel
theorem dX1_setGone_149 : decode cX1_setGone 149 = .ok (.invokestatic 37, 3) := by decide +kernel
theorem dX1_setGone_152 : decode cX1_setGone 152 = .ok (.iinc 5 1, 3) := by decide +kernel
theorem dX1_setGone_155 : decode cX1_setGone 155 = .ok (.goto (-79), 3) := by decide +kernel
theorem dX1_setGone_158 : decode cX1_setGone 158 = .ok (.aload_n 0, 1) := by decide +kernel
theorem dX1_setGone_159 : decode cX1_setGone 159 = .ok (.iconst 2, 1) := by decide +kernel
theorem dX1_setGone_160 : decode cX1_setGone 160 = .ok (.iconst 2, 1) := by decide +kernel
theorem dX1_setGone_161 : decode cX1_setGone 161 = .ok (.iload_n 3, 1) := by decide +kernel
theorem dX1_setGone_162 : decode cX1_setGone 162 = .ok (.imul, 1) := by decide +kernel
theorem dX1_setGone_163 : decode cX1_setGone 163 = .ok (.invokevirtual 41, 3) := by decide +kernel
theorem dX1_setGone_166 : decode cX1_setGone 166 = .ok (.aload_n 0, 1) := by decide +kernel
theorem dX1_setGone_167 : decode cX1_setGone 167 = .ok (.iconst 5, 1) := by decide +kernel
theorem dX1_setGone_168 : decode cX1_setGone 168 = .ok (.iload_n 3, 1) := by decide +kernel
theorem dX1_setGone_169 : decode cX1_setGone 169 = .ok (.invokevirtual 41, 3) := by decide +kernel
theorem dX1_setGone_172 : decode cX1_setGone 172 = .ok (.return_, 1) := by decide +kernel
theorem dX1_mix_0 : decode cX1_mix 0 = .ok (.lconst 0, 1) := by decide +kernel
theorem dX1_mix_1 : decode cX1_mix 1 = .ok (.lstore 4, 2) := by decide +kernel
theorem dX1_mix_3 : decode cX1_mix 3 = .ok (.iconst 0, 1) := by decide +kernel
theorem dX1_mix_4 : decode cX1_mix 4 = .ok (.istore 6, 2) := by decide +kernel
theorem dX1_mix_6 : decode cX1_mix 6 = .ok (.iload 6, 2) := by decide +kernel
theorem dX1_mix_8 : decode cX1_mix 8 = .ok (.aload_n 0, 1) := by decide +kernel
theorem dX1_mix_9 : decode cX1_mix 9 = .ok (.arraylength, 1) := by decide +kernel
theorem dX1_mix_10 : decode cX1_mix 10 = .ok (.if_icmp .ge 48, 3) := by decide +kernel
theorem dX1_mix_13 : decode cX1_mix 13 = .ok (.aload_n 0, 1) := by decide +kernel
theorem dX1_mix_14 : decode cX1_mix 14 = .ok (.iload 6, 2) := by decide +kernel
theorem dX1_mix_16 : decode cX1_mix 16 = .ok (.laload, 1) := by decide +kernel
theorem dX1_mix_17 : decode cX1_mix 17 = .ok (.iload_n 1, 1) := by decide +kernel
theorem dX1_mix_18 : decode cX1_mix 18 = .ok (.i2l, 1) := by decide +kernel
theorem dX1_mix_19 : decode cX1_mix 19 = .ok (.lmul, 1) := by decide +kernel
theorem dX1_mix_20 : decode cX1_mix 20 = .ok (.aload_n 2, 1) := by decide +kernel
theorem dX1_mix_21 : decode cX1_mix 21 = .ok (.iload 6, 2) := by decide +kernel
theorem dX1_mix_23 : decode cX1_mix 23 = .ok (.invokestatic 45, 3) := by decide +kernel
theorem dX1_mix_26 : decode cX1_mix 26 = .ok (.iload_n 3, 1) := by decide +kernel
theorem dX1_mix_27 : decode cX1_mix 27 = .ok (.i2l, 1) := by decide +kernel
theorem dX1_mix_28 : decode cX1_mix 28 = .ok (.lmul, 1) := by decide +kernel
theorem dX1_mix_29 : decode cX1_mix 29 = .ok (.ladd, 1) := by decide +kernel
theorem dX1_mix_30 : decode cX1_mix 30 = .ok (.lload 4, 2) := by decide +kernel
theorem dX1_mix_32 : decode cX1_mix 32 = .ok (.ladd, 1) := by decide +kernel
theorem dX1_mix_33 : decode cX1_mix 33 = .ok (.lstore 7, 2) := by decide +kernel
theorem dX1_mix_35 : decode cX1_mix 35 = .ok (.aload_n 0, 1) := by decide +kernel
theorem dX1_mix_36 : decode cX1_mix 36 = .ok (.iload 6, 2) := by decide +kernel
theorem dX1_mix_38 : decode cX1_mix 38 = .ok (.lload 7, 2) := by decide +kernel
theorem dX1_mix_40 : decode cX1_mix 40 = .ok (.ldc2_w 35, 3) := by decide +kernel
theorem dX1_mix_43 : decode cX1_mix 43 = .ok (.land, 1) := by decide +kernel
theorem dX1_mix_44 : decode cX1_mix 44 = .ok (.lastore, 1) := by decide +kernel
theorem dX1_mix_45 : decode cX1_mix 45 = .ok (.lload 7, 2) := by decide +kernel
theorem dX1_mix_47 : decode cX1_mix 47 = .ok (.bipush 30, 2) := by decide +kernel
theorem dX1_mix_49 : decode cX1_mix 49 = .ok (.lshr, 1) := by decide +kernel
theorem dX1_mix_50 : decode cX1_mix 50 = .ok (.lstore 4, 2) := by decide +kernel
theorem dX1_mix_52 : decode cX1_mix 52 = .ok (.iinc 6 1, 3) := by decide +kernel
theorem dX1_mix_55 : decode cX1_mix 55 = .ok (.goto (-49), 3) := by decide +kernel
theorem dX1_mix_58 : decode cX1_mix 58 = .ok (.return_, 1) := by decide +kernel
theorem dX1_lower_0 : decode cX1_lower 0 = .ok (.iconst 0, 1) := by decide +kernel
theorem dX1_lower_1 : decode cX1_lower 1 = .ok (.istore_n 3, 1) := by decide +kernel
theorem dX1_lower_2 : decode cX1_lower 2 = .ok (.iload_n 3, 1) := by decide +kernel
theorem dX1_lower_3 : decode cX1_lower 3 = .ok (.iload_n 2, 1) := by decide +kernel
theorem dX1_lower_4 : decode cX1_lower 4 = .ok (.if_icmp .ge 52, 3) := by decide +kernel
theorem dX1_lower_7 : decode cX1_lower 7 = .ok (.aload_n 0, 1) := by decide +kernel
theorem dX1_lower_8 : decode cX1_lower 8 = .ok (.getfield 11, 3) := by decide +kernel
theorem dX1_lower_11 : decode cX1_lower 11 = .ok (.iload_n 1, 1) := by decide +kernel
theorem dX1_lower_12 : decode cX1_lower 12 = .ok (.invokestatic 49, 3) := by decide +kernel
theorem dX1_lower_15 : decode cX1_lower 15 = .ok (.lconst 0, 1) := by decide +kernel
theorem dX1_lower_16 : decode cX1_lower 16 = .ok (.lcmp, 1) := by decide +kernel
theorem dX1_lower_17 : decode cX1_lower 17 = .ok (.ifCond .ne 16, 3) := by decide +kernel
theorem dX1_lower_20 : decode cX1_lower 20 = .ok (.aload_n 0, 1) := by decide +kernel
theorem dX1_lower_21 : decode cX1_lower 21 = .ok (.getfield 15, 3) := by decide +kernel
theorem dX1_lower_24 : decode cX1_lower 24 = .ok (.iload_n 1, 1) := by decide +kernel
theorem dX1_lower_25 : decode cX1_lower 25 = .ok (.invokestatic 49, 3) := by decide +kernel
theorem dX1_lower_28 : decode cX1_lower 28 = .ok (.lconst 0, 1) := by decide +kernel
theorem dX1_lower_29 : decode cX1_lower 29 = .ok (.lcmp, 1) := by decide +kernel
theorem dX1_lower_30 : decode cX1_lower 30 = .ok (.ifCond .eq 4, 3) := by decide +kernel
theorem dX1_lower_33 : decode cX1_lower 33 = .ok (.return_, 1) := by decide +kernel
theorem dX1_lower_34 : decode cX1_lower 34 = .ok (.aload_n 0, 1) := by decide +kernel
theorem dX1_lower_35 : decode cX1_lower 35 = .ok (.getfield 11, 3) := by decide +kernel
theorem dX1_lower_38 : decode cX1_lower 38 = .ok (.iload_n 1, 1) := by decide +kernel
theorem dX1_lower_39 : decode cX1_lower 39 = .ok (.invokestatic 52, 3) := by decide +kernel
theorem dX1_lower_42 : decode cX1_lower 42 = .ok (.aload_n 0, 1) := by decide +kernel
theorem dX1_lower_43 : decode cX1_lower 43 = .ok (.getfield 15, 3) := by decide +kernel
theorem dX1_lower_46 : decode cX1_lower 46 = .ok (.iload_n 1, 1) := by decide +kernel
theorem dX1_lower_47 : decode cX1_lower 47 = .ok (.invokestatic 52, 3) := by decide +kernel
theorem dX1_lower_50 : decode cX1_lower 50 = .ok (.iinc 3 1, 3) := by decide +kernel
theorem dX1_lower_53 : decode cX1_lower 53 = .ok (.goto (-51), 3) := by decide +kernel
theorem dX1_lower_56 : decode cX1_lower 56 = .ok (.return_, 1) := by decide +kernel
theorem dX1_restOf_0 : decode cX1_restOf 0 = .ok (.lconst 0, 1) := by decide +kernel
theorem dX1_restOf_1 : decode cX1_restOf 1 = .ok (.lstore_n 2, 1) := by decide +kernel
theorem dX1_restOf_2 : decode cX1_restOf 2 = .ok (.aload_n 0, 1) := by decide +kernel
theorem dX1_restOf_3 : decode cX1_restOf 3 = .ok (.arraylength, 1) := by decide +kernel
theorem dX1_restOf_4 : decode cX1_restOf 4 = .ok (.iconst 1, 1) := by decide +kernel
theorem dX1_restOf_5 : decode cX1_restOf 5 = .ok (.isub, 1) := by decide +kernel
theorem dX1_restOf_6 : decode cX1_restOf 6 = .ok (.istore 4, 2) := by decide +kernel
theorem dX1_restOf_8 : decode cX1_restOf 8 = .ok (.iload 4, 2) := by decide +kernel
theorem dX1_restOf_10 : decode cX1_restOf 10 = .ok (.ifCond .lt 28, 3) := by decide +kernel
theorem dX1_restOf_13 : decode cX1_restOf 13 = .ok (.iload_n 1, 1) := by decide +kernel
theorem dX1_restOf_14 : decode cX1_restOf 14 = .ok (.ifCond .le 24, 3) := by decide +kernel
theorem dX1_restOf_17 : decode cX1_restOf 17 = .ok (.lload_n 2, 1) := by decide +kernel
theorem dX1_restOf_18 : decode cX1_restOf 18 = .ok (.bipush 30, 2) := by decide +kernel
theorem dX1_restOf_20 : decode cX1_restOf 20 = .ok (.lshl, 1) := by decide +kernel
theorem dX1_restOf_21 : decode cX1_restOf 21 = .ok (.aload_n 0, 1) := by decide +kernel
theorem dX1_restOf_22 : decode cX1_restOf 22 = .ok (.iload 4, 2) := by decide +kernel
theorem dX1_restOf_24 : decode cX1_restOf 24 = .ok (.invokestatic 45, 3) := by decide +kernel
theorem dX1_restOf_27 : decode cX1_restOf 27 = .ok (.ladd, 1) := by decide +kernel
theorem dX1_restOf_28 : decode cX1_restOf 28 = .ok (.iload_n 1, 1) := by decide +kernel
theorem dX1_restOf_29 : decode cX1_restOf 29 = .ok (.i2l, 1) := by decide +kernel
theorem dX1_restOf_30 : decode cX1_restOf 30 = .ok (.lrem, 1) := by decide +kernel
theorem dX1_restOf_31 : decode cX1_restOf 31 = .ok (.lstore_n 2, 1) := by decide +kernel
theorem dX1_restOf_32 : decode cX1_restOf 32 = .ok (.iinc 4 (-1), 3) := by decide +kernel
theorem dX1_restOf_35 : decode cX1_restOf 35 = .ok (.goto (-27), 3) := by decide +kernel
theorem dX1_restOf_38 : decode cX1_restOf 38 = .ok (.lload_n 2, 1) := by decide +kernel
theorem dX1_restOf_39 : decode cX1_restOf 39 = .ok (.lreturn, 1) := by decide +kernel
theorem dX1_divide_0 : decode cX1_divide 0 = .ok (.lconst 0, 1) := by decide +kernel
theorem dX1_divide_1 : decode cX1_divide 1 = .ok (.lstore_n 2, 1) := by decide +kernel
theorem dX1_divide_2 : decode cX1_divide 2 = .ok (.aload_n 0, 1) := by decide +kernel
theorem dX1_divide_3 : decode cX1_divide 3 = .ok (.arraylength, 1) := by decide +kernel
theorem dX1_divide_4 : decode cX1_divide 4 = .ok (.iconst 1, 1) := by decide +kernel
theorem dX1_divide_5 : decode cX1_divide 5 = .ok (.isub, 1) := by decide +kernel
theorem dX1_divide_6 : decode cX1_divide 6 = .ok (.istore 4, 2) := by decide +kernel
theorem dX1_divide_8 : decode cX1_divide 8 = .ok (.iload 4, 2) := by decide +kernel
theorem dX1_divide_10 : decode cX1_divide 10 = .ok (.ifCond .lt 43, 3) := by decide +kernel
theorem dX1_divide_13 : decode cX1_divide 13 = .ok (.iload_n 1, 1) := by decide +kernel
theorem dX1_divide_14 : decode cX1_divide 14 = .ok (.ifCond .le 39, 3) := by decide +kernel
theorem dX1_divide_17 : decode cX1_divide 17 = .ok (.lload_n 2, 1) := by decide +kernel
theorem dX1_divide_18 : decode cX1_divide 18 = .ok (.bipush 30, 2) := by decide +kernel
theorem dX1_divide_20 : decode cX1_divide 20 = .ok (.lshl, 1) := by decide +kernel
theorem dX1_divide_21 : decode cX1_divide 21 = .ok (.aload_n 0, 1) := by decide +kernel
theorem dX1_divide_22 : decode cX1_divide 22 = .ok (.iload 4, 2) := by decide +kernel
theorem dX1_divide_24 : decode cX1_divide 24 = .ok (.invokestatic 45, 3) := by decide +kernel
theorem dX1_divide_27 : decode cX1_divide 27 = .ok (.ladd, 1) := by decide +kernel
theorem dX1_divide_28 : decode cX1_divide 28 = .ok (.lstore 5, 2) := by decide +kernel
theorem dX1_divide_30 : decode cX1_divide 30 = .ok (.aload_n 0, 1) := by decide +kernel
theorem dX1_divide_31 : decode cX1_divide 31 = .ok (.iload 4, 2) := by decide +kernel
theorem dX1_divide_33 : decode cX1_divide 33 = .ok (.lload 5, 2) := by decide +kernel
theorem dX1_divide_35 : decode cX1_divide 35 = .ok (.iload_n 1, 1) := by decide +kernel
theorem dX1_divide_36 : decode cX1_divide 36 = .ok (.i2l, 1) := by decide +kernel
theorem dX1_divide_37 : decode cX1_divide 37 = .ok (.ldiv, 1) := by decide +kernel
theorem dX1_divide_38 : decode cX1_divide 38 = .ok (.invokestatic 56, 3) := by decide +kernel
theorem dX1_divide_41 : decode cX1_divide 41 = .ok (.lload 5, 2) := by decide +kernel
theorem dX1_divide_43 : decode cX1_divide 43 = .ok (.iload_n 1, 1) := by decide +kernel
theorem dX1_divide_44 : decode cX1_divide 44 = .ok (.i2l, 1) := by decide +kernel
theorem dX1_divide_45 : decode cX1_divide 45 = .ok (.lrem, 1) := by decide +kernel
theorem dX1_divide_46 : decode cX1_divide 46 = .ok (.lstore_n 2, 1) := by decide +kernel
theorem dX1_divide_47 : decode cX1_divide 47 = .ok (.iinc 4 (-1), 3) := by decide +kernel
theorem dX1_divide_50 : decode cX1_divide 50 = .ok (.goto (-42), 3) := by decide +kernel
theorem dX1_divide_53 : decode cX1_divide 53 = .ok (.return_, 1) := by decide +kernel
theorem dX1_limbsOf_0 : decode cX1_limbsOf 0 = .ok (.aload_n 0, 1) := by decide +kernel
theorem dX1_limbsOf_1 : decode cX1_limbsOf 1 = .ok (.arraylength, 1) := by decide +kernel
theorem dX1_limbsOf_2 : decode cX1_limbsOf 2 = .ok (.istore_n 1, 1) := by decide +kernel
theorem dX1_limbsOf_3 : decode cX1_limbsOf 3 = .ok (.iload_n 1, 1) := by decide +kernel
theorem dX1_limbsOf_4 : decode cX1_limbsOf 4 = .ok (.ifCond .le 21, 3) := by decide +kernel
theorem dX1_limbsOf_7 : decode cX1_limbsOf 7 = .ok (.aload_n 0, 1) := by decide +kernel
theorem dX1_limbsOf_8 : decode cX1_limbsOf 8 = .ok (.iload_n 1, 1) := by decide +kernel
theorem dX1_limbsOf_9 : decode cX1_limbsOf 9 = .ok (.iconst 1, 1) := by decide +kernel
theorem dX1_limbsOf_10 : decode cX1_limbsOf 10 = .ok (.isub, 1) := by decide +kernel
theorem dX1_limbsOf_11 : decode cX1_limbsOf 11 = .ok (.invokestatic 45, 3) := by decide +kernel
theorem dX1_limbsOf_14 : decode cX1_limbsOf 14 = .ok (.lconst 0, 1) := by decide +kernel
theorem dX1_limbsOf_15 : decode cX1_limbsOf 15 = .ok (.lcmp, 1) := by decide +kernel
theorem dX1_limbsOf_16 : decode cX1_limbsOf 16 = .ok (.ifCond .ne 9, 3) := by decide +kernel
theorem dX1_limbsOf_19 : decode cX1_limbsOf 19 = .ok (.iinc 1 (-1), 3) := by decide +kernel
theorem dX1_limbsOf_22 : decode cX1_limbsOf 22 = .ok (.goto (-19), 3) := by decide +kernel
theorem dX1_limbsOf_25 : decode cX1_limbsOf 25 = .ok (.iload_n 1, 1) := by decide +kernel
theorem dX1_limbsOf_26 : decode cX1_limbsOf 26 = .ok (.ireturn, 1) := by decide +kernel
theorem dX1_limbOf_0 : decode cX1_limbOf 0 = .ok (.iload_n 1, 1) := by decide +kernel
theorem dX1_limbOf_1 : decode cX1_limbOf 1 = .ok (.ifCond .ne 10, 3) := by decide +kernel
theorem dX1_limbOf_4 : decode cX1_limbOf 4 = .ok (.aload_n 0, 1) := by decide +kernel
theorem dX1_limbOf_5 : decode cX1_limbOf 5 = .ok (.getfield 11, 3) := by decide +kernel
theorem dX1_limbOf_8 : decode cX1_limbOf 8 = .ok (.goto 7, 3) := by decide +kernel
theorem dX1_limbOf_11 : decode cX1_limbOf 11 = .ok (.aload_n 0, 1) := by decide +kernel
theorem dX1_limbOf_12 : decode cX1_limbOf 12 = .ok (.getfield 15, 3) := by decide +kernel
theorem dX1_limbOf_15 : decode cX1_limbOf 15 = .ok (.iload_n 2, 1) := by decide +kernel
theorem dX1_limbOf_16 : decode cX1_limbOf 16 = .ok (.invokestatic 45, 3) := by decide +kernel
theorem dX1_limbOf_19 : decode cX1_limbOf 19 = .ok (.l2i, 1) := by decide +kernel
theorem dX1_limbOf_20 : decode cX1_limbOf 20 = .ok (.ireturn, 1) := by decide +kernel
theorem dX2_init_0 : decode cX2_init 0 = .ok (.aload_n 0, 1) := by decide +kernel
theorem dX2_init_1 : decode cX2_init 1 = .ok (.invokespecial 3, 3) := by decide +kernel
theorem dX2_init_4 : decode cX2_init 4 = .ok (.aload_n 0, 1) := by decide +kernel
theorem dX2_init_5 : decode cX2_init 5 = .ok (.bipush 21, 2) := by decide +kernel
theorem dX2_init_7 : decode cX2_init 7 = .ok (.newarray .int, 2) := by decide +kernel
theorem dX2_init_9 : decode cX2_init 9 = .ok (.putfield 9, 3) := by decide +kernel
theorem dX2_init_12 : decode cX2_init 12 = .ok (.aload_n 0, 1) := by decide +kernel
theorem dX2_init_13 : decode cX2_init 13 = .ok (.sipush 2731, 3) := by decide +kernel
theorem dX2_init_16 : decode cX2_init 16 = .ok (.newarray .long, 2) := by decide +kernel
theorem dX2_init_18 : decode cX2_init 18 = .ok (.putfield 15, 3) := by decide +kernel
theorem dX2_init_21 : decode cX2_init 21 = .ok (.aload_n 0, 1) := by decide +kernel
theorem dX2_init_22 : decode cX2_init 22 = .ok (.sipush 2731, 3) := by decide +kernel
theorem dX2_init_25 : decode cX2_init 25 = .ok (.newarray .int, 2) := by decide +kernel
theorem dX2_init_27 : decode cX2_init 27 = .ok (.putfield 19, 3) := by decide +kernel
theorem dX2_init_30 : decode cX2_init 30 = .ok (.return_, 1) := by decide +kernel
theorem dX2_begin_0 : decode cX2_begin 0 = .ok (.iconst 0, 1) := by decide +kernel
theorem dX2_begin_1 : decode cX2_begin 1 = .ok (.istore_n 3, 1) := by decide +kernel
theorem dX2_begin_2 : decode cX2_begin 2 = .ok (.iload_n 3, 1) := by decide +kernel
theorem dX2_begin_3 : decode cX2_begin 3 = .ok (.aload_n 0, 1) := by decide +kernel
theorem dX2_begin_4 : decode cX2_begin 4 = .ok (.getfield 9, 3) := by decide +kernel
theorem dX2_begin_7 : decode cX2_begin 7 = .ok (.arraylength, 1) := by decide +kernel
theorem dX2_begin_8 : decode cX2_begin 8 = .ok (.if_icmp .ge 28, 3) := by decide +kernel
theorem dX2_begin_11 : decode cX2_begin 11 = .ok (.aload_n 0, 1) := by decide +kernel
theorem dX2_begin_12 : decode cX2_begin 12 = .ok (.getfield 9, 3) := by decide +kernel
theorem dX2_begin_15 : decode cX2_begin 15 = .ok (.iload_n 3, 1) := by decide +kernel
theorem dX2_begin_16 : decode cX2_begin 16 = .ok (.aload_n 2, 1) := by decide +kernel
theorem dX2_begin_17 : decode cX2_begin 17 = .ok (.iload_n 3, 1) := by decide +kernel
theorem dX2_begin_18 : decode cX2_begin 18 = .ok (.iconst 3, 1) := by decide +kernel
theorem dX2_begin_19 : decode cX2_begin 19 = .ok (.idiv, 1) := by decide +kernel
theorem dX2_begin_20 : decode cX2_begin 20 = .ok (.invokestatic 22, 3) := by decide +kernel
theorem dX2_begin_23 : decode cX2_begin 23 = .ok (.iconst 3, 1) := by decide +kernel
theorem dX2_begin_24 : decode cX2_begin 24 = .ok (.iload_n 3, 1) := by decide +kernel
theorem dX2_begin_25 : decode cX2_begin 25 = .ok (.iconst 3, 1) := by decide +kernel
theorem dX2_begin_26 : decode cX2_begin 26 = .ok (.irem, 1) := by decide +kernel
theorem dX2_begin_27 : decode cX2_begin 27 = .ok (.isub, 1) := by decide +kernel
theorem dX2_begin_28 : decode cX2_begin 28 = .ok (.imul, 1) := by decide +kernel
theorem dX2_begin_29 : decode cX2_begin 29 = .ok (.iastore, 1) := by decide +kernel
theorem dX2_begin_30 : decode cX2_begin 30 = .ok (.iinc 3 1, 3) := by decide +kernel
theorem dX2_begin_33 : decode cX2_begin 33 = .ok (.goto (-31), 3) := by decide +kernel
theorem dX2_begin_36 : decode cX2_begin 36 = .ok (.aload_n 0, 1) := by decide +kernel
theorem dX2_begin_37 : decode cX2_begin 37 = .ok (.getfield 15, 3) := by decide +kernel
theorem dX2_begin_40 : decode cX2_begin 40 = .ok (.iconst 0, 1) := by decide +kernel
theorem dX2_begin_41 : decode cX2_begin 41 = .ok (.iload_n 1, 1) := by decide +kernel
theorem dX2_begin_42 : decode cX2_begin 42 = .ok (.i2l, 1) := by decide +kernel
theorem dX2_begin_43 : decode cX2_begin 43 = .ok (.invokestatic 26, 3) := by decide +kernel
theorem dX2_begin_46 : decode cX2_begin 46 = .ok (.iconst 1, 1) := by decide +kernel
theorem dX2_begin_47 : decode cX2_begin 47 = .ok (.istore_n 3, 1) := by decide +kernel
theorem dX2_begin_48 : decode cX2_begin 48 = .ok (.iload_n 3, 1) := by decide +kernel
theorem dX2_begin_49 : decode cX2_begin 49 = .ok (.aload_n 0, 1) := by decide +kernel
theorem dX2_begin_50 : decode cX2_begin 50 = .ok (.getfield 15, 3) := by decide +kernel
theorem dX2_begin_53 : decode cX2_begin 53 = .ok (.arraylength, 1) := by decide +kernel
theorem dX2_begin_54 : decode cX2_begin 54 = .ok (.if_icmp .ge 83, 3) := by decide +kernel
theorem dX2_begin_57 : decode cX2_begin 57 = .ok (.iload_n 3, 1) := by decide +kernel
theorem dX2_begin_58 : decode cX2_begin 58 = .ok (.bipush 85, 2) := by decide +kernel
theorem dX2_begin_60 : decode cX2_begin 60 = .ok (.if_icmp .ge 29, 3) := by decide +kernel
theorem dX2_begin_63 : decode cX2_begin 63 = .ok (.aload_n 0, 1) := by decide +kernel
theorem dX2_begin_64 : decode cX2_begin 64 = .ok (.getfield 15, 3) := by decide +kernel
theorem dX2_begin_67 : decode cX2_begin 67 = .ok (.iload_n 3, 1) := by decide +kernel
theorem dX2_begin_68 : decode cX2_begin 68 = .ok (.bipush 9, 2) := by decide +kernel
theorem dX2_begin_70 : decode cX2_begin 70 = .ok (.aload_n 0, 1) := by decide +kernel
theorem dX2_begin_71 : decode cX2_begin 71 = .ok (.getfield 9, 3) := by decide +kernel
theorem dX2_begin_74 : decode cX2_begin 74 = .ok (.iload_n 3, 1) := by decide +kernel
theorem dX2_begin_75 : decode cX2_begin 75 = .ok (.iconst 1, 1) := by decide +kernel
theorem dX2_begin_76 : decode cX2_begin 76 = .ok (.isub, 1) := by decide +kernel
theorem dX2_begin_77 : decode cX2_begin 77 = .ok (.bipush 21, 2) := by decide +kernel
theorem dX2_begin_79 : decode cX2_begin 79 = .ok (.irem, 1) := by decide +kernel
theorem dX2_begin_80 : decode cX2_begin 80 = .ok (.invokestatic 22, 3) := by decide +kernel
theorem dX2_begin_83 : decode cX2_begin 83 = .ok (.imul, 1) := by decide +kernel
theorem dX2_begin_84 : decode cX2_begin 84 = .ok (.i2l, 1) := by decide +kernel
theorem dX2_begin_85 : decode cX2_begin 85 = .ok (.lastore, 1) := by decide +kernel
theorem dX2_begin_86 : decode cX2_begin 86 = .ok (.goto 45, 3) := by decide +kernel
theorem dX2_begin_89 : decode cX2_begin 89 = .ok (.iload_n 3, 1) := by decide +kernel
theorem dX2_begin_90 : decode cX2_begin 90 = .ok (.bipush 85, 2) := by decide +kernel
theorem dX2_begin_92 : decode cX2_begin 92 = .ok (.isub, 1) := by decide +kernel
theorem dX2_begin_93 : decode cX2_begin 93 = .ok (.sipush 441, 3) := by decide +kernel
theorem dX2_begin_96 : decode cX2_begin 96 = .ok (.irem, 1) := by decide +kernel
theorem dX2_begin_97 : decode cX2_begin 97 = .ok (.istore 4, 2) := by decide +kernel
theorem dX2_begin_99 : decode cX2_begin 99 = .ok (.aload_n 0, 1) := by decide +kernel
theorem dX2_begin_100 : decode cX2_begin 100 = .ok (.getfield 15, 3) := by decide +kernel
theorem dX2_begin_103 : decode cX2_begin 103 = .ok (.iload_n 3, 1) := by decide +kernel
theorem dX2_begin_104 : decode cX2_begin 104 = .ok (.aload_n 0, 1) := by decide +kernel
theorem dX2_begin_105 : decode cX2_begin 105 = .ok (.getfield 9, 3) := by decide +kernel
theorem dX2_begin_108 : decode cX2_begin 108 = .ok (.iload 4, 2) := by decide +kernel
theorem dX2_begin_110 : decode cX2_begin 110 = .ok (.bipush 21, 2) := by decide +kernel
theorem dX2_begin_112 : decode cX2_begin 112 = .ok (.idiv, 1) := by decide +kernel
theorem dX2_begin_113 : decode cX2_begin 113 = .ok (.invokestatic 22, 3) := by decide +kernel
theorem dX2_begin_116 : decode cX2_begin 116 = .ok (.aload_n 0, 1) := by decide +kernel
theorem dX2_begin_117 : decode cX2_begin 117 = .ok (.getfield 9, 3) := by decide +kernel
theorem dX2_begin_120 : decode cX2_begin 120 = .ok (.iload 4, 2) := by decide +kernel
theorem dX2_begin_122 : decode cX2_begin 122 = .ok (.bipush 21, 2) := by decide +kernel
theorem dX2_begin_124 : decode cX2_begin 124 = .ok (.irem, 1) := by decide +kernel
theorem dX2_begin_125 : decode cX2_begin 125 = .ok (.invokestatic 22, 3) := by decide +kernel
theorem dX2_begin_128 : decode cX2_begin 128 = .ok (.imul, 1) := by decide +kernel
theorem dX2_begin_129 : decode cX2_begin 129 = .ok (.i2l, 1) := by decide +kernel
theorem dX2_begin_130 : decode cX2_begin 130 = .ok (.lastore, 1) := by decide +kernel
theorem dX2_begin_131 : decode cX2_begin 131 = .ok (.iinc 3 1, 3) := by decide +kernel
theorem dX2_begin_134 : decode cX2_begin 134 = .ok (.goto (-86), 3) := by decide +kernel
theorem dX2_begin_137 : decode cX2_begin 137 = .ok (.return_, 1) := by decide +kernel
theorem dX2_addUp_0 : decode cX2_addUp 0 = .ok (.aload_n 0, 1) := by decide +kernel
theorem dX2_addUp_1 : decode cX2_addUp 1 = .ok (.getfield 19, 3) := by decide +kernel
theorem dX2_addUp_4 : decode cX2_addUp 4 = .ok (.iconst 0, 1) := by decide +kernel
theorem dX2_addUp_5 : decode cX2_addUp 5 = .ok (.iconst 0, 1) := by decide +kernel
theorem dX2_addUp_6 : decode cX2_addUp 6 = .ok (.invokestatic 30, 3) := by decide +kernel
theorem dX2_addUp_9 : decode cX2_addUp 9 = .ok (.iconst 0, 1) := by decide +kernel
theorem dX2_addUp_10 : decode cX2_addUp 10 = .ok (.istore_n 2, 1) := by decide +kernel
theorem dX2_addUp_11 : decode cX2_addUp 11 = .ok (.iload_n 2, 1) := by decide +kernel
theorem dX2_addUp_12 : decode cX2_addUp 12 = .ok (.iconst 4, 1) := by decide +kernel
theorem dX2_addUp_13 : decode cX2_addUp 13 = .ok (.if_icmp .ge 56, 3) := by decide +kernel
theorem dX2_addUp_16 : decode cX2_addUp 16 = .ok (.iconst 0, 1) := by decide +kernel
theorem dX2_addUp_17 : decode cX2_addUp 17 = .ok (.istore_n 3, 1) := by decide +kernel
theorem dX2_addUp_18 : decode cX2_addUp 18 = .ok (.iload_n 3, 1) := by decide +kernel
theorem dX2_addUp_19 : decode cX2_addUp 19 = .ok (.aload_n 0, 1) := by decide +kernel
theorem dX2_addUp_20 : decode cX2_addUp 20 = .ok (.getfield 9, 3) := by decide +kernel
theorem dX2_addUp_23 : decode cX2_addUp 23 = .ok (.arraylength, 1) := by decide +kernel
theorem dX2_addUp_24 : decode cX2_addUp 24 = .ok (.if_icmp .ge 39, 3) := by decide +kernel
theorem dX2_addUp_27 : decode cX2_addUp 27 = .ok (.aload_n 0, 1) := by decide +kernel
theorem dX2_addUp_28 : decode cX2_addUp 28 = .ok (.getfield 19, 3) := by decide +kernel
theorem dX2_addUp_31 : decode cX2_addUp 31 = .ok (.iconst 1, 1) := by decide +kernel
theorem dX2_addUp_32 : decode cX2_addUp 32 = .ok (.iload_n 2, 1) := by decide +kernel
theorem dX2_addUp_33 : decode cX2_addUp 33 = .ok (.bipush 21, 2) := by decide +kernel
theorem dX2_addUp_35 : decode cX2_addUp 35 = .ok (.imul, 1) := by decide +kernel
theorem dX2_addUp_36 : decode cX2_addUp 36 = .ok (.iadd, 1) := by decide +kernel
theorem dX2_addUp_37 : decode cX2_addUp 37 = .ok (.iload_n 3, 1) := by decide +kernel
theorem dX2_addUp_38 : decode cX2_addUp 38 = .ok (.iadd, 1) := by decide +kernel
theorem dX2_addUp_39 : decode cX2_addUp 39 = .ok (.iload_n 2, 1) := by decide +kernel
theorem dX2_addUp_40 : decode cX2_addUp 40 = .ok (.iload_n 1, 1) := by decide +kernel
theorem dX2_addUp_41 : decode cX2_addUp 41 = .ok (.if_icmp .ne 7, 3) := by decide +kernel
theorem dX2_addUp_44 : decode cX2_addUp 44 = .ok (.iconst 0, 1) := by decide +kernel
theorem dX2_addUp_45 : decode cX2_addUp 45 = .ok (.goto 9, 3) := by decide +kernel
theorem dX2_addUp_48 : decode cX2_addUp 48 = .ok (.aload_n 0, 1) := by decide +kernel
theorem dX2_addUp_49 : decode cX2_addUp 49 = .ok (.getfield 9, 3) := by decide +kernel
theorem dX2_addUp_52 : decode cX2_addUp 52 = .ok (.iload_n 3, 1) := by decide +kernel
theorem dX2_addUp_53 : decode cX2_addUp 53 = .ok (.iaload, 1) := by decide +kernel
theorem dX2_addUp_54 : decode cX2_addUp 54 = .ok (.invokestatic 30, 3) := by decide +kernel
theorem dX2_addUp_57 : decode cX2_addUp 57 = .ok (.iinc 3 1, 3) := by decide +kernel
theorem dX2_addUp_60 : decode cX2_addUp 60 = .ok (.goto (-42), 3) := by decide +kernel
theorem dX2_addUp_63 : decode cX2_addUp 63 = .ok (.iinc 2 1, 3) := by decide +kernel
theorem dX2_addUp_66 : decode cX2_addUp 66 = .ok (.goto (-55), 3) := by decide +kernel
theorem dX2_addUp_69 : decode cX2_addUp 69 = .ok (.iconst 0, 1) := by decide +kernel
theorem dX2_addUp_70 : decode cX2_addUp 70 = .ok (.istore_n 2, 1) := by decide +kernel
theorem dX2_addUp_71 : decode cX2_addUp 71 = .ok (.iconst 0, 1) := by decide +kernel
theorem dX2_addUp_72 : decode cX2_addUp 72 = .ok (.istore_n 3, 1) := by decide +kernel
theorem dX2_addUp_73 : decode cX2_addUp 73 = .ok (.iload_n 3, 1) := by decide +kernel
theorem dX2_addUp_74 : decode cX2_addUp 74 = .ok (.iconst 4, 1) := by decide +kernel
theorem dX2_addUp_75 : decode cX2_addUp 75 = .ok (.if_icmp .ge 62, 3) := by decide +kernel
theorem dX2_addUp_78 : decode cX2_addUp 78 = .ok (.iload_n 3, 1) := by decide +kernel
theorem dX2_addUp_79 : decode cX2_addUp 79 = .ok (.iconst 1, 1) := by decide +kernel
theorem dX2_addUp_80 : decode cX2_addUp 80 = .ok (.iadd, 1) := by decide +kernel
theorem dX2_addUp_81 : decode cX2_addUp 81 = .ok (.istore 4, 2) := by decide +kernel
theorem dX2_addUp_83 : decode cX2_addUp 83 = .ok (.iload 4, 2) := by decide +kernel
theorem dX2_addUp_85 : decode cX2_addUp 85 = .ok (.iconst 4, 1) := by decide +kernel
theorem dX2_addUp_86 : decode cX2_addUp 86 = .ok (.if_icmp .ge 45, 3) := by decide +kernel
theorem dX2_addUp_89 : decode cX2_addUp 89 = .ok (.aload_n 0, 1) := by decide +kernel
theorem dX2_addUp_90 : decode cX2_addUp 90 = .ok (.bipush 85, 2) := by decide +kernel
theorem dX2_addUp_92 : decode cX2_addUp 92 = .ok (.iload_n 2, 1) := by decide +kernel
theorem dX2_addUp_93 : decode cX2_addUp 93 = .ok (.sipush 441, 3) := by decide +kernel
theorem dX2_addUp_96 : decode cX2_addUp 96 = .ok (.imul, 1) := by decide +kernel
theorem dX2_addUp_97 : decode cX2_addUp 97 = .ok (.iadd, 1) := by decide +kernel
theorem dX2_addUp_98 : decode cX2_addUp 98 = .ok (.iload_n 3, 1) := by decide +kernel
theorem dX2_addUp_99 : decode cX2_addUp 99 = .ok (.iload_n 1, 1) := by decide +kernel
theorem dX2_addUp_100 : decode cX2_addUp 100 = .ok (.if_icmp .ne 7, 3) := by decide +kernel
theorem dX2_addUp_103 : decode cX2_addUp 103 = .ok (.iconst 1, 1) := by decide +kernel
theorem dX2_addUp_104 : decode cX2_addUp 104 = .ok (.goto 4, 3) := by decide +kernel
theorem dX2_addUp_107 : decode cX2_addUp 107 = .ok (.iconst 0, 1) := by decide +kernel
theorem dX2_addUp_108 : decode cX2_addUp 108 = .ok (.iload 4, 2) := by decide +kernel
theorem dX2_addUp_110 : decode cX2_addUp 110 = .ok (.iload_n 1, 1) := by decide +kernel
theorem dX2_addUp_111 : decode cX2_addUp 111 = .ok (.if_icmp .ne 7, 3) := by decide +kernel
theorem dX2_addUp_114 : decode cX2_addUp 114 = .ok (.iconst 1, 1) := by decide +kernel
theorem dX2_addUp_115 : decode cX2_addUp 115 = .ok (.goto 4, 3) := by decide +kernel
theorem dX2_addUp_118 : decode cX2_addUp 118 = .ok (.iconst 0, 1) := by decide +kernel
theorem dX2_addUp_119 : decode cX2_addUp 119 = .ok (.invokevirtual 33, 3) := by decide +kernel
theorem dX2_addUp_122 : decode cX2_addUp 122 = .ok (.iinc 2 1, 3) := by decide +kernel
theorem dX2_addUp_125 : decode cX2_addUp 125 = .ok (.iinc 4 1, 3) := by decide +kernel
theorem dX2_addUp_128 : decode cX2_addUp 128 = .ok (.goto (-45), 3) := by decide +kernel
theorem dX2_addUp_131 : decode cX2_addUp 131 = .ok (.iinc 3 1, 3) := by decide +kernel
theorem dX2_addUp_134 : decode cX2_addUp 134 = .ok (.goto (-61), 3) := by decide +kernel
theorem dX2_addUp_137 : decode cX2_addUp 137 = .ok (.return_, 1) := by decide +kernel
theorem dX2_addUpPair_0 : decode cX2_addUpPair 0 = .ok (.iload_n 1, 1) := by decide +kernel
theorem dX2_addUpPair_1 : decode cX2_addUpPair 1 = .ok (.istore 4, 2) := by decide +kernel
theorem dX2_addUpPair_3 : decode cX2_addUpPair 3 = .ok (.aload_n 0, 1) := by decide +kernel
theorem dX2_addUpPair_4 : decode cX2_addUpPair 4 = .ok (.getfield 9, 3) := by decide +kernel
theorem dX2_addUpPair_7 : decode cX2_addUpPair 7 = .ok (.astore 5, 2) := by decide +kernel
theorem dX2_addUpPair_9 : decode cX2_addUpPair 9 = .ok (.aload 5, 2) := by decide +kernel
theorem dX2_addUpPair_11 : decode cX2_addUpPair 11 = .ok (.arraylength, 1) := by decide +kernel
theorem dX2_addUpPair_12 : decode cX2_addUpPair 12 = .ok (.istore 6, 2) := by decide +kernel
theorem dX2_addUpPair_14 : decode cX2_addUpPair 14 = .ok (.iconst 0, 1) := by decide +kernel
theorem dX2_addUpPair_15 : decode cX2_addUpPair 15 = .ok (.istore 7, 2) := by decide +kernel
theorem dX2_addUpPair_17 : decode cX2_addUpPair 17 = .ok (.iload 7, 2) := by decide +kernel
theorem dX2_addUpPair_19 : decode cX2_addUpPair 19 = .ok (.iload 6, 2) := by decide +kernel
theorem dX2_addUpPair_21 : decode cX2_addUpPair 21 = .ok (.if_icmp .ge 83, 3) := by decide +kernel
theorem dX2_addUpPair_24 : decode cX2_addUpPair 24 = .ok (.aload 5, 2) := by decide +kernel
theorem dX2_addUpPair_26 : decode cX2_addUpPair 26 = .ok (.iload 7, 2) := by decide +kernel
theorem dX2_addUpPair_28 : decode cX2_addUpPair 28 = .ok (.iaload, 1) := by decide +kernel
theorem dX2_addUpPair_29 : decode cX2_addUpPair 29 = .ok (.istore 8, 2) := by decide +kernel
theorem dX2_addUpPair_31 : decode cX2_addUpPair 31 = .ok (.aload_n 0, 1) := by decide +kernel
theorem dX2_addUpPair_32 : decode cX2_addUpPair 32 = .ok (.getfield 9, 3) := by decide +kernel
theorem dX2_addUpPair_35 : decode cX2_addUpPair 35 = .ok (.astore 9, 2) := by decide +kernel
theorem dX2_addUpPair_37 : decode cX2_addUpPair 37 = .ok (.aload 9, 2) := by decide +kernel
theorem dX2_addUpPair_39 : decode cX2_addUpPair 39 = .ok (.arraylength, 1) := by decide +kernel
theorem dX2_addUpPair_40 : decode cX2_addUpPair 40 = .ok (.istore 10, 2) := by decide +kernel
theorem dX2_addUpPair_42 : decode cX2_addUpPair 42 = .ok (.iconst 0, 1) := by decide +kernel
theorem dX2_addUpPair_43 : decode cX2_addUpPair 43 = .ok (.istore 11, 2) := by decide +kernel
theorem dX2_addUpPair_45 : decode cX2_addUpPair 45 = .ok (.iload 11, 2) := by decide +kernel
theorem dX2_addUpPair_47 : decode cX2_addUpPair 47 = .ok (.iload 10, 2) := by decide +kernel
theorem dX2_addUpPair_49 : decode cX2_addUpPair 49 = .ok (.if_icmp .ge 49, 3) := by decide +kernel
theorem dX2_addUpPair_52 : decode cX2_addUpPair 52 = .ok (.aload 9, 2) := by decide +kernel
theorem dX2_addUpPair_54 : decode cX2_addUpPair 54 = .ok (.iload 11, 2) := by decide +kernel
theorem dX2_addUpPair_56 : decode cX2_addUpPair 56 = .ok (.iaload, 1) := by decide +kernel
theorem dX2_addUpPair_57 : decode cX2_addUpPair 57 = .ok (.istore 12, 2) := by decide +kernel
theorem dX2_addUpPair_59 : decode cX2_addUpPair 59 = .ok (.aload_n 0, 1) := by decide +kernel
theorem dX2_addUpPair_60 : decode cX2_addUpPair 60 = .ok (.getfield 19, 3) := by decide +kernel
theorem dX2_addUpPair_63 : decode cX2_addUpPair 63 = .ok (.iload 4, 2) := by decide +kernel
theorem dX2_addUpPair_65 : decode cX2_addUpPair 65 = .ok (.iload_n 2, 1) := by decide +kernel
theorem dX2_addUpPair_66 : decode cX2_addUpPair 66 = .ok (.ifCond .eq 7, 3) := by decide +kernel
theorem dX2_addUpPair_69 : decode cX2_addUpPair 69 = .ok (.iconst 0, 1) := by decide +kernel
theorem dX2_addUpPair_70 : decode cX2_addUpPair 70 = .ok (.goto 5, 3) := by decide +kernel
theorem dX2_addUpPair_73 : decode cX2_addUpPair 73 = .ok (.iload 8, 2) := by decide +kernel
theorem dX2_addUpPair_75 : decode cX2_addUpPair 75 = .ok (.iload_n 3, 1) := by decide +kernel
theorem dX2_addUpPair_76 : decode cX2_addUpPair 76 = .ok (.ifCond .eq 7, 3) := by decide +kernel
theorem dX2_addUpPair_79 : decode cX2_addUpPair 79 = .ok (.iconst 0, 1) := by decide +kernel
theorem dX2_addUpPair_80 : decode cX2_addUpPair 80 = .ok (.goto 5, 3) := by decide +kernel
theorem dX2_addUpPair_83 : decode cX2_addUpPair 83 = .ok (.iload 12, 2) := by decide +kernel
theorem dX2_addUpPair_85 : decode cX2_addUpPair 85 = .ok (.iadd, 1) := by decide +kernel
theorem dX2_addUpPair_86 : decode cX2_addUpPair 86 = .ok (.invokestatic 30, 3) := by decide +kernel
theorem dX2_addUpPair_89 : decode cX2_addUpPair 89 = .ok (.iinc 4 1, 3) := by decide +kernel
theorem dX2_addUpPair_92 : decode cX2_addUpPair 92 = .ok (.iinc 11 1, 3) := by decide +kernel
theorem dX2_addUpPair_95 : decode cX2_addUpPair 95 = .ok (.goto (-50), 3) := by decide +kernel
theorem dX2_addUpPair_98 : decode cX2_addUpPair 98 = .ok (.iinc 7 1, 3) := by decide +kernel
theorem dX2_addUpPair_101 : decode cX2_addUpPair 101 = .ok (.goto (-84), 3) := by decide +kernel
theorem dX2_addUpPair_104 : decode cX2_addUpPair 104 = .ok (.return_, 1) := by decide +kernel
theorem dX2_levelOf_0 : decode cX2_levelOf 0 = .ok (.iload_n 0, 1) := by decide +kernel
theorem dX2_levelOf_1 : decode cX2_levelOf 1 = .ok (.ifCond .ne 5, 3) := by decide +kernel
theorem dX2_levelOf_4 : decode cX2_levelOf 4 = .ok (.iconst 0, 1) := by decide +kernel
theorem dX2_levelOf_5 : decode cX2_levelOf 5 = .ok (.ireturn, 1) := by decide +kernel
theorem dX2_levelOf_6 : decode cX2_levelOf 6 = .ok (.iload_n 0, 1) := by decide +kernel
theorem dX2_levelOf_7 : decode cX2_levelOf 7 = .ok (.iload_n 1, 1) := by decide +kernel
theorem dX2_levelOf_8 : decode cX2_levelOf 8 = .ok (.if_icmp .gt 7, 3) := by decide +kernel
theorem dX2_levelOf_11 : decode cX2_levelOf 11 = .ok (.iconst 1, 1) := by decide +kernel
theorem dX2_levelOf_12 : decode cX2_levelOf 12 = .ok (.goto 4, 3) := by decide +kernel
theorem dX2_levelOf_15 : decode cX2_levelOf 15 = .ok (.iconst 2, 1) := by decide +kernel
theorem dX2_levelOf_16 : decode cX2_levelOf 16 = .ok (.ireturn, 1) := by decide +kernel
theorem dX2_weigh_0 : decode cX2_weigh 0 = .ok (.iconst 0, 1) := by decide +kernel
theorem dX2_weigh_1 : decode cX2_weigh 1 = .ok (.istore 4, 2) := by decide +kernel
theorem dX2_weigh_3 : decode cX2_weigh 3 = .ok (.iload 4, 2) := by decide +kernel
theorem dX2_weigh_5 : decode cX2_weigh 5 = .ok (.aload_n 0, 1) := by decide +kernel
theorem dX2_weigh_6 : decode cX2_weigh 6 = .ok (.getfield 15, 3) := by decide +kernel
theorem dX2_weigh_9 : decode cX2_weigh 9 = .ok (.arraylength, 1) := by decide +kernel
theorem dX2_weigh_10 : decode cX2_weigh 10 = .ok (.if_icmp .ge 60, 3) := by decide +kernel
theorem dX2_weigh_13 : decode cX2_weigh 13 = .ok (.aload_n 0, 1) := by decide +kernel
theorem dX2_weigh_14 : decode cX2_weigh 14 = .ok (.getfield 19, 3) := by decide +kernel
theorem dX2_weigh_17 : decode cX2_weigh 17 = .ok (.iload 4, 2) := by decide +kernel
theorem dX2_weigh_19 : decode cX2_weigh 19 = .ok (.invokestatic 22, 3) := by decide +kernel
theorem dX2_weigh_22 : decode cX2_weigh 22 = .ok (.iload_n 2, 1) := by decide +kernel
theorem dX2_weigh_23 : decode cX2_weigh 23 = .ok (.invokestatic 37, 3) := by decide +kernel
theorem dX2_weigh_26 : decode cX2_weigh 26 = .ok (.iload_n 1, 1) := by decide +kernel
theorem dX2_weigh_27 : decode cX2_weigh 27 = .ok (.if_icmp .ne 7, 3) := by decide +kernel
theorem dX2_weigh_30 : decode cX2_weigh 30 = .ok (.iconst 1, 1) := by decide +kernel
theorem dX2_weigh_31 : decode cX2_weigh 31 = .ok (.goto 4, 3) := by decide +kernel
theorem dX2_weigh_34 : decode cX2_weigh 34 = .ok (.iconst 0, 1) := by decide +kernel
theorem dX2_weigh_35 : decode cX2_weigh 35 = .ok (.istore 5, 2) := by decide +kernel
theorem dX2_weigh_37 : decode cX2_weigh 37 = .ok (.aload_n 0, 1) := by decide +kernel
theorem dX2_weigh_38 : decode cX2_weigh 38 = .ok (.getfield 15, 3) := by decide +kernel
theorem dX2_weigh_41 : decode cX2_weigh 41 = .ok (.iload 4, 2) := by decide +kernel
theorem dX2_weigh_43 : decode cX2_weigh 43 = .ok (.dup2, 1) := by decide +kernel
theorem dX2_weigh_44 : decode cX2_weigh 44 = .ok (.laload, 1) := by decide +kernel
theorem dX2_weigh_45 : decode cX2_weigh 45 = .ok (.iload 5, 2) := by decide +kernel
theorem dX2_weigh_47 : decode cX2_weigh 47 = .ok (.ifCond .eq 10, 3) := by decide +kernel
theorem dX2_weigh_50 : decode cX2_weigh 50 = .ok (.iconst 2, 1) := by decide +kernel
theorem dX2_weigh_51 : decode cX2_weigh 51 = .ok (.iload_n 3, 1) := by decide +kernel
theorem dX2_weigh_52 : decode cX2_weigh 52 = .ok (.imul, 1) := by decide +kernel
theorem dX2_weigh_53 : decode cX2_weigh 53 = .ok (.i2l, 1) := by decide +kernel
theorem dX2_weigh_54 : decode cX2_weigh 54 = .ok (.goto 8, 3) := by decide +kernel
theorem dX2_weigh_57 : decode cX2_weigh 57 = .ok (.bipush 10, 2) := by decide +kernel
theorem dX2_weigh_59 : decode cX2_weigh 59 = .ok (.iload_n 3, 1) := by decide +kernel
theorem dX2_weigh_60 : decode cX2_weigh 60 = .ok (.isub, 1) := by decide +kernel
theorem dX2_weigh_61 : decode cX2_weigh 61 = .ok (.i2l, 1) := by decide +kernel
theorem dX2_weigh_62 : decode cX2_weigh 62 = .ok (.lmul, 1) := by decide +kernel
theorem dX2_weigh_63 : decode cX2_weigh 63 = .ok (.lastore, 1) := by decide +kernel
theorem dX2_weigh_64 : decode cX2_weigh 64 = .ok (.iinc 4 1, 3) := by decide +kernel
theorem dX2_weigh_67 : decode cX2_weigh 67 = .ok (.goto (-64), 3) := by decide +kernel
theorem dX2_weigh_70 : decode cX2_weigh 70 = .ok (.return_, 1) := by decide +kernel
theorem dX2_total_0 : decode cX2_total 0 = .ok (.aload_n 0, 1) := by decide +kernel
theorem dX2_total_1 : decode cX2_total 1 = .ok (.lconst 0, 1) := by decide +kernel
theorem dX2_total_2 : decode cX2_total 2 = .ok (.putfield 41, 3) := by decide +kernel
theorem dX2_total_5 : decode cX2_total 5 = .ok (.aload_n 0, 1) := by decide +kernel
theorem dX2_total_6 : decode cX2_total 6 = .ok (.getfield 15, 3) := by decide +kernel
theorem dX2_total_9 : decode cX2_total 9 = .ok (.astore_n 1, 1) := by decide +kernel
theorem dX2_total_10 : decode cX2_total 10 = .ok (.aload_n 1, 1) := by decide +kernel
theorem dX2_total_11 : decode cX2_total 11 = .ok (.arraylength, 1) := by decide +kernel
theorem dX2_total_12 : decode cX2_total 12 = .ok (.istore_n 2, 1) := by decide +kernel
theorem dX2_total_13 : decode cX2_total 13 = .ok (.iconst 0, 1) := by decide +kernel
theorem dX2_total_14 : decode cX2_total 14 = .ok (.istore_n 3, 1) := by decide +kernel
theorem dX2_total_15 : decode cX2_total 15 = .ok (.iload_n 3, 1) := by decide +kernel
theorem dX2_total_16 : decode cX2_total 16 = .ok (.iload_n 2, 1) := by decide +kernel
theorem dX2_total_17 : decode cX2_total 17 = .ok (.if_icmp .ge 25, 3) := by decide +kernel
theorem dX2_total_20 : decode cX2_total 20 = .ok (.aload_n 1, 1) := by decide +kernel
theorem dX2_total_21 : decode cX2_total 21 = .ok (.iload_n 3, 1) := by decide +kernel
theorem dX2_total_22 : decode cX2_total 22 = .ok (.laload, 1) := by decide +kernel
theorem dX2_total_23 : decode cX2_total 23 = .ok (.lstore 4, 2) := by decide +kernel
theorem dX2_total_25 : decode cX2_total 25 = .ok (.aload_n 0, 1) := by decide +kernel
theorem dX2_total_26 : decode cX2_total 26 = .ok (.dup, 1) := by decide +kernel
theorem dX2_total_27 : decode cX2_total 27 = .ok (.getfield 41, 3) := by decide +kernel
theorem dX2_total_30 : decode cX2_total 30 = .ok (.lload 4, 2) := by decide +kernel
theorem dX2_total_32 : decode cX2_total 32 = .ok (.ladd, 1) := by decide +kernel
theorem dX2_total_33 : decode cX2_total 33 = .ok (.putfield 41, 3) := by decide +kernel
theorem dX2_total_36 : decode cX2_total 36 = .ok (.iinc 3 1, 3) := by decide +kernel
theorem dX2_total_39 : decode cX2_total 39 = .ok (.goto (-24), 3) := by decide +kernel
theorem dX2_total_42 : decode cX2_total 42 = .ok (.return_, 1) := by decide +kernel
theorem dX2_faultIn_0 : decode cX2_faultIn 0 = .ok (.iload_n 0, 1) := by decide +kernel
theorem dX2_faultIn_1 : decode cX2_faultIn 1 = .ok (.iconst 1, 1) := by decide +kernel
theorem dX2_faultIn_2 : decode cX2_faultIn 2 = .ok (.if_icmp .ge 5, 3) := by decide +kernel
theorem dX2_faultIn_5 : decode cX2_faultIn 5 = .ok (.iconst (-1), 1) := by decide +kernel
theorem dX2_faultIn_6 : decode cX2_faultIn 6 = .ok (.ireturn, 1) := by decide +kernel
theorem dX2_faultIn_7 : decode cX2_faultIn 7 = .ok (.iload_n 0, 1) := by decide +kernel
theorem dX2_faultIn_8 : decode cX2_faultIn 8 = .ok (.bipush 85, 2) := by decide +kernel
theorem dX2_faultIn_10 : decode cX2_faultIn 10 = .ok (.if_icmp .ge 24, 3) := by decide +kernel
theorem dX2_faultIn_13 : decode cX2_faultIn 13 = .ok (.iload_n 0, 1) := by decide +kernel
theorem dX2_faultIn_14 : decode cX2_faultIn 14 = .ok (.iconst 1, 1) := by decide +kernel
theorem dX2_faultIn_15 : decode cX2_faultIn 15 = .ok (.isub, 1) := by decide +kernel
theorem dX2_faultIn_16 : decode cX2_faultIn 16 = .ok (.bipush 21, 2) := by decide +kernel
theorem dX2_faultIn_18 : decode cX2_faultIn 18 = .ok (.idiv, 1) := by decide +kernel
theorem dX2_faultIn_19 : decode cX2_faultIn 19 = .ok (.iload_n 1, 1) := by decide +kernel
theorem dX2_faultIn_20 : decode cX2_faultIn 20 = .ok (.if_icmp .ne 12, 3) := by decide +kernel
theorem dX2_faultIn_23 : decode cX2_faultIn 23 = .ok (.iload_n 0, 1) := by decide +kernel
theorem dX2_faultIn_24 : decode cX2_faultIn 24 = .ok (.iconst 1, 1) := by decide +kernel
theorem dX2_faultIn_25 : decode cX2_faultIn 25 = .ok (.isub, 1) := by decide +kernel
theorem dX2_faultIn_26 : decode cX2_faultIn 26 = .ok (.bipush 21, 2) := by decide +kernel
theorem dX2_faultIn_28 : decode cX2_faultIn 28 = .ok (.irem, 1) := by decide +kernel
theorem dX2_faultIn_29 : decode cX2_faultIn 29 = .ok (.goto 4, 3) := by decide +kernel
theorem dX2_faultIn_32 : decode cX2_faultIn 32 = .ok (.iconst (-1), 1) := by decide +kernel
theorem dX2_faultIn_33 : decode cX2_faultIn 33 = .ok (.ireturn, 1) := by decide +kernel
theorem dX2_faultIn_34 : decode cX2_faultIn 34 = .ok (.iload_n 0, 1) := by decide +kernel
theorem dX2_faultIn_35 : decode cX2_faultIn 35 = .ok (.bipush 85, 2) := by decide +kernel
theorem dX2_faultIn_37 : decode cX2_faultIn 37 = .ok (.isub, 1) := by decide +kernel
theorem dX2_faultIn_38 : decode cX2_faultIn 38 = .ok (.sipush 441, 3) := by decide +kernel
theorem dX2_faultIn_41 : decode cX2_faultIn 41 = .ok (.idiv, 1) := by decide +kernel
theorem dX2_faultIn_42 : decode cX2_faultIn 42 = .ok (.istore_n 2, 1) := by decide +kernel
theorem dX2_faultIn_43 : decode cX2_faultIn 43 = .ok (.iload_n 0, 1) := by decide +kernel
theorem dX2_faultIn_44 : decode cX2_faultIn 44 = .ok (.bipush 85, 2) := by decide +kernel
theorem dX2_faultIn_46 : decode cX2_faultIn 46 = .ok (.isub, 1) := by decide +kernel
theorem dX2_faultIn_47 : decode cX2_faultIn 47 = .ok (.sipush 441, 3) := by decide +kernel
theorem dX2_faultIn_50 : decode cX2_faultIn 50 = .ok (.irem, 1) := by decide +kernel
theorem dX2_faultIn_51 : decode cX2_faultIn 51 = .ok (.istore_n 3, 1) := by decide +kernel
theorem dX2_faultIn_52 : decode cX2_faultIn 52 = .ok (.iload_n 2, 1) := by decide +kernel
theorem dX2_faultIn_53 : decode cX2_faultIn 53 = .ok (.iconst 3, 1) := by decide +kernel
theorem dX2_faultIn_54 : decode cX2_faultIn 54 = .ok (.if_icmp .ge 7, 3) := by decide +kernel
theorem dX2_faultIn_57 : decode cX2_faultIn 57 = .ok (.iconst 0, 1) := by decide +kernel
theorem dX2_faultIn_58 : decode cX2_faultIn 58 = .ok (.goto 13, 3) := by decide +kernel
theorem dX2_faultIn_61 : decode cX2_faultIn 61 = .ok (.iload_n 2, 1) := by decide +kernel
theorem dX2_faultIn_62 : decode cX2_faultIn 62 = .ok (.iconst 5, 1) := by decide +kernel
theorem dX2_faultIn_63 : decode cX2_faultIn 63 = .ok (.if_icmp .ge 7, 3) := by decide +kernel
theorem dX2_faultIn_66 : decode cX2_faultIn 66 = .ok (.iconst 1, 1) := by decide +kernel
theorem dX2_faultIn_67 : decode cX2_faultIn 67 = .ok (.goto 4, 3) := by decide +kernel
theorem dX2_faultIn_70 : decode cX2_faultIn 70 = .ok (.iconst 2, 1) := by decide +kernel
theorem dX2_faultIn_71 : decode cX2_faultIn 71 = .ok (.istore 4, 2) := by decide +kernel
theorem dX2_faultIn_73 : decode cX2_faultIn 73 = .ok (.iload_n 2, 1) := by decide +kernel
theorem dX2_faultIn_74 : decode cX2_faultIn 74 = .ok (.iconst 3, 1) := by decide +kernel
theorem dX2_faultIn_75 : decode cX2_faultIn 75 = .ok (.if_icmp .ge 9, 3) := by decide +kernel
theorem dX2_faultIn_78 : decode cX2_faultIn 78 = .ok (.iload_n 2, 1) := by decide +kernel
theorem dX2_faultIn_79 : decode cX2_faultIn 79 = .ok (.iconst 1, 1) := by decide +kernel
theorem dX2_faultIn_80 : decode cX2_faultIn 80 = .ok (.iadd, 1) := by decide +kernel
theorem dX2_faultIn_81 : decode cX2_faultIn 81 = .ok (.goto 15, 3) := by decide +kernel
theorem dX2_faultIn_84 : decode cX2_faultIn 84 = .ok (.iload_n 2, 1) := by decide +kernel
theorem dX2_faultIn_85 : decode cX2_faultIn 85 = .ok (.iconst 5, 1) := by decide +kernel
theorem dX2_faultIn_86 : decode cX2_faultIn 86 = .ok (.if_icmp .ge 9, 3) := by decide +kernel
theorem dX2_faultIn_89 : decode cX2_faultIn 89 = .ok (.iload_n 2, 1) := by decide +kernel
theorem dX2_faultIn_90 : decode cX2_faultIn 90 = .ok (.iconst 1, 1) := by decide +kernel
theorem dX2_faultIn_91 : decode cX2_faultIn 91 = .ok (.isub, 1) := by decide +kernel
theorem dX2_faultIn_92 : decode cX2_faultIn 92 = .ok (.goto 4, 3) := by decide +kernel
theorem dX2_faultIn_95 : decode cX2_faultIn 95 = .ok (.iconst 3, 1) := by decide +kernel
theorem dX2_faultIn_96 : decode cX2_faultIn 96 = .ok (.istore 5, 2) := by decide +kernel
theorem dX2_faultIn_98 : decode cX2_faultIn 98 = .ok (.iload_n 1, 1) := by decide +kernel
theorem dX2_faultIn_99 : decode cX2_faultIn 99 = .ok (.iload 4, 2) := by decide +kernel
theorem dX2_faultIn_101 : decode cX2_faultIn 101 = .ok (.if_icmp .ne 8, 3) := by decide +kernel
theorem dX2_faultIn_104 : decode cX2_faultIn 104 = .ok (.iload_n 3, 1) := by decide +kernel
theorem dX2_faultIn_105 : decode cX2_faultIn 105 = .ok (.bipush 21, 2) := by decide +kernel
theorem dX2_faultIn_107 : decode cX2_faultIn 107 = .ok (.idiv, 1) := by decide +kernel
theorem dX2_faultIn_108 : decode cX2_faultIn 108 = .ok (.ireturn, 1) := by decide +kernel
theorem dX2_faultIn_109 : decode cX2_faultIn 109 = .ok (.iload_n 1, 1) := by decide +kernel
theorem dX2_faultIn_110 : decode cX2_faultIn 110 = .ok (.iload 5, 2) := by decide +kernel
theorem dX2_faultIn_112 : decode cX2_faultIn 112 = .ok (.if_icmp .ne 10, 3) := by decide +kernel
theorem dX2_faultIn_115 : decode cX2_faultIn 115 = .ok (.iload_n 3, 1) := by decide +kernel
theorem dX2_faultIn_116 : decode cX2_faultIn 116 = .ok (.bipush 21, 2) := by decide +kernel
theorem dX2_faultIn_118 : decode cX2_faultIn 118 = .ok (.irem, 1) := by decide +kernel
theorem dX2_faultIn_119 : decode cX2_faultIn 119 = .ok (.goto 4, 3) := by decide +kernel
theorem dX2_faultIn_122 : decode cX2_faultIn 122 = .ok (.iconst (-1), 1) := by decide +kernel
theorem dX2_faultIn_123 : decode cX2_faultIn 123 = .ok (.ireturn, 1) := by decide +kernel
theorem dX2_having_0 : decode cX2_having 0 = .ok (.lconst 0, 1) := by decide +kernel
theorem dX2_having_1 : decode cX2_having 1 = .ok (.lstore_n 3, 1) := by decide +kernel
theorem dX2_having_2 : decode cX2_having 2 = .ok (.iconst 0, 1) := by decide +kernel
theorem dX2_having_3 : decode cX2_having 3 = .ok (.istore 5, 2) := by decide +kernel
theorem dX2_having_5 : decode cX2_having 5 = .ok (.iload 5, 2) := by decide +kernel
theorem dX2_having_7 : decode cX2_having 7 = .ok (.aload_n 0, 1) := by decide +kernel
theorem dX2_having_8 : decode cX2_having 8 = .ok (.getfield 15, 3) := by decide +kernel
theorem dX2_having_11 : decode cX2_having 11 = .ok (.arraylength, 1) := by decide +kernel
theorem dX2_having_12 : decode cX2_having 12 = .ok (.if_icmp .ge 50, 3) := by decide +kernel
theorem dX2_having_15 : decode cX2_having 15 = .ok (.iload 5, 2) := by decide +kernel
theorem dX2_having_17 : decode cX2_having 17 = .ok (.iload_n 1, 1) := by decide +kernel
theorem dX2_having_18 : decode cX2_having 18 = .ok (.invokestatic 45, 3) := by decide +kernel
theorem dX2_having_21 : decode cX2_having 21 = .ok (.istore 6, 2) := by decide +kernel
theorem dX2_having_23 : decode cX2_having 23 = .ok (.iload 6, 2) := by decide +kernel
theorem dX2_having_25 : decode cX2_having 25 = .ok (.iconst (-1), 1) := by decide +kernel
theorem dX2_having_26 : decode cX2_having 26 = .ok (.if_icmp .ne 8, 3) := by decide +kernel
theorem dX2_having_29 : decode cX2_having 29 = .ok (.bipush 7, 2) := by decide +kernel
theorem dX2_having_31 : decode cX2_having 31 = .ok (.goto 7, 3) := by decide +kernel
theorem dX2_having_34 : decode cX2_having 34 = .ok (.iload 6, 2) := by decide +kernel
theorem dX2_having_36 : decode cX2_having 36 = .ok (.iconst 3, 1) := by decide +kernel
theorem dX2_having_37 : decode cX2_having 37 = .ok (.idiv, 1) := by decide +kernel
theorem dX2_having_38 : decode cX2_having 38 = .ok (.istore 7, 2) := by decide +kernel
theorem dX2_having_40 : decode cX2_having 40 = .ok (.iload 7, 2) := by decide +kernel
theorem dX2_having_42 : decode cX2_having 42 = .ok (.iload_n 2, 1) := by decide +kernel
theorem dX2_having_43 : decode cX2_having 43 = .ok (.if_icmp .ne 13, 3) := by decide +kernel
theorem dX2_having_46 : decode cX2_having 46 = .ok (.lload_n 3, 1) := by decide +kernel
theorem dX2_having_47 : decode cX2_having 47 = .ok (.aload_n 0, 1) := by decide +kernel
theorem dX2_having_48 : decode cX2_having 48 = .ok (.getfield 15, 3) := by decide +kernel
theorem dX2_having_51 : decode cX2_having 51 = .ok (.iload 5, 2) := by decide +kernel
theorem dX2_having_53 : decode cX2_having 53 = .ok (.laload, 1) := by decide +kernel
theorem dX2_having_54 : decode cX2_having 54 = .ok (.ladd, 1) := by decide +kernel
theorem dX2_having_55 : decode cX2_having 55 = .ok (.lstore_n 3, 1) := by decide +kernel
theorem dX2_having_56 : decode cX2_having 56 = .ok (.iinc 5 1, 3) := by decide +kernel
theorem dX2_having_59 : decode cX2_having 59 = .ok (.goto (-54), 3) := by decide +kernel
theorem dX2_having_62 : decode cX2_having 62 = .ok (.lload_n 3, 1) := by decide +kernel
theorem dX2_having_63 : decode cX2_having 63 = .ok (.lreturn, 1) := by decide +kernel
theorem dX2_ofTwo_0 : decode cX2_ofTwo 0 = .ok (.lconst 0, 1) := by decide +kernel
theorem dX2_ofTwo_1 : decode cX2_ofTwo 1 = .ok (.lstore_n 1, 1) := by decide +kernel
theorem dX2_ofTwo_2 : decode cX2_ofTwo 2 = .ok (.bipush 85, 2) := by decide +kernel
theorem dX2_ofTwo_4 : decode cX2_ofTwo 4 = .ok (.istore_n 3, 1) := by decide +kernel
theorem dX2_ofTwo_5 : decode cX2_ofTwo 5 = .ok (.iload_n 3, 1) := by decide +kernel
theorem dX2_ofTwo_6 : decode cX2_ofTwo 6 = .ok (.aload_n 0, 1) := by decide +kernel
theorem dX2_ofTwo_7 : decode cX2_ofTwo 7 = .ok (.getfield 15, 3) := by decide +kernel
theorem dX2_ofTwo_10 : decode cX2_ofTwo 10 = .ok (.arraylength, 1) := by decide +kernel
theorem dX2_ofTwo_11 : decode cX2_ofTwo 11 = .ok (.if_icmp .ge 18, 3) := by decide +kernel
theorem dX2_ofTwo_14 : decode cX2_ofTwo 14 = .ok (.lload_n 1, 1) := by decide +kernel
theorem dX2_ofTwo_15 : decode cX2_ofTwo 15 = .ok (.aload_n 0, 1) := by decide +kernel
theorem dX2_ofTwo_16 : decode cX2_ofTwo 16 = .ok (.getfield 15, 3) := by decide +kernel
theorem dX2_ofTwo_19 : decode cX2_ofTwo 19 = .ok (.iload_n 3, 1) := by decide +kernel
theorem dX2_ofTwo_20 : decode cX2_ofTwo 20 = .ok (.laload, 1) := by decide +kernel
theorem dX2_ofTwo_21 : decode cX2_ofTwo 21 = .ok (.ladd, 1) := by decide +kernel
theorem dX2_ofTwo_22 : decode cX2_ofTwo 22 = .ok (.lstore_n 1, 1) := by decide +kernel
theorem dX2_ofTwo_23 : decode cX2_ofTwo 23 = .ok (.iinc 3 1, 3) := by decide +kernel
theorem dX2_ofTwo_26 : decode cX2_ofTwo 26 = .ok (.goto (-21), 3) := by decide +kernel
theorem dX2_ofTwo_29 : decode cX2_ofTwo 29 = .ok (.lload_n 1, 1) := by decide +kernel
theorem dX2_ofTwo_30 : decode cX2_ofTwo 30 = .ok (.lreturn, 1) := by decide +kernel
theorem dX2_greatest_0 : decode cX2_greatest 0 = .ok (.iconst 0, 1) := by decide +kernel
theorem dX2_greatest_1 : decode cX2_greatest 1 = .ok (.istore_n 1, 1) := by decide +kernel
theorem dX2_greatest_2 : decode cX2_greatest 2 = .ok (.aload_n 0, 1) := by decide +kernel
theorem dX2_greatest_3 : decode cX2_greatest 3 = .ok (.getfield 15, 3) := by decide +kernel
theorem dX2_greatest_6 : decode cX2_greatest 6 = .ok (.iconst 0, 1) := by decide +kernel
theorem dX2_greatest_7 : decode cX2_greatest 7 = .ok (.invokestatic 48, 3) := by decide +kernel
theorem dX2_greatest_10 : decode cX2_greatest 10 = .ok (.lstore_n 2, 1) := by decide +kernel
theorem dX2_greatest_11 : decode cX2_greatest 11 = .ok (.iconst 1, 1) := by decide +kernel
theorem dX2_greatest_12 : decode cX2_greatest 12 = .ok (.istore 4, 2) := by decide +kernel
theorem dX2_greatest_14 : decode cX2_greatest 14 = .ok (.iload 4, 2) := by decide +kernel
theorem dX2_greatest_16 : decode cX2_greatest 16 = .ok (.aload_n 0, 1) := by decide +kernel
theorem dX2_greatest_17 : decode cX2_greatest 17 = .ok (.getfield 15, 3) := by decide +kernel
theorem dX2_greatest_20 : decode cX2_greatest 20 = .ok (.arraylength, 1) := by decide +kernel
theorem dX2_greatest_21 : decode cX2_greatest 21 = .ok (.if_icmp .ge 32, 3) := by decide +kernel
theorem dX2_greatest_24 : decode cX2_greatest 24 = .ok (.aload_n 0, 1) := by decide +kernel
theorem dX2_greatest_25 : decode cX2_greatest 25 = .ok (.getfield 15, 3) := by decide +kernel
theorem dX2_greatest_28 : decode cX2_greatest 28 = .ok (.iload 4, 2) := by decide +kernel
theorem dX2_greatest_30 : decode cX2_greatest 30 = .ok (.laload, 1) := by decide +kernel
theorem dX2_greatest_31 : decode cX2_greatest 31 = .ok (.lload_n 2, 1) := by decide +kernel
theorem dX2_greatest_32 : decode cX2_greatest 32 = .ok (.lcmp, 1) := by decide +kernel
theorem dX2_greatest_33 : decode cX2_greatest 33 = .ok (.ifCond .le 14, 3) := by decide +kernel
theorem dX2_greatest_36 : decode cX2_greatest 36 = .ok (.iload 4, 2) := by decide +kernel
theorem dX2_greatest_38 : decode cX2_greatest 38 = .ok (.istore_n 1, 1) := by decide +kernel
theorem dX2_greatest_39 : decode cX2_greatest 39 = .ok (.aload_n 0, 1) := by decide +kernel
theorem dX2_greatest_40 : decode cX2_greatest 40 = .ok (.getfield 15, 3) := by decide +kernel
theorem dX2_greatest_43 : decode cX2_greatest 43 = .ok (.iload 4, 2) := by decide +kernel
theorem dX2_greatest_45 : decode cX2_greatest 45 = .ok (.laload, 1) := by decide +kernel
theorem dX2_greatest_46 : decode cX2_greatest 46 = .ok (.lstore_n 2, 1) := by decide +kernel
theorem dX2_greatest_47 : decode cX2_greatest 47 = .ok (.iinc 4 1, 3) := by decide +kernel
theorem dX2_greatest_50 : decode cX2_greatest 50 = .ok (.goto (-36), 3) := by decide +kernel
theorem dX2_greatest_53 : decode cX2_greatest 53 = .ok (.iload_n 1, 1) := by decide +kernel
theorem dX2_greatest_54 : decode cX2_greatest 54 = .ok (.ireturn, 1) := by decide +kernel
theorem dX2_greatestLevel_0 : decode cX2_greatestLevel 0 = .ok (.lconst 0, 1) := by decide +kernel
theorem dX2_greatestLevel_1 : decode cX2_greatestLevel 1 = .ok (.lstore_n 2, 1) := by decide +kernel
theorem dX2_greatestLevel_2 : decode cX2_greatestLevel 2 = .ok (.lconst 0, 1) := by decide +kernel
theorem dX2_greatestLevel_3 : decode cX2_greatestLevel 3 = .ok (.lstore 4, 2) := by decide +kernel
theorem dX2_greatestLevel_5 : decode cX2_greatestLevel 5 = .ok (.iconst 0, 1) := by decide +kernel
theorem dX2_greatestLevel_6 : decode cX2_greatestLevel 6 = .ok (.istore 6, 2) := by decide +kernel
theorem dX2_greatestLevel_8 : decode cX2_greatestLevel 8 = .ok (.iload 6, 2) := by decide +kernel
theorem dX2_greatestLevel_10 : decode cX2_greatestLevel 10 = .ok (.aload_n 0, 1) := by decide +kernel
theorem dX2_greatestLevel_11 : decode cX2_greatestLevel 11 = .ok (.getfield 15, 3) := by decide +kernel
theorem dX2_greatestLevel_14 : decode cX2_greatestLevel 14 = .ok (.arraylength, 1) := by decide +kernel
theorem dX2_greatestLevel_15 : decode cX2_greatestLevel 15 = .ok (.if_icmp .ge 60, 3) := by decide +kernel
theorem dX2_greatestLevel_18 : decode cX2_greatestLevel 18 = .ok (.aload_n 0, 1) := by decide +kernel
theorem dX2_greatestLevel_19 : decode cX2_greatestLevel 19 = .ok (.getfield 19, 3) := by decide +kernel
theorem dX2_greatestLevel_22 : decode cX2_greatestLevel 22 = .ok (.iload 6, 2) := by decide +kernel
theorem dX2_greatestLevel_24 : decode cX2_greatestLevel 24 = .ok (.invokestatic 22, 3) := by decide +kernel
theorem dX2_greatestLevel_27 : decode cX2_greatestLevel 27 = .ok (.iload_n 1, 1) := by decide +kernel
theorem dX2_greatestLevel_28 : decode cX2_greatestLevel 28 = .ok (.invokestatic 37, 3) := by decide +kernel
theorem dX2_greatestLevel_31 : decode cX2_greatestLevel 31 = .ok (.istore 7, 2) := by decide +kernel
theorem dX2_greatestLevel_33 : decode cX2_greatestLevel 33 = .ok (.iload 7, 2) := by decide +kernel
theorem dX2_greatestLevel_35 : decode cX2_greatestLevel 35 = .ok (.ifCond .ne 16, 3) := by decide +kernel
theorem dX2_greatestLevel_38 : decode cX2_greatestLevel 38 = .ok (.lload_n 2, 1) := by decide +kernel
theorem dX2_greatestLevel_39 : decode cX2_greatestLevel 39 = .ok (.aload_n 0, 1) := by decide +kernel
theorem dX2_greatestLevel_40 : decode cX2_greatestLevel 40 = .ok (.getfield 15, 3) := by decide +kernel
theorem dX2_greatestLevel_43 : decode cX2_greatestLevel 43 = .ok (.iload 6, 2) := by decide +kernel
theorem dX2_greatestLevel_45 : decode cX2_greatestLevel 45 = .ok (.laload, 1) := by decide +kernel
theorem dX2_greatestLevel_46 : decode cX2_greatestLevel 46 = .ok (.ladd, 1) := by decide +kernel
theorem dX2_greatestLevel_47 : decode cX2_greatestLevel 47 = .ok (.lstore_n 2, 1) := by decide +kernel
theorem dX2_greatestLevel_48 : decode cX2_greatestLevel 48 = .ok (.goto 21, 3) := by decide +kernel
theorem dX2_greatestLevel_51 : decode cX2_greatestLevel 51 = .ok (.iload 7, 2) := by decide +kernel
theorem dX2_greatestLevel_53 : decode cX2_greatestLevel 53 = .ok (.iconst 1, 1) := by decide +kernel
theorem dX2_greatestLevel_54 : decode cX2_greatestLevel 54 = .ok (.if_icmp .ne 15, 3) := by decide +kernel
theorem dX2_greatestLevel_57 : decode cX2_greatestLevel 57 = .ok (.lload 4, 2) := by decide +kernel
theorem dX2_greatestLevel_59 : decode cX2_greatestLevel 59 = .ok (.aload_n 0, 1) := by decide +kernel
theorem dX2_greatestLevel_60 : decode cX2_greatestLevel 60 = .ok (.getfield 15, 3) := by decide +kernel
theorem dX2_greatestLevel_63 : decode cX2_greatestLevel 63 = .ok (.iload 6, 2) := by decide +kernel
theorem dX2_greatestLevel_65 : decode cX2_greatestLevel 65 = .ok (.laload, 1) := by decide +kernel
theorem dX2_greatestLevel_66 : decode cX2_greatestLevel 66 = .ok (.ladd, 1) := by decide +kernel
theorem dX2_greatestLevel_67 : decode cX2_greatestLevel 67 = .ok (.lstore 4, 2) := by decide +kernel
theorem dX2_greatestLevel_69 : decode cX2_greatestLevel 69 = .ok (.iinc 6 1, 3) := by decide +kernel
theorem dX2_greatestLevel_72 : decode cX2_greatestLevel 72 = .ok (.goto (-64), 3) := by decide +kernel
theorem dX2_greatestLevel_75 : decode cX2_greatestLevel 75 = .ok (.lload_n 2, 1) := by decide +kernel
theorem dX2_greatestLevel_76 : decode cX2_greatestLevel 76 = .ok (.lload 4, 2) := by decide +kernel
theorem dX2_greatestLevel_78 : decode cX2_greatestLevel 78 = .ok (.invokestatic 51, 3) := by decide +kernel
theorem dX2_greatestLevel_81 : decode cX2_greatestLevel 81 = .ok (.aload_n 0, 1) := by decide +kernel
theorem dX2_greatestLevel_82 : decode cX2_greatestLevel 82 = .ok (.getfield 41, 3) := by decide +kernel
theorem dX2_greatestLevel_85 : decode cX2_greatestLevel 85 = .ok (.lload_n 2, 1) := by decide +kernel
theorem dX2_greatestLevel_86 : decode cX2_greatestLevel 86 = .ok (.lsub, 1) := by decide +kernel
theorem dX2_greatestLevel_87 : decode cX2_greatestLevel 87 = .ok (.lload 4, 2) := by decide +kernel
theorem dX2_greatestLevel_89 : decode cX2_greatestLevel 89 = .ok (.lsub, 1) := by decide +kernel
theorem dX2_greatestLevel_90 : decode cX2_greatestLevel 90 = .ok (.invokestatic 51, 3) := by decide +kernel
theorem dX2_greatestLevel_93 : decode cX2_greatestLevel 93 = .ok (.lreturn, 1) := by decide +kernel
theorem dX2_below_0 : decode cX2_below 0 = .ok (.lconst 0, 1) := by decide +kernel
theorem dX2_below_1 : decode cX2_below 1 = .ok (.lstore_n 2, 1) := by decide +kernel
theorem dX2_below_2 : decode cX2_below 2 = .ok (.iconst 0, 1) := by decide +kernel
theorem dX2_below_3 : decode cX2_below 3 = .ok (.istore 4, 2) := by decide +kernel
theorem dX2_below_5 : decode cX2_below 5 = .ok (.iload 4, 2) := by decide +kernel
theorem dX2_below_7 : decode cX2_below 7 = .ok (.aload_n 0, 1) := by decide +kernel
theorem dX2_below_8 : decode cX2_below 8 = .ok (.getfield 15, 3) := by decide +kernel
theorem dX2_below_11 : decode cX2_below 11 = .ok (.arraylength, 1) := by decide +kernel
theorem dX2_below_12 : decode cX2_below 12 = .ok (.if_icmp .ge 32, 3) := by decide +kernel
theorem dX2_below_15 : decode cX2_below 15 = .ok (.aload_n 0, 1) := by decide +kernel
theorem dX2_below_16 : decode cX2_below 16 = .ok (.getfield 19, 3) := by decide +kernel
theorem dX2_below_19 : decode cX2_below 19 = .ok (.iload 4, 2) := by decide +kernel
theorem dX2_below_21 : decode cX2_below 21 = .ok (.invokestatic 22, 3) := by decide +kernel
theorem dX2_below_24 : decode cX2_below 24 = .ok (.iload_n 1, 1) := by decide +kernel
theorem dX2_below_25 : decode cX2_below 25 = .ok (.if_icmp .ge 13, 3) := by decide +kernel
theorem dX2_below_28 : decode cX2_below 28 = .ok (.lload_n 2, 1) := by decide +kernel
theorem dX2_below_29 : decode cX2_below 29 = .ok (.aload_n 0, 1) := by decide +kernel
theorem dX2_below_30 : decode cX2_below 30 = .ok (.getfield 15, 3) := by decide +kernel
theorem dX2_below_33 : decode cX2_below 33 = .ok (.iload 4, 2) := by decide +kernel
theorem dX2_below_35 : decode cX2_below 35 = .ok (.laload, 1) := by decide +kernel
theorem dX2_below_36 : decode cX2_below 36 = .ok (.ladd, 1) := by decide +kernel
theorem dX2_below_37 : decode cX2_below 37 = .ok (.lstore_n 2, 1) := by decide +kernel
theorem dX2_below_38 : decode cX2_below 38 = .ok (.iinc 4 1, 3) := by decide +kernel
theorem dX2_below_41 : decode cX2_below 41 = .ok (.goto (-36), 3) := by decide +kernel
theorem dX2_below_44 : decode cX2_below 44 = .ok (.lload_n 2, 1) := by decide +kernel
theorem dX2_below_45 : decode cX2_below 45 = .ok (.lreturn, 1) := by decide +kernel
theorem dX3_init_0 : decode cX3_init 0 = .ok (.aload_n 0, 1) := by decide +kernel
theorem dX3_init_1 : decode cX3_init 1 = .ok (.invokespecial 3, 3) := by decide +kernel
theorem dX3_init_4 : decode cX3_init 4 = .ok (.aload_n 0, 1) := by decide +kernel
theorem dX3_init_5 : decode cX3_init 5 = .ok (.bipush 120, 2) := by decide +kernel
theorem dX3_init_7 : decode cX3_init 7 = .ok (.newarray .int, 2) := by decide +kernel
theorem dX3_init_9 : decode cX3_init 9 = .ok (.putfield 9, 3) := by decide +kernel
theorem dX3_init_12 : decode cX3_init 12 = .ok (.aload_n 0, 1) := by decide +kernel
theorem dX3_init_13 : decode cX3_init 13 = .ok (.iconst 4, 1) := by decide +kernel
theorem dX3_init_14 : decode cX3_init 14 = .ok (.newarray .int, 2) := by decide +kernel
theorem dX3_init_16 : decode cX3_init 16 = .ok (.dup, 1) := by decide +kernel
theorem dX3_init_17 : decode cX3_init 17 = .ok (.iconst 0, 1) := by decide +kernel
theorem dX3_init_18 : decode cX3_init 18 = .ok (.iconst 0, 1) := by decide +kernel
theorem dX3_init_19 : decode cX3_init 19 = .ok (.iastore, 1) := by decide +kernel
theorem dX3_init_20 : decode cX3_init 20 = .ok (.dup, 1) := by decide +kernel
theorem dX3_init_21 : decode cX3_init 21 = .ok (.iconst 1, 1) := by decide +kernel
theorem dX3_init_22 : decode cX3_init 22 = .ok (.iconst 5, 1) := by decide +kernel
theorem dX3_init_23 : decode cX3_init 23 = .ok (.iastore, 1) := by decide +kernel
theorem dX3_init_24 : decode cX3_init 24 = .ok (.dup, 1) := by decide +kernel
theorem dX3_init_25 : decode cX3_init 25 = .ok (.iconst 2, 1) := by decide +kernel
theorem dX3_init_26 : decode cX3_init 26 = .ok (.bipush 8, 2) := by decide +kernel
theorem dX3_init_28 : decode cX3_init 28 = .ok (.iastore, 1) := by decide +kernel
theorem dX3_init_29 : decode cX3_init 29 = .ok (.dup, 1) := by decide +kernel
theorem dX3_init_30 : decode cX3_init 30 = .ok (.iconst 3, 1) := by decide +kernel
theorem dX3_init_31 : decode cX3_init 31 = .ok (.bipush 9, 2) := by decide +kernel
theorem dX3_init_33 : decode cX3_init 33 = .ok (.iastore, 1) := by decide +kernel
theorem dX3_init_34 : decode cX3_init 34 = .ok (.putfield 15, 3) := by decide +kernel
theorem dX3_init_37 : decode cX3_init 37 = .ok (.aload_n 0, 1) := by decide +kernel
theorem dX3_init_38 : decode cX3_init 38 = .ok (.bipush 7, 2) := by decide +kernel
theorem dX3_init_40 : decode cX3_init 40 = .ok (.newarray .int, 2) := by decide +kernel
theorem dX3_init_42 : decode cX3_init 42 = .ok (.dup, 1) := by decide +kernel
theorem dX3_init_43 : decode cX3_init 43 = .ok (.iconst 0, 1) := by decide +kernel
theorem dX3_init_44 : decode cX3_init 44 = .ok (.iconst 1, 1) := by decide +kernel
theorem dX3_init_45 : decode cX3_init 45 = .ok (.iastore, 1) := by decide +kernel
theorem dX3_init_46 : decode cX3_init 46 = .ok (.dup, 1) := by decide +kernel
theorem dX3_init_47 : decode cX3_init 47 = .ok (.iconst 1, 1) := by decide +kernel
theorem dX3_init_48 : decode cX3_init 48 = .ok (.iconst 1, 1) := by decide +kernel
theorem dX3_init_49 : decode cX3_init 49 = .ok (.iastore, 1) := by decide +kernel
theorem dX3_init_50 : decode cX3_init 50 = .ok (.dup, 1) := by decide +kernel
theorem dX3_init_51 : decode cX3_init 51 = .ok (.iconst 2, 1) := by decide +kernel
theorem dX3_init_52 : decode cX3_init 52 = .ok (.iconst 1, 1) := by decide +kernel
theorem dX3_init_53 : decode cX3_init 53 = .ok (.iastore, 1) := by decide +kernel
theorem dX3_init_54 : decode cX3_init 54 = .ok (.dup, 1) := by decide +kernel
theorem dX3_init_55 : decode cX3_init 55 = .ok (.iconst 3, 1) := by decide +kernel
theorem dX3_init_56 : decode cX3_init 56 = .ok (.iconst 1, 1) := by decide +kernel
theorem dX3_init_57 : decode cX3_init 57 = .ok (.iastore, 1) := by decide +kernel
theorem dX3_init_58 : decode cX3_init 58 = .ok (.dup, 1) := by decide +kernel
theorem dX3_init_59 : decode cX3_init 59 = .ok (.iconst 4, 1) := by decide +kernel
theorem dX3_init_60 : decode cX3_init 60 = .ok (.iconst 1, 1) := by decide +kernel
theorem dX3_init_61 : decode cX3_init 61 = .ok (.iastore, 1) := by decide +kernel
theorem dX3_init_62 : decode cX3_init 62 = .ok (.dup, 1) := by decide +kernel
theorem dX3_init_63 : decode cX3_init 63 = .ok (.iconst 5, 1) := by decide +kernel
theorem dX3_init_64 : decode cX3_init 64 = .ok (.iconst 1, 1) := by decide +kernel
theorem dX3_init_65 : decode cX3_init 65 = .ok (.iastore, 1) := by decide +kernel
theorem dX3_init_66 : decode cX3_init 66 = .ok (.dup, 1) := by decide +kernel
theorem dX3_init_67 : decode cX3_init 67 = .ok (.bipush 6, 2) := by decide +kernel
theorem dX3_init_69 : decode cX3_init 69 = .ok (.iconst 1, 1) := by decide +kernel
theorem dX3_init_70 : decode cX3_init 70 = .ok (.iastore, 1) := by decide +kernel
theorem dX3_init_71 : decode cX3_init 71 = .ok (.putfield 18, 3) := by decide +kernel
theorem dX3_init_74 : decode cX3_init 74 = .ok (.aload_n 0, 1) := by decide +kernel
theorem dX3_init_75 : decode cX3_init 75 = .ok (.iconst 4, 1) := by decide +kernel
theorem dX3_init_76 : decode cX3_init 76 = .ok (.newarray .int, 2) := by decide +kernel
theorem dX3_init_78 : decode cX3_init 78 = .ok (.dup, 1) := by decide +kernel
theorem dX3_init_79 : decode cX3_init 79 = .ok (.iconst 0, 1) := by decide +kernel
theorem dX3_init_80 : decode cX3_init 80 = .ok (.iconst (-1), 1) := by decide +kernel
theorem dX3_init_81 : decode cX3_init 81 = .ok (.iastore, 1) := by decide +kernel
theorem dX3_init_82 : decode cX3_init 82 = .ok (.dup, 1) := by decide +kernel
theorem dX3_init_83 : decode cX3_init 83 = .ok (.iconst 1, 1) := by decide +kernel
theorem dX3_init_84 : decode cX3_init 84 = .ok (.iconst (-1), 1) := by decide +kernel
theorem dX3_init_85 : decode cX3_init 85 = .ok (.iastore, 1) := by decide +kernel
theorem dX3_init_86 : decode cX3_init 86 = .ok (.dup, 1) := by decide +kernel
theorem dX3_init_87 : decode cX3_init 87 = .ok (.iconst 2, 1) := by decide +kernel
theorem dX3_init_88 : decode cX3_init 88 = .ok (.iconst (-1), 1) := by decide +kernel
theorem dX3_init_89 : decode cX3_init 89 = .ok (.iastore, 1) := by decide +kernel
theorem dX3_init_90 : decode cX3_init 90 = .ok (.dup, 1) := by decide +kernel
theorem dX3_init_91 : decode cX3_init 91 = .ok (.iconst 3, 1) := by decide +kernel
theorem dX3_init_92 : decode cX3_init 92 = .ok (.iconst (-1), 1) := by decide +kernel
theorem dX3_init_93 : decode cX3_init 93 = .ok (.iastore, 1) := by decide +kernel
theorem dX3_init_94 : decode cX3_init 94 = .ok (.putfield 21, 3) := by decide +kernel
theorem dX3_init_97 : decode cX3_init 97 = .ok (.aload_n 0, 1) := by decide +kernel
theorem dX3_init_98 : decode cX3_init 98 = .ok (.bipush 32, 2) := by decide +kernel
theorem dX3_init_100 : decode cX3_init 100 = .ok (.newarray .int, 2) := by decide +kernel
theorem dX3_init_102 : decode cX3_init 102 = .ok (.putfield 24, 3) := by decide +kernel
theorem dX3_init_105 : decode cX3_init 105 = .ok (.aload_n 0, 1) := by decide +kernel
theorem dX3_init_106 : decode cX3_init 106 = .ok (.bipush 18, 2) := by decide +kernel
theorem dX3_init_108 : decode cX3_init 108 = .ok (.newarray .int, 2) := by decide +kernel
theorem dX3_init_110 : decode cX3_init 110 = .ok (.putfield 27, 3) := by decide +kernel
theorem dX3_init_113 : decode cX3_init 113 = .ok (.return_, 1) := by decide +kernel
theorem dX3_become_0 : decode cX3_become 0 = .ok (.aload_n 1, 1) := by decide +kernel
theorem dX3_become_1 : decode cX3_become 1 = .ok (.getfield 9, 3) := by decide +kernel
theorem dX3_become_4 : decode cX3_become 4 = .ok (.aload_n 0, 1) := by decide +kernel
theorem dX3_become_5 : decode cX3_become 5 = .ok (.getfield 9, 3) := by decide +kernel
theorem dX3_become_8 : decode cX3_become 8 = .ok (.invokestatic 30, 3) := by decide +kernel
theorem dX3_become_11 : decode cX3_become 11 = .ok (.aload_n 0, 1) := by decide +kernel
theorem dX3_become_12 : decode cX3_become 12 = .ok (.aload_n 1, 1) := by decide +kernel
theorem dX3_become_13 : decode cX3_become 13 = .ok (.getfield 34, 3) := by decide +kernel
theorem dX3_become_16 : decode cX3_become 16 = .ok (.putfield 34, 3) := by decide +kernel
theorem dX3_become_19 : decode cX3_become 19 = .ok (.aload_n 1, 1) := by decide +kernel
theorem dX3_become_20 : decode cX3_become 20 = .ok (.getfield 15, 3) := by decide +kernel
theorem dX3_become_23 : decode cX3_become 23 = .ok (.aload_n 0, 1) := by decide +kernel
theorem dX3_become_24 : decode cX3_become 24 = .ok (.getfield 15, 3) := by decide +kernel
theorem dX3_become_27 : decode cX3_become 27 = .ok (.invokestatic 30, 3) := by decide +kernel
theorem dX3_become_30 : decode cX3_become 30 = .ok (.aload_n 1, 1) := by decide +kernel
theorem dX3_become_31 : decode cX3_become 31 = .ok (.getfield 18, 3) := by decide +kernel
theorem dX3_become_34 : decode cX3_become 34 = .ok (.aload_n 0, 1) := by decide +kernel
theorem dX3_become_35 : decode cX3_become 35 = .ok (.getfield 18, 3) := by decide +kernel
theorem dX3_become_38 : decode cX3_become 38 = .ok (.invokestatic 30, 3) := by decide +kernel
theorem dX3_become_41 : decode cX3_become 41 = .ok (.aload_n 1, 1) := by decide +kernel
theorem dX3_become_42 : decode cX3_become 42 = .ok (.getfield 21, 3) := by decide +kernel
theorem dX3_become_45 : decode cX3_become 45 = .ok (.aload_n 0, 1) := by decide +kernel
theorem dX3_become_46 : decode cX3_become 46 = .ok (.getfield 21, 3) := by decide +kernel
theorem dX3_become_49 : decode cX3_become 49 = .ok (.invokestatic 30, 3) := by decide +kernel
theorem dX3_become_52 : decode cX3_become 52 = .ok (.aload_n 1, 1) := by decide +kernel
theorem dX3_become_53 : decode cX3_become 53 = .ok (.getfield 24, 3) := by decide +kernel
theorem dX3_become_56 : decode cX3_become 56 = .ok (.aload_n 0, 1) := by decide +kernel
theorem dX3_become_57 : decode cX3_become 57 = .ok (.getfield 24, 3) := by decide +kernel
theorem dX3_become_60 : decode cX3_become 60 = .ok (.invokestatic 30, 3) := by decide +kernel
theorem dX3_become_63 : decode cX3_become 63 = .ok (.aload_n 0, 1) := by decide +kernel
theorem dX3_become_64 : decode cX3_become 64 = .ok (.aload_n 1, 1) := by decide +kernel
theorem dX3_become_65 : decode cX3_become 65 = .ok (.getfield 38, 3) := by decide +kernel
theorem dX3_become_68 : decode cX3_become 68 = .ok (.putfield 38, 3) := by decide +kernel
theorem dX3_become_71 : decode cX3_become 71 = .ok (.aload_n 1, 1) := by decide +kernel
theorem dX3_become_72 : decode cX3_become 72 = .ok (.getfield 27, 3) := by decide +kernel
theorem dX3_become_75 : decode cX3_become 75 = .ok (.aload_n 0, 1) := by decide +kernel
theorem dX3_become_76 : decode cX3_become 76 = .ok (.getfield 27, 3) := by decide +kernel
theorem dX3_become_79 : decode cX3_become 79 = .ok (.invokestatic 30, 3) := by decide +kernel
theorem dX3_become_82 : decode cX3_become 82 = .ok (.aload_n 0, 1) := by decide +kernel
theorem dX3_become_83 : decode cX3_become 83 = .ok (.aload_n 1, 1) := by decide +kernel
theorem dX3_become_84 : decode cX3_become 84 = .ok (.getfield 41, 3) := by decide +kernel
theorem dX3_become_87 : decode cX3_become 87 = .ok (.putfield 41, 3) := by decide +kernel
theorem dX3_become_90 : decode cX3_become 90 = .ok (.return_, 1) := by decide +kernel
theorem dX3_countOf_0 : decode cX3_countOf 0 = .ok (.iload_n 1, 1) := by decide +kernel
theorem dX3_countOf_1 : decode cX3_countOf 1 = .ok (.tableswitch 42 0 2 #[27, 32, 37], 27) := by decide +kernel
theorem dX3_countOf_28 : decode cX3_countOf 28 = .ok (.aload_n 0, 1) := by decide +kernel
theorem dX3_countOf_29 : decode cX3_countOf 29 = .ok (.getfield 34, 3) := by decide +kernel
theorem dX3_countOf_32 : decode cX3_countOf 32 = .ok (.ireturn, 1) := by decide +kernel
theorem dX3_countOf_33 : decode cX3_countOf 33 = .ok (.aload_n 0, 1) := by decide +kernel
theorem dX3_countOf_34 : decode cX3_countOf 34 = .ok (.getfield 38, 3) := by decide +kernel
theorem dX3_countOf_37 : decode cX3_countOf 37 = .ok (.ireturn, 1) := by decide +kernel
theorem dX3_countOf_38 : decode cX3_countOf 38 = .ok (.aload_n 0, 1) := by decide +kernel
theorem dX3_countOf_39 : decode cX3_countOf 39 = .ok (.getfield 41, 3) := by decide +kernel
theorem dX3_countOf_42 : decode cX3_countOf 42 = .ok (.ireturn, 1) := by decide +kernel
theorem dX3_countOf_43 : decode cX3_countOf 43 = .ok (.aload_n 0, 1) := by decide +kernel
theorem dX3_countOf_44 : decode cX3_countOf 44 = .ok (.invokevirtual 44, 3) := by decide +kernel
theorem dX3_countOf_47 : decode cX3_countOf 47 = .ok (.ireturn, 1) := by decide +kernel
theorem dX3_faultCount_0 : decode cX3_faultCount 0 = .ok (.iconst 0, 1) := by decide +kernel
theorem dX3_faultCount_1 : decode cX3_faultCount 1 = .ok (.istore_n 1, 1) := by decide +kernel
theorem dX3_faultCount_2 : decode cX3_faultCount 2 = .ok (.aload_n 0, 1) := by decide +kernel
theorem dX3_faultCount_3 : decode cX3_faultCount 3 = .ok (.getfield 21, 3) := by decide +kernel
theorem dX3_faultCount_6 : decode cX3_faultCount 6 = .ok (.astore_n 2, 1) := by decide +kernel
theorem dX3_faultCount_7 : decode cX3_faultCount 7 = .ok (.aload_n 2, 1) := by decide +kernel
theorem dX3_faultCount_8 : decode cX3_faultCount 8 = .ok (.arraylength, 1) := by decide +kernel
theorem dX3_faultCount_9 : decode cX3_faultCount 9 = .ok (.istore_n 3, 1) := by decide +kernel
theorem dX3_faultCount_10 : decode cX3_faultCount 10 = .ok (.iconst 0, 1) := by decide +kernel
theorem dX3_faultCount_11 : decode cX3_faultCount 11 = .ok (.istore 4, 2) := by decide +kernel
theorem dX3_faultCount_13 : decode cX3_faultCount 13 = .ok (.iload 4, 2) := by decide +kernel
theorem dX3_faultCount_15 : decode cX3_faultCount 15 = .ok (.iload_n 3, 1) := by decide +kernel
theorem dX3_faultCount_16 : decode cX3_faultCount 16 = .ok (.if_icmp .ge 24, 3) := by decide +kernel
theorem dX3_faultCount_19 : decode cX3_faultCount 19 = .ok (.aload_n 2, 1) := by decide +kernel
theorem dX3_faultCount_20 : decode cX3_faultCount 20 = .ok (.iload 4, 2) := by decide +kernel
theorem dX3_faultCount_22 : decode cX3_faultCount 22 = .ok (.iaload, 1) := by decide +kernel
theorem dX3_faultCount_23 : decode cX3_faultCount 23 = .ok (.istore 5, 2) := by decide +kernel
theorem dX3_faultCount_25 : decode cX3_faultCount 25 = .ok (.iload 5, 2) := by decide +kernel
theorem dX3_faultCount_27 : decode cX3_faultCount 27 = .ok (.iconst (-1), 1) := by decide +kernel
theorem dX3_faultCount_28 : decode cX3_faultCount 28 = .ok (.if_icmp .eq 6, 3) := by decide +kernel
theorem dX3_faultCount_31 : decode cX3_faultCount 31 = .ok (.iinc 1 1, 3) := by decide +kernel
theorem dX3_faultCount_34 : decode cX3_faultCount 34 = .ok (.iinc 4 1, 3) := by decide +kernel
theorem dX3_faultCount_37 : decode cX3_faultCount 37 = .ok (.goto (-24), 3) := by decide +kernel
theorem dX3_faultCount_40 : decode cX3_faultCount 40 = .ok (.iload_n 1, 1) := by decide +kernel
theorem dX3_faultCount_41 : decode cX3_faultCount 41 = .ok (.ireturn, 1) := by decide +kernel
theorem dX4_init_0 : decode cX4_init 0 = .ok (.aload_n 0, 1) := by decide +kernel
theorem dX4_init_1 : decode cX4_init 1 = .ok (.invokespecial 3, 3) := by decide +kernel
theorem dX4_init_4 : decode cX4_init 4 = .ok (.aload_n 0, 1) := by decide +kernel
theorem dX4_init_5 : decode cX4_init 5 = .ok (.iconst 5, 1) := by decide +kernel
theorem dX4_init_6 : decode cX4_init 6 = .ok (.newarray .long, 2) := by decide +kernel
theorem dX4_init_8 : decode cX4_init 8 = .ok (.putfield 11, 3) := by decide +kernel
theorem dX4_init_11 : decode cX4_init 11 = .ok (.return_, 1) := by decide +kernel
theorem dX4_make_0 : decode cX4_make 0 = .ok (.aload_n 0, 1) := by decide +kernel
theorem dX4_make_1 : decode cX4_make 1 = .ok (.getfield 11, 3) := by decide +kernel
theorem dX4_make_4 : decode cX4_make 4 = .ok (.lconst 0, 1) := by decide +kernel
theorem dX4_make_5 : decode cX4_make 5 = .ok (.invokestatic 15, 3) := by decide +kernel
theorem dX4_make_8 : decode cX4_make 8 = .ok (.aload_n 0, 1) := by decide +kernel
theorem dX4_make_9 : decode cX4_make 9 = .ok (.lconst 1, 1) := by decide +kernel
theorem dX4_make_10 : decode cX4_make 10 = .ok (.putfield 21, 3) := by decide +kernel
theorem dX4_make_13 : decode cX4_make 13 = .ok (.aload_n 0, 1) := by decide +kernel
theorem dX4_make_14 : decode cX4_make 14 = .ok (.iconst 0, 1) := by decide +kernel
theorem dX4_make_15 : decode cX4_make 15 = .ok (.putfield 25, 3) := by decide +kernel
theorem dX4_make_18 : decode cX4_make 18 = .ok (.iconst 1, 1) := by decide +kernel
theorem dX4_make_19 : decode cX4_make 19 = .ok (.istore 5, 2) := by decide +kernel
theorem dX4_make_21 : decode cX4_make 21 = .ok (.iload 5, 2) := by decide +kernel
theorem dX4_make_23 : decode cX4_make 23 = .ok (.iload_n 2, 1) := by decide +kernel
theorem dX4_make_24 : decode cX4_make 24 = .ok (.if_icmp .gt 92, 3) := by decide +kernel
theorem dX4_make_27 : decode cX4_make 27 = .ok (.aload_n 0, 1) := by decide +kernel
theorem dX4_make_28 : decode cX4_make 28 = .ok (.getfield 11, 3) := by decide +kernel
theorem dX4_make_31 : decode cX4_make 31 = .ok (.iconst 4, 1) := by decide +kernel
theorem dX4_make_32 : decode cX4_make 32 = .ok (.iload 4, 2) := by decide +kernel
theorem dX4_make_34 : decode cX4_make 34 = .ok (.ineg, 1) := by decide +kernel
theorem dX4_make_35 : decode cX4_make 35 = .ok (.i2l, 1) := by decide +kernel
theorem dX4_make_36 : decode cX4_make 36 = .ok (.aload_n 0, 1) := by decide +kernel
theorem dX4_make_37 : decode cX4_make 37 = .ok (.getfield 21, 3) := by decide +kernel
theorem dX4_make_40 : decode cX4_make 40 = .ok (.lmul, 1) := by decide +kernel
theorem dX4_make_41 : decode cX4_make 41 = .ok (.invokestatic 29, 3) := by decide +kernel
theorem dX4_make_44 : decode cX4_make 44 = .ok (.iconst 1, 1) := by decide +kernel
theorem dX4_make_45 : decode cX4_make 45 = .ok (.istore 6, 2) := by decide +kernel
theorem dX4_make_47 : decode cX4_make 47 = .ok (.iload 6, 2) := by decide +kernel
theorem dX4_make_49 : decode cX4_make 49 = .ok (.iconst 3, 1) := by decide +kernel
theorem dX4_make_50 : decode cX4_make 50 = .ok (.if_icmp .gt 48, 3) := by decide +kernel
theorem dX4_make_53 : decode cX4_make 53 = .ok (.aload_n 0, 1) := by decide +kernel
theorem dX4_make_54 : decode cX4_make 54 = .ok (.iload 6, 2) := by decide +kernel
theorem dX4_make_56 : decode cX4_make 56 = .ok (.iload_n 3, 1) := by decide +kernel
theorem dX4_make_57 : decode cX4_make 57 = .ok (.invokevirtual 33, 3) := by decide +kernel
theorem dX4_make_60 : decode cX4_make 60 = .ok (.istore 7, 2) := by decide +kernel
theorem dX4_make_62 : decode cX4_make 62 = .ok (.aload_n 0, 1) := by decide +kernel
theorem dX4_make_63 : decode cX4_make 63 = .ok (.getfield 11, 3) := by decide +kernel
theorem dX4_make_66 : decode cX4_make 66 = .ok (.iload 6, 2) := by decide +kernel
theorem dX4_make_68 : decode cX4_make 68 = .ok (.aload_n 0, 1) := by decide +kernel
theorem dX4_make_69 : decode cX4_make 69 = .ok (.iload 6, 2) := by decide +kernel
theorem dX4_make_71 : decode cX4_make 71 = .ok (.iload_n 3, 1) := by decide +kernel
theorem dX4_make_72 : decode cX4_make 72 = .ok (.iload 7, 2) := by decide +kernel
theorem dX4_make_74 : decode cX4_make 74 = .ok (.invokevirtual 37, 3) := by decide +kernel
theorem dX4_make_77 : decode cX4_make 77 = .ok (.invokestatic 29, 3) := by decide +kernel
theorem dX4_make_80 : decode cX4_make 80 = .ok (.iload 6, 2) := by decide +kernel
theorem dX4_make_82 : decode cX4_make 82 = .ok (.iload_n 1, 1) := by decide +kernel
theorem dX4_make_83 : decode cX4_make 83 = .ok (.if_icmp .ne 9, 3) := by decide +kernel
theorem dX4_make_86 : decode cX4_make 86 = .ok (.aload_n 0, 1) := by decide +kernel
theorem dX4_make_87 : decode cX4_make 87 = .ok (.iload 7, 2) := by decide +kernel
theorem dX4_make_89 : decode cX4_make 89 = .ok (.putfield 25, 3) := by decide +kernel
theorem dX4_make_92 : decode cX4_make 92 = .ok (.iinc 6 1, 3) := by decide +kernel
theorem dX4_make_95 : decode cX4_make 95 = .ok (.goto (-48), 3) := by decide +kernel
theorem dX4_make_98 : decode cX4_make 98 = .ok (.aload_n 0, 1) := by decide +kernel
theorem dX4_make_99 : decode cX4_make 99 = .ok (.dup, 1) := by decide +kernel
theorem dX4_make_100 : decode cX4_make 100 = .ok (.getfield 21, 3) := by decide +kernel
theorem dX4_make_103 : decode cX4_make 103 = .ok (.ldc2_w 41, 3) := by decide +kernel
theorem dX4_make_106 : decode cX4_make 106 = .ok (.lmul, 1) := by decide +kernel
theorem dX4_make_107 : decode cX4_make 107 = .ok (.putfield 21, 3) := by decide +kernel
theorem dX4_make_110 : decode cX4_make 110 = .ok (.iinc 5 1, 3) := by decide +kernel
theorem dX4_make_113 : decode cX4_make 113 = .ok (.goto (-92), 3) := by decide +kernel
theorem dX4_make_116 : decode cX4_make 116 = .ok (.return_, 1) := by decide +kernel
theorem dX4_worth_0 : decode cX4_worth 0 = .ok (.iload_n 3, 1) := by decide +kernel
theorem dX4_worth_1 : decode cX4_worth 1 = .ok (.iload_n 2, 1) := by decide +kernel
theorem dX4_worth_2 : decode cX4_worth 2 = .ok (.imul, 1) := by decide +kernel
theorem dX4_worth_3 : decode cX4_worth 3 = .ok (.bipush 20, 2) := by decide +kernel
theorem dX4_worth_5 : decode cX4_worth 5 = .ok (.imul, 1) := by decide +kernel
theorem dX4_worth_6 : decode cX4_worth 6 = .ok (.i2l, 1) := by decide +kernel
theorem dX4_worth_7 : decode cX4_worth 7 = .ok (.aload_n 0, 1) := by decide +kernel
theorem dX4_worth_8 : decode cX4_worth 8 = .ok (.getfield 21, 3) := by decide +kernel
theorem dX4_worth_11 : decode cX4_worth 11 = .ok (.lmul, 1) := by decide +kernel
theorem dX4_worth_12 : decode cX4_worth 12 = .ok (.iload_n 3, 1) := by decide +kernel
theorem dX4_worth_13 : decode cX4_worth 13 = .ok (.i2l, 1) := by decide +kernel
theorem dX4_worth_14 : decode cX4_worth 14 = .ok (.aload_n 0, 1) := by decide +kernel
theorem dX4_worth_15 : decode cX4_worth 15 = .ok (.getfield 11, 3) := by decide +kernel
theorem dX4_worth_18 : decode cX4_worth 18 = .ok (.iload_n 1, 1) := by decide +kernel
theorem dX4_worth_19 : decode cX4_worth 19 = .ok (.iconst 1, 1) := by decide +kernel
theorem dX4_worth_20 : decode cX4_worth 20 = .ok (.iadd, 1) := by decide +kernel
theorem dX4_worth_21 : decode cX4_worth 21 = .ok (.invokestatic 43, 3) := by decide +kernel
theorem dX4_worth_24 : decode cX4_worth 24 = .ok (.lmul, 1) := by decide +kernel
theorem dX4_worth_25 : decode cX4_worth 25 = .ok (.ladd, 1) := by decide +kernel
theorem dX4_worth_26 : decode cX4_worth 26 = .ok (.bipush 20, 2) := by decide +kernel
theorem dX4_worth_28 : decode cX4_worth 28 = .ok (.iload_n 3, 1) := by decide +kernel
theorem dX4_worth_29 : decode cX4_worth 29 = .ok (.isub, 1) := by decide +kernel
theorem dX4_worth_30 : decode cX4_worth 30 = .ok (.i2l, 1) := by decide +kernel
theorem dX4_worth_31 : decode cX4_worth 31 = .ok (.aload_n 0, 1) := by decide +kernel
theorem dX4_worth_32 : decode cX4_worth 32 = .ok (.getfield 11, 3) := by decide +kernel
theorem dX4_worth_35 : decode cX4_worth 35 = .ok (.iload_n 1, 1) := by decide +kernel
theorem dX4_worth_36 : decode cX4_worth 36 = .ok (.invokestatic 43, 3) := by decide +kernel
theorem dX4_worth_39 : decode cX4_worth 39 = .ok (.lmul, 1) := by decide +kernel
theorem dX4_worth_40 : decode cX4_worth 40 = .ok (.ladd, 1) := by decide +kernel
theorem dX4_worth_41 : decode cX4_worth 41 = .ok (.lreturn, 1) := by decide +kernel
theorem dX4_bestLoad_0 : decode cX4_bestLoad 0 = .ok (.iconst 0, 1) := by decide +kernel
theorem dX4_bestLoad_1 : decode cX4_bestLoad 1 = .ok (.istore_n 3, 1) := by decide +kernel
theorem dX4_bestLoad_2 : decode cX4_bestLoad 2 = .ok (.aload_n 0, 1) := by decide +kernel
theorem dX4_bestLoad_3 : decode cX4_bestLoad 3 = .ok (.iload_n 1, 1) := by decide +kernel
theorem dX4_bestLoad_4 : decode cX4_bestLoad 4 = .ok (.iload_n 2, 1) := by decide +kernel
theorem dX4_bestLoad_5 : decode cX4_bestLoad 5 = .ok (.iconst 0, 1) := by decide +kernel
theorem dX4_bestLoad_6 : decode cX4_bestLoad 6 = .ok (.invokevirtual 37, 3) := by decide +kernel
theorem dX4_bestLoad_9 : decode cX4_bestLoad 9 = .ok (.lstore 4, 2) := by decide +kernel
theorem dX4_bestLoad_11 : decode cX4_bestLoad 11 = .ok (.iconst 1, 1) := by decide +kernel
theorem dX4_bestLoad_12 : decode cX4_bestLoad 12 = .ok (.istore 6, 2) := by decide +kernel
theorem dX4_bestLoad_14 : decode cX4_bestLoad 14 = .ok (.iload 6, 2) := by decide +kernel
theorem dX4_bestLoad_16 : decode cX4_bestLoad 16 = .ok (.bipush 9, 2) := by decide +kernel
theorem dX4_bestLoad_18 : decode cX4_bestLoad 18 = .ok (.if_icmp .gt 34, 3) := by decide +kernel
theorem dX4_bestLoad_21 : decode cX4_bestLoad 21 = .ok (.aload_n 0, 1) := by decide +kernel
theorem dX4_bestLoad_22 : decode cX4_bestLoad 22 = .ok (.iload_n 1, 1) := by decide +kernel
theorem dX4_bestLoad_23 : decode cX4_bestLoad 23 = .ok (.iload_n 2, 1) := by decide +kernel
theorem dX4_bestLoad_24 : decode cX4_bestLoad 24 = .ok (.iload 6, 2) := by decide +kernel
theorem dX4_bestLoad_26 : decode cX4_bestLoad 26 = .ok (.invokevirtual 37, 3) := by decide +kernel
theorem dX4_bestLoad_29 : decode cX4_bestLoad 29 = .ok (.lstore 7, 2) := by decide +kernel
theorem dX4_bestLoad_31 : decode cX4_bestLoad 31 = .ok (.lload 7, 2) := by decide +kernel
theorem dX4_bestLoad_33 : decode cX4_bestLoad 33 = .ok (.lload 4, 2) := by decide +kernel
theorem dX4_bestLoad_35 : decode cX4_bestLoad 35 = .ok (.lcmp, 1) := by decide +kernel
theorem dX4_bestLoad_36 : decode cX4_bestLoad 36 = .ok (.ifCond .le 10, 3) := by decide +kernel
theorem dX4_bestLoad_39 : decode cX4_bestLoad 39 = .ok (.iload 6, 2) := by decide +kernel
theorem dX4_bestLoad_41 : decode cX4_bestLoad 41 = .ok (.istore_n 3, 1) := by decide +kernel
theorem dX4_bestLoad_42 : decode cX4_bestLoad 42 = .ok (.lload 7, 2) := by decide +kernel
theorem dX4_bestLoad_44 : decode cX4_bestLoad 44 = .ok (.lstore 4, 2) := by decide +kernel
theorem dX4_bestLoad_46 : decode cX4_bestLoad 46 = .ok (.iinc 6 1, 3) := by decide +kernel
theorem dX4_bestLoad_49 : decode cX4_bestLoad 49 = .ok (.goto (-35), 3) := by decide +kernel
theorem dX4_bestLoad_52 : decode cX4_bestLoad 52 = .ok (.iload_n 3, 1) := by decide +kernel
theorem dX4_bestLoad_53 : decode cX4_bestLoad 53 = .ok (.ireturn, 1) := by decide +kernel
theorem dX5_init_0 : decode cX5_init 0 = .ok (.aload_n 0, 1) := by decide +kernel
theorem dX5_init_1 : decode cX5_init 1 = .ok (.invokespecial 3, 3) := by decide +kernel
theorem dX5_init_4 : decode cX5_init 4 = .ok (.aload_n 0, 1) := by decide +kernel
theorem dX5_init_5 : decode cX5_init 5 = .ok (.new 9, 3) := by decide +kernel
theorem dX5_init_8 : decode cX5_init 8 = .ok (.dup, 1) := by decide +kernel
theorem dX5_init_9 : decode cX5_init 9 = .ok (.invokespecial 11, 3) := by decide +kernel
theorem dX5_init_12 : decode cX5_init 12 = .ok (.putfield 12, 3) := by decide +kernel
theorem dX5_init_15 : decode cX5_init 15 = .ok (.aload_n 0, 1) := by decide +kernel
theorem dX5_init_16 : decode cX5_init 16 = .ok (.iconst 2, 1) := by decide +kernel
theorem dX5_init_17 : decode cX5_init 17 = .ok (.anewarray 9, 3) := by decide +kernel
theorem dX5_init_20 : decode cX5_init 20 = .ok (.putfield 16, 3) := by decide +kernel
theorem dX5_init_23 : decode cX5_init 23 = .ok (.aload_n 0, 1) := by decide +kernel
theorem dX5_init_24 : decode cX5_init 24 = .ok (.new 20, 3) := by decide +kernel
theorem dX5_init_27 : decode cX5_init 27 = .ok (.dup, 1) := by decide +kernel
theorem dX5_init_28 : decode cX5_init 28 = .ok (.invokespecial 22, 3) := by decide +kernel
theorem dX5_init_31 : decode cX5_init 31 = .ok (.putfield 23, 3) := by decide +kernel
theorem dX5_init_34 : decode cX5_init 34 = .ok (.aload_n 0, 1) := by decide +kernel
theorem dX5_init_35 : decode cX5_init 35 = .ok (.new 27, 3) := by decide +kernel
theorem dX5_init_38 : decode cX5_init 38 = .ok (.dup, 1) := by decide +kernel
theorem dX5_init_39 : decode cX5_init 39 = .ok (.invokespecial 29, 3) := by decide +kernel
theorem dX5_init_42 : decode cX5_init 42 = .ok (.putfield 30, 3) := by decide +kernel
theorem dX5_init_45 : decode cX5_init 45 = .ok (.aload_n 0, 1) := by decide +kernel
theorem dX5_init_46 : decode cX5_init 46 = .ok (.new 34, 3) := by decide +kernel
theorem dX5_init_49 : decode cX5_init 49 = .ok (.dup, 1) := by decide +kernel
theorem dX5_init_50 : decode cX5_init 50 = .ok (.invokespecial 36, 3) := by decide +kernel
theorem dX5_init_53 : decode cX5_init 53 = .ok (.putfield 37, 3) := by decide +kernel
theorem dX5_init_56 : decode cX5_init 56 = .ok (.aload_n 0, 1) := by decide +kernel
theorem dX5_init_57 : decode cX5_init 57 = .ok (.new 41, 3) := by decide +kernel
theorem dX5_init_60 : decode cX5_init 60 = .ok (.dup, 1) := by decide +kernel
theorem dX5_init_61 : decode cX5_init 61 = .ok (.invokespecial 43, 3) := by decide +kernel
theorem dX5_init_64 : decode cX5_init 64 = .ok (.putfield 44, 3) := by decide +kernel
theorem dX5_init_67 : decode cX5_init 67 = .ok (.aload_n 0, 1) := by decide +kernel
theorem dX5_init_68 : decode cX5_init 68 = .ok (.iconst 3, 1) := by decide +kernel
theorem dX5_init_69 : decode cX5_init 69 = .ok (.newarray .int, 2) := by decide +kernel
theorem dX5_init_71 : decode cX5_init 71 = .ok (.putfield 48, 3) := by decide +kernel
theorem dX5_init_74 : decode cX5_init 74 = .ok (.aload_n 0, 1) := by decide +kernel
theorem dX5_init_75 : decode cX5_init 75 = .ok (.iconst 1, 1) := by decide +kernel
theorem dX5_init_76 : decode cX5_init 76 = .ok (.putfield 52, 3) := by decide +kernel
theorem dX5_init_79 : decode cX5_init 79 = .ok (.aload_n 0, 1) := by decide +kernel
theorem dX5_init_80 : decode cX5_init 80 = .ok (.iconst 1, 1) := by decide +kernel
theorem dX5_init_81 : decode cX5_init 81 = .ok (.putfield 56, 3) := by decide +kernel
theorem dX5_init_84 : decode cX5_init 84 = .ok (.return_, 1) := by decide +kernel
theorem dX5_type_0 : decode cX5_type 0 = .ok (.iload_n 3, 1) := by decide +kernel
theorem dX5_type_1 : decode cX5_type 1 = .ok (.iconst 1, 1) := by decide +kernel
theorem dX5_type_2 : decode cX5_type 2 = .ok (.if_icmp .lt 9, 3) := by decide +kernel
theorem dX5_type_5 : decode cX5_type 5 = .ok (.iload_n 3, 1) := by decide +kernel
theorem dX5_type_6 : decode cX5_type 6 = .ok (.bipush 8, 2) := by decide +kernel
theorem dX5_type_8 : decode cX5_type 8 = .ok (.if_icmp .le 8, 3) := by decide +kernel
theorem dX5_type_11 : decode cX5_type 11 = .ok (.aload_n 0, 1) := by decide +kernel
theorem dX5_type_12 : decode cX5_type 12 = .ok (.invokevirtual 59, 3) := by decide +kernel
theorem dX5_type_15 : decode cX5_type 15 = .ok (.ireturn, 1) := by decide +kernel
theorem dX5_type_16 : decode cX5_type 16 = .ok (.aload_n 0, 1) := by decide +kernel
theorem dX5_type_17 : decode cX5_type 17 = .ok (.getfield 12, 3) := by decide +kernel
theorem dX5_type_20 : decode cX5_type 20 = .ok (.getfield 63, 3) := by decide +kernel
theorem dX5_type_23 : decode cX5_type 23 = .ok (.iload_n 3, 1) := by decide +kernel
theorem dX5_type_24 : decode cX5_type 24 = .ok (.iadd, 1) := by decide +kernel
theorem dX5_type_25 : decode cX5_type 25 = .ok (.bipush 120, 2) := by decide +kernel
theorem dX5_type_27 : decode cX5_type 27 = .ok (.if_icmp .le 8, 3) := by decide +kernel
theorem dX5_type_30 : decode cX5_type 30 = .ok (.aload_n 0, 1) := by decide +kernel
theorem dX5_type_31 : decode cX5_type 31 = .ok (.invokevirtual 67, 3) := by decide +kernel
theorem dX5_type_34 : decode cX5_type 34 = .ok (.ireturn, 1) := by decide +kernel
theorem dX5_type_35 : decode cX5_type 35 = .ok (.iload_n 3, 1) := by decide +kernel
theorem dX5_type_36 : decode cX5_type 36 = .ok (.iconst 1, 1) := by decide +kernel
theorem dX5_type_37 : decode cX5_type 37 = .ok (.isub, 1) := by decide +kernel
theorem dX5_type_38 : decode cX5_type 38 = .ok (.istore 4, 2) := by decide +kernel
theorem dX5_type_40 : decode cX5_type 40 = .ok (.iload 4, 2) := by decide +kernel
theorem dX5_type_42 : decode cX5_type 42 = .ok (.ifCond .lt 51, 3) := by decide +kernel
theorem dX5_type_45 : decode cX5_type 45 = .ok (.aload_n 0, 1) := by decide +kernel
theorem dX5_type_46 : decode cX5_type 46 = .ok (.getfield 12, 3) := by decide +kernel
theorem dX5_type_49 : decode cX5_type 49 = .ok (.getfield 70, 3) := by decide +kernel
theorem dX5_type_52 : decode cX5_type 52 = .ok (.aload_n 0, 1) := by decide +kernel
theorem dX5_type_53 : decode cX5_type 53 = .ok (.getfield 12, 3) := by decide +kernel
theorem dX5_type_56 : decode cX5_type 56 = .ok (.getfield 63, 3) := by decide +kernel
theorem dX5_type_59 : decode cX5_type 59 = .ok (.lload_n 1, 1) := by decide +kernel
theorem dX5_type_60 : decode cX5_type 60 = .ok (.bipush 8, 2) := by decide +kernel
theorem dX5_type_62 : decode cX5_type 62 = .ok (.iload 4, 2) := by decide +kernel
theorem dX5_type_64 : decode cX5_type 64 = .ok (.imul, 1) := by decide +kernel
theorem dX5_type_65 : decode cX5_type 65 = .ok (.lshr, 1) := by decide +kernel
theorem dX5_type_66 : decode cX5_type 66 = .ok (.l2i, 1) := by decide +kernel
theorem dX5_type_67 : decode cX5_type 67 = .ok (.sipush 255, 3) := by decide +kernel
theorem dX5_type_70 : decode cX5_type 70 = .ok (.iand, 1) := by decide +kernel
theorem dX5_type_71 : decode cX5_type 71 = .ok (.invokestatic 73, 3) := by decide +kernel
theorem dX5_type_74 : decode cX5_type 74 = .ok (.aload_n 0, 1) := by decide +kernel
theorem dX5_type_75 : decode cX5_type 75 = .ok (.getfield 12, 3) := by decide +kernel
theorem dX5_type_78 : decode cX5_type 78 = .ok (.dup, 1) := by decide +kernel
theorem dX5_type_79 : decode cX5_type 79 = .ok (.getfield 63, 3) := by decide +kernel
theorem dX5_type_82 : decode cX5_type 82 = .ok (.iconst 1, 1) := by decide +kernel
theorem dX5_type_83 : decode cX5_type 83 = .ok (.iadd, 1) := by decide +kernel
theorem dX5_type_84 : decode cX5_type 84 = .ok (.putfield 63, 3) := by decide +kernel
theorem dX5_type_87 : decode cX5_type 87 = .ok (.iinc 4 (-1), 3) := by decide +kernel
theorem dX5_type_90 : decode cX5_type 90 = .ok (.goto (-50), 3) := by decide +kernel
theorem dX5_type_93 : decode cX5_type 93 = .ok (.aload_n 0, 1) := by decide +kernel
theorem dX5_type_94 : decode cX5_type 94 = .ok (.invokevirtual 77, 3) := by decide +kernel
