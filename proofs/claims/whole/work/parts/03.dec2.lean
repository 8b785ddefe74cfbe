theorem dX6_against_82 : decode cX6_against 82 = .ok (.iload_n 3, 1) := by decide +kernel
theorem dX6_against_83 : decode cX6_against 83 = .ok (.iadd, 1) := by decide +kernel
theorem dX6_against_84 : decode cX6_against 84 = .ok (.iaload, 1) := by decide +kernel
theorem dX6_against_85 : decode cX6_against 85 = .ok (.aload_n 0, 1) := by decide +kernel
theorem dX6_against_86 : decode cX6_against 86 = .ok (.getfield 23, 3) := by decide +kernel
theorem dX6_against_89 : decode cX6_against 89 = .ok (.bipush 12, 2) := by decide +kernel
theorem dX6_against_91 : decode cX6_against 91 = .ok (.iload_n 2, 1) := by decide +kernel
theorem dX6_against_92 : decode cX6_against 92 = .ok (.imul, 1) := by decide +kernel
theorem dX6_against_93 : decode cX6_against 93 = .ok (.iload_n 3, 1) := by decide +kernel
theorem dX6_against_94 : decode cX6_against 94 = .ok (.iadd, 1) := by decide +kernel
theorem dX6_against_95 : decode cX6_against 95 = .ok (.iaload, 1) := by decide +kernel
theorem dX6_against_96 : decode cX6_against 96 = .ok (.if_icmp .ge 7, 3) := by decide +kernel
theorem dX6_against_99 : decode cX6_against 99 = .ok (.iconst (-1), 1) := by decide +kernel
theorem dX6_against_100 : decode cX6_against 100 = .ok (.goto 4, 3) := by decide +kernel
theorem dX6_against_103 : decode cX6_against 103 = .ok (.iconst 1, 1) := by decide +kernel
theorem dX6_against_104 : decode cX6_against 104 = .ok (.ireturn, 1) := by decide +kernel
theorem dX6_against_105 : decode cX6_against 105 = .ok (.iinc 3 (-1), 3) := by decide +kernel
theorem dX6_against_108 : decode cX6_against 108 = .ok (.goto (-63), 3) := by decide +kernel
theorem dX6_against_111 : decode cX6_against 111 = .ok (.iconst 0, 1) := by decide +kernel
theorem dX6_against_112 : decode cX6_against 112 = .ok (.ireturn, 1) := by decide +kernel
theorem dX6_isEven_0 : decode cX6_isEven 0 = .ok (.aload_n 0, 1) := by decide +kernel
theorem dX6_isEven_1 : decode cX6_isEven 1 = .ok (.getfield 23, 3) := by decide +kernel
theorem dX6_isEven_4 : decode cX6_isEven 4 = .ok (.bipush 12, 2) := by decide +kernel
theorem dX6_isEven_6 : decode cX6_isEven 6 = .ok (.iload_n 1, 1) := by decide +kernel
theorem dX6_isEven_7 : decode cX6_isEven 7 = .ok (.imul, 1) := by decide +kernel
theorem dX6_isEven_8 : decode cX6_isEven 8 = .ok (.iaload, 1) := by decide +kernel
theorem dX6_isEven_9 : decode cX6_isEven 9 = .ok (.iconst 1, 1) := by decide +kernel
theorem dX6_isEven_10 : decode cX6_isEven 10 = .ok (.iand, 1) := by decide +kernel
theorem dX6_isEven_11 : decode cX6_isEven 11 = .ok (.ifCond .ne 7, 3) := by decide +kernel
theorem dX6_isEven_14 : decode cX6_isEven 14 = .ok (.iconst 1, 1) := by decide +kernel
theorem dX6_isEven_15 : decode cX6_isEven 15 = .ok (.goto 4, 3) := by decide +kernel
theorem dX6_isEven_18 : decode cX6_isEven 18 = .ok (.iconst 0, 1) := by decide +kernel
theorem dX6_isEven_19 : decode cX6_isEven 19 = .ok (.ireturn, 1) := by decide +kernel
theorem dX6_halves_0 : decode cX6_halves 0 = .ok (.iconst 0, 1) := by decide +kernel
theorem dX6_halves_1 : decode cX6_halves 1 = .ok (.istore_n 2, 1) := by decide +kernel
theorem dX6_halves_2 : decode cX6_halves 2 = .ok (.iload_n 2, 1) := by decide +kernel
theorem dX6_halves_3 : decode cX6_halves 3 = .ok (.aload_n 0, 1) := by decide +kernel
theorem dX6_halves_4 : decode cX6_halves 4 = .ok (.getfield 26, 3) := by decide +kernel
theorem dX6_halves_7 : decode cX6_halves 7 = .ok (.iload_n 1, 1) := by decide +kernel
theorem dX6_halves_8 : decode cX6_halves 8 = .ok (.iaload, 1) := by decide +kernel
theorem dX6_halves_9 : decode cX6_halves 9 = .ok (.if_icmp .ge 70, 3) := by decide +kernel
theorem dX6_halves_12 : decode cX6_halves 12 = .ok (.iload_n 2, 1) := by decide +kernel
theorem dX6_halves_13 : decode cX6_halves 13 = .ok (.iconst 1, 1) := by decide +kernel
theorem dX6_halves_14 : decode cX6_halves 14 = .ok (.iadd, 1) := by decide +kernel
theorem dX6_halves_15 : decode cX6_halves 15 = .ok (.aload_n 0, 1) := by decide +kernel
theorem dX6_halves_16 : decode cX6_halves 16 = .ok (.getfield 26, 3) := by decide +kernel
theorem dX6_halves_19 : decode cX6_halves 19 = .ok (.iload_n 1, 1) := by decide +kernel
theorem dX6_halves_20 : decode cX6_halves 20 = .ok (.iaload, 1) := by decide +kernel
theorem dX6_halves_21 : decode cX6_halves 21 = .ok (.if_icmp .ge 21, 3) := by decide +kernel
theorem dX6_halves_24 : decode cX6_halves 24 = .ok (.aload_n 0, 1) := by decide +kernel
theorem dX6_halves_25 : decode cX6_halves 25 = .ok (.getfield 23, 3) := by decide +kernel
theorem dX6_halves_28 : decode cX6_halves 28 = .ok (.bipush 12, 2) := by decide +kernel
theorem dX6_halves_30 : decode cX6_halves 30 = .ok (.iload_n 1, 1) := by decide +kernel
theorem dX6_halves_31 : decode cX6_halves 31 = .ok (.imul, 1) := by decide +kernel
theorem dX6_halves_32 : decode cX6_halves 32 = .ok (.iload_n 2, 1) := by decide +kernel
theorem dX6_halves_33 : decode cX6_halves 33 = .ok (.iadd, 1) := by decide +kernel
theorem dX6_halves_34 : decode cX6_halves 34 = .ok (.iconst 1, 1) := by decide +kernel
theorem dX6_halves_35 : decode cX6_halves 35 = .ok (.iadd, 1) := by decide +kernel
theorem dX6_halves_36 : decode cX6_halves 36 = .ok (.iaload, 1) := by decide +kernel
theorem dX6_halves_37 : decode cX6_halves 37 = .ok (.iconst 1, 1) := by decide +kernel
theorem dX6_halves_38 : decode cX6_halves 38 = .ok (.iand, 1) := by decide +kernel
theorem dX6_halves_39 : decode cX6_halves 39 = .ok (.goto 4, 3) := by decide +kernel
theorem dX6_halves_42 : decode cX6_halves 42 = .ok (.iconst 0, 1) := by decide +kernel
theorem dX6_halves_43 : decode cX6_halves 43 = .ok (.istore_n 3, 1) := by decide +kernel
theorem dX6_halves_44 : decode cX6_halves 44 = .ok (.aload_n 0, 1) := by decide +kernel
theorem dX6_halves_45 : decode cX6_halves 45 = .ok (.getfield 23, 3) := by decide +kernel
theorem dX6_halves_48 : decode cX6_halves 48 = .ok (.bipush 12, 2) := by decide +kernel
theorem dX6_halves_50 : decode cX6_halves 50 = .ok (.iload_n 1, 1) := by decide +kernel
theorem dX6_halves_51 : decode cX6_halves 51 = .ok (.imul, 1) := by decide +kernel
theorem dX6_halves_52 : decode cX6_halves 52 = .ok (.iload_n 2, 1) := by decide +kernel
theorem dX6_halves_53 : decode cX6_halves 53 = .ok (.iadd, 1) := by decide +kernel
theorem dX6_halves_54 : decode cX6_halves 54 = .ok (.aload_n 0, 1) := by decide +kernel
theorem dX6_halves_55 : decode cX6_halves 55 = .ok (.getfield 23, 3) := by decide +kernel
theorem dX6_halves_58 : decode cX6_halves 58 = .ok (.bipush 12, 2) := by decide +kernel
theorem dX6_halves_60 : decode cX6_halves 60 = .ok (.iload_n 1, 1) := by decide +kernel
theorem dX6_halves_61 : decode cX6_halves 61 = .ok (.imul, 1) := by decide +kernel
theorem dX6_halves_62 : decode cX6_halves 62 = .ok (.iload_n 2, 1) := by decide +kernel
theorem dX6_halves_63 : decode cX6_halves 63 = .ok (.iadd, 1) := by decide +kernel
theorem dX6_halves_64 : decode cX6_halves 64 = .ok (.iaload, 1) := by decide +kernel
theorem dX6_halves_65 : decode cX6_halves 65 = .ok (.iconst 1, 1) := by decide +kernel
theorem dX6_halves_66 : decode cX6_halves 66 = .ok (.ishr, 1) := by decide +kernel
theorem dX6_halves_67 : decode cX6_halves 67 = .ok (.iload_n 3, 1) := by decide +kernel
theorem dX6_halves_68 : decode cX6_halves 68 = .ok (.bipush 29, 2) := by decide +kernel
theorem dX6_halves_70 : decode cX6_halves 70 = .ok (.ishl, 1) := by decide +kernel
theorem dX6_halves_71 : decode cX6_halves 71 = .ok (.ior, 1) := by decide +kernel
theorem dX6_halves_72 : decode cX6_halves 72 = .ok (.iastore, 1) := by decide +kernel
theorem dX6_halves_73 : decode cX6_halves 73 = .ok (.iinc 2 1, 3) := by decide +kernel
theorem dX6_halves_76 : decode cX6_halves 76 = .ok (.goto (-74), 3) := by decide +kernel
theorem dX6_halves_79 : decode cX6_halves 79 = .ok (.aload_n 0, 1) := by decide +kernel
theorem dX6_halves_80 : decode cX6_halves 80 = .ok (.iload_n 1, 1) := by decide +kernel
theorem dX6_halves_81 : decode cX6_halves 81 = .ok (.invokevirtual 64, 3) := by decide +kernel
theorem dX6_halves_84 : decode cX6_halves 84 = .ok (.return_, 1) := by decide +kernel
theorem dX6_lowers_0 : decode cX6_lowers 0 = .ok (.aload_n 0, 1) := by decide +kernel
theorem dX6_lowers_1 : decode cX6_lowers 1 = .ok (.getfield 26, 3) := by decide +kernel
theorem dX6_lowers_4 : decode cX6_lowers 4 = .ok (.iconst 0, 1) := by decide +kernel
theorem dX6_lowers_5 : decode cX6_lowers 5 = .ok (.iaload, 1) := by decide +kernel
theorem dX6_lowers_6 : decode cX6_lowers 6 = .ok (.ifCond .ne 10, 3) := by decide +kernel
theorem dX6_lowers_9 : decode cX6_lowers 9 = .ok (.aload_n 0, 1) := by decide +kernel
theorem dX6_lowers_10 : decode cX6_lowers 10 = .ok (.iconst 1, 1) := by decide +kernel
theorem dX6_lowers_11 : decode cX6_lowers 11 = .ok (.lconst 1, 1) := by decide +kernel
theorem dX6_lowers_12 : decode cX6_lowers 12 = .ok (.invokevirtual 54, 3) := by decide +kernel
theorem dX6_lowers_15 : decode cX6_lowers 15 = .ok (.return_, 1) := by decide +kernel
theorem dX6_lowers_16 : decode cX6_lowers 16 = .ok (.aload_n 0, 1) := by decide +kernel
theorem dX6_lowers_17 : decode cX6_lowers 17 = .ok (.iconst 0, 1) := by decide +kernel
theorem dX6_lowers_18 : decode cX6_lowers 18 = .ok (.invokevirtual 73, 3) := by decide +kernel
theorem dX6_lowers_21 : decode cX6_lowers 21 = .ok (.ifCond .eq 24, 3) := by decide +kernel
theorem dX6_lowers_24 : decode cX6_lowers 24 = .ok (.aload_n 0, 1) := by decide +kernel
theorem dX6_lowers_25 : decode cX6_lowers 25 = .ok (.iconst 1, 1) := by decide +kernel
theorem dX6_lowers_26 : decode cX6_lowers 26 = .ok (.invokevirtual 73, 3) := by decide +kernel
theorem dX6_lowers_29 : decode cX6_lowers 29 = .ok (.ifCond .eq 16, 3) := by decide +kernel
theorem dX6_lowers_32 : decode cX6_lowers 32 = .ok (.aload_n 0, 1) := by decide +kernel
theorem dX6_lowers_33 : decode cX6_lowers 33 = .ok (.iconst 0, 1) := by decide +kernel
theorem dX6_lowers_34 : decode cX6_lowers 34 = .ok (.invokevirtual 77, 3) := by decide +kernel
theorem dX6_lowers_37 : decode cX6_lowers 37 = .ok (.aload_n 0, 1) := by decide +kernel
theorem dX6_lowers_38 : decode cX6_lowers 38 = .ok (.iconst 1, 1) := by decide +kernel
theorem dX6_lowers_39 : decode cX6_lowers 39 = .ok (.invokevirtual 77, 3) := by decide +kernel
theorem dX6_lowers_42 : decode cX6_lowers 42 = .ok (.goto (-26), 3) := by decide +kernel
theorem dX6_lowers_45 : decode cX6_lowers 45 = .ok (.aload_n 0, 1) := by decide +kernel
theorem dX6_lowers_46 : decode cX6_lowers 46 = .ok (.iconst 2, 1) := by decide +kernel
theorem dX6_lowers_47 : decode cX6_lowers 47 = .ok (.iconst 0, 1) := by decide +kernel
theorem dX6_lowers_48 : decode cX6_lowers 48 = .ok (.invokevirtual 68, 3) := by decide +kernel
theorem dX6_lowers_51 : decode cX6_lowers 51 = .ok (.aload_n 0, 1) := by decide +kernel
theorem dX6_lowers_52 : decode cX6_lowers 52 = .ok (.iconst 3, 1) := by decide +kernel
theorem dX6_lowers_53 : decode cX6_lowers 53 = .ok (.iconst 1, 1) := by decide +kernel
theorem dX6_lowers_54 : decode cX6_lowers 54 = .ok (.invokevirtual 68, 3) := by decide +kernel
theorem dX6_lowers_57 : decode cX6_lowers 57 = .ok (.aload_n 0, 1) := by decide +kernel
theorem dX6_lowers_58 : decode cX6_lowers 58 = .ok (.getfield 26, 3) := by decide +kernel
theorem dX6_lowers_61 : decode cX6_lowers 61 = .ok (.iconst 2, 1) := by decide +kernel
theorem dX6_lowers_62 : decode cX6_lowers 62 = .ok (.iaload, 1) := by decide +kernel
theorem dX6_lowers_63 : decode cX6_lowers 63 = .ok (.ifCond .le 82, 3) := by decide +kernel
theorem dX6_lowers_66 : decode cX6_lowers 66 = .ok (.aload_n 0, 1) := by decide +kernel
theorem dX6_lowers_67 : decode cX6_lowers 67 = .ok (.iconst 2, 1) := by decide +kernel
theorem dX6_lowers_68 : decode cX6_lowers 68 = .ok (.invokevirtual 73, 3) := by decide +kernel
theorem dX6_lowers_71 : decode cX6_lowers 71 = .ok (.ifCond .eq 11, 3) := by decide +kernel
theorem dX6_lowers_74 : decode cX6_lowers 74 = .ok (.aload_n 0, 1) := by decide +kernel
theorem dX6_lowers_75 : decode cX6_lowers 75 = .ok (.iconst 2, 1) := by decide +kernel
theorem dX6_lowers_76 : decode cX6_lowers 76 = .ok (.invokevirtual 77, 3) := by decide +kernel
theorem dX6_lowers_79 : decode cX6_lowers 79 = .ok (.goto (-13), 3) := by decide +kernel
theorem dX6_lowers_82 : decode cX6_lowers 82 = .ok (.aload_n 0, 1) := by decide +kernel
theorem dX6_lowers_83 : decode cX6_lowers 83 = .ok (.iconst 3, 1) := by decide +kernel
theorem dX6_lowers_84 : decode cX6_lowers 84 = .ok (.invokevirtual 73, 3) := by decide +kernel
theorem dX6_lowers_87 : decode cX6_lowers 87 = .ok (.ifCond .eq 11, 3) := by decide +kernel
theorem dX6_lowers_90 : decode cX6_lowers 90 = .ok (.aload_n 0, 1) := by decide +kernel
theorem dX6_lowers_91 : decode cX6_lowers 91 = .ok (.iconst 3, 1) := by decide +kernel
theorem dX6_lowers_92 : decode cX6_lowers 92 = .ok (.invokevirtual 77, 3) := by decide +kernel
theorem dX6_lowers_95 : decode cX6_lowers 95 = .ok (.goto (-13), 3) := by decide +kernel
theorem dX6_lowers_98 : decode cX6_lowers 98 = .ok (.aload_n 0, 1) := by decide +kernel
theorem dX6_lowers_99 : decode cX6_lowers 99 = .ok (.iconst 2, 1) := by decide +kernel
theorem dX6_lowers_100 : decode cX6_lowers 100 = .ok (.iconst 3, 1) := by decide +kernel
theorem dX6_lowers_101 : decode cX6_lowers 101 = .ok (.invokevirtual 80, 3) := by decide +kernel
theorem dX6_lowers_104 : decode cX6_lowers 104 = .ok (.ifCond .lt 7, 3) := by decide +kernel
theorem dX6_lowers_107 : decode cX6_lowers 107 = .ok (.iconst 2, 1) := by decide +kernel
theorem dX6_lowers_108 : decode cX6_lowers 108 = .ok (.goto 4, 3) := by decide +kernel
theorem dX6_lowers_111 : decode cX6_lowers 111 = .ok (.iconst 3, 1) := by decide +kernel
theorem dX6_lowers_112 : decode cX6_lowers 112 = .ok (.istore_n 1, 1) := by decide +kernel
theorem dX6_lowers_113 : decode cX6_lowers 113 = .ok (.aload_n 0, 1) := by decide +kernel
theorem dX6_lowers_114 : decode cX6_lowers 114 = .ok (.iload_n 1, 1) := by decide +kernel
theorem dX6_lowers_115 : decode cX6_lowers 115 = .ok (.iconst 5, 1) := by decide +kernel
theorem dX6_lowers_116 : decode cX6_lowers 116 = .ok (.iload_n 1, 1) := by decide +kernel
theorem dX6_lowers_117 : decode cX6_lowers 117 = .ok (.isub, 1) := by decide +kernel
theorem dX6_lowers_118 : decode cX6_lowers 118 = .ok (.invokevirtual 83, 3) := by decide +kernel
theorem dX6_lowers_121 : decode cX6_lowers 121 = .ok (.aload_n 0, 1) := by decide +kernel
theorem dX6_lowers_122 : decode cX6_lowers 122 = .ok (.getfield 26, 3) := by decide +kernel
theorem dX6_lowers_125 : decode cX6_lowers 125 = .ok (.iconst 3, 1) := by decide +kernel
theorem dX6_lowers_126 : decode cX6_lowers 126 = .ok (.iaload, 1) := by decide +kernel
theorem dX6_lowers_127 : decode cX6_lowers 127 = .ok (.ifCond .ne 15, 3) := by decide +kernel
theorem dX6_lowers_130 : decode cX6_lowers 130 = .ok (.aload_n 0, 1) := by decide +kernel
theorem dX6_lowers_131 : decode cX6_lowers 131 = .ok (.iconst 3, 1) := by decide +kernel
theorem dX6_lowers_132 : decode cX6_lowers 132 = .ok (.iconst 2, 1) := by decide +kernel
theorem dX6_lowers_133 : decode cX6_lowers 133 = .ok (.invokevirtual 68, 3) := by decide +kernel
theorem dX6_lowers_136 : decode cX6_lowers 136 = .ok (.aload_n 0, 1) := by decide +kernel
theorem dX6_lowers_137 : decode cX6_lowers 137 = .ok (.iconst 2, 1) := by decide +kernel
theorem dX6_lowers_138 : decode cX6_lowers 138 = .ok (.lconst 0, 1) := by decide +kernel
theorem dX6_lowers_139 : decode cX6_lowers 139 = .ok (.invokevirtual 54, 3) := by decide +kernel
theorem dX6_lowers_142 : decode cX6_lowers 142 = .ok (.goto (-85), 3) := by decide +kernel
theorem dX6_lowers_145 : decode cX6_lowers 145 = .ok (.aload_n 0, 1) := by decide +kernel
theorem dX6_lowers_146 : decode cX6_lowers 146 = .ok (.iconst 0, 1) := by decide +kernel
theorem dX6_lowers_147 : decode cX6_lowers 147 = .ok (.invokevirtual 86, 3) := by decide +kernel
theorem dX6_lowers_150 : decode cX6_lowers 150 = .ok (.aload_n 0, 1) := by decide +kernel
theorem dX6_lowers_151 : decode cX6_lowers 151 = .ok (.iconst 1, 1) := by decide +kernel
theorem dX6_lowers_152 : decode cX6_lowers 152 = .ok (.invokevirtual 86, 3) := by decide +kernel
theorem dX6_lowers_155 : decode cX6_lowers 155 = .ok (.return_, 1) := by decide +kernel
theorem dX6_parts_0 : decode cX6_parts 0 = .ok (.iconst 1, 1) := by decide +kernel
theorem dX6_parts_1 : decode cX6_parts 1 = .ok (.istore_n 2, 1) := by decide +kernel
theorem dX6_parts_2 : decode cX6_parts 2 = .ok (.iconst 0, 1) := by decide +kernel
theorem dX6_parts_3 : decode cX6_parts 3 = .ok (.istore_n 3, 1) := by decide +kernel
theorem dX6_parts_4 : decode cX6_parts 4 = .ok (.iload_n 3, 1) := by decide +kernel
theorem dX6_parts_5 : decode cX6_parts 5 = .ok (.iconst 5, 1) := by decide +kernel
theorem dX6_parts_6 : decode cX6_parts 6 = .ok (.if_icmp .ge 23, 3) := by decide +kernel
theorem dX6_parts_9 : decode cX6_parts 9 = .ok (.iload_n 2, 1) := by decide +kernel
theorem dX6_parts_10 : decode cX6_parts 10 = .ok (.iconst 2, 1) := by decide +kernel
theorem dX6_parts_11 : decode cX6_parts 11 = .ok (.aload_n 0, 1) := by decide +kernel
theorem dX6_parts_12 : decode cX6_parts 12 = .ok (.getfield 23, 3) := by decide +kernel
theorem dX6_parts_15 : decode cX6_parts 15 = .ok (.bipush 36, 2) := by decide +kernel
theorem dX6_parts_17 : decode cX6_parts 17 = .ok (.iaload, 1) := by decide +kernel
theorem dX6_parts_18 : decode cX6_parts 18 = .ok (.iload_n 2, 1) := by decide +kernel
theorem dX6_parts_19 : decode cX6_parts 19 = .ok (.imul, 1) := by decide +kernel
theorem dX6_parts_20 : decode cX6_parts 20 = .ok (.isub, 1) := by decide +kernel
theorem dX6_parts_21 : decode cX6_parts 21 = .ok (.imul, 1) := by decide +kernel
theorem dX6_parts_22 : decode cX6_parts 22 = .ok (.istore_n 2, 1) := by decide +kernel
theorem dX6_parts_23 : decode cX6_parts 23 = .ok (.iinc 3 1, 3) := by decide +kernel
theorem dX6_parts_26 : decode cX6_parts 26 = .ok (.goto (-22), 3) := by decide +kernel
theorem dX6_parts_29 : decode cX6_parts 29 = .ok (.aload_n 0, 1) := by decide +kernel
theorem dX6_parts_30 : decode cX6_parts 30 = .ok (.getfield 26, 3) := by decide +kernel
theorem dX6_parts_33 : decode cX6_parts 33 = .ok (.iload_n 1, 1) := by decide +kernel
theorem dX6_parts_34 : decode cX6_parts 34 = .ok (.iaload, 1) := by decide +kernel
theorem dX6_parts_35 : decode cX6_parts 35 = .ok (.istore_n 3, 1) := by decide +kernel
theorem dX6_parts_36 : decode cX6_parts 36 = .ok (.iconst 0, 1) := by decide +kernel
theorem dX6_parts_37 : decode cX6_parts 37 = .ok (.istore 4, 2) := by decide +kernel
theorem dX6_parts_39 : decode cX6_parts 39 = .ok (.iload 4, 2) := by decide +kernel
theorem dX6_parts_41 : decode cX6_parts 41 = .ok (.iload_n 3, 1) := by decide +kernel
theorem dX6_parts_42 : decode cX6_parts 42 = .ok (.if_icmp .ge 147, 3) := by decide +kernel
theorem dX6_parts_45 : decode cX6_parts 45 = .ok (.aload_n 0, 1) := by decide +kernel
theorem dX6_parts_46 : decode cX6_parts 46 = .ok (.getfield 23, 3) := by decide +kernel
theorem dX6_parts_49 : decode cX6_parts 49 = .ok (.bipush 12, 2) := by decide +kernel
theorem dX6_parts_51 : decode cX6_parts 51 = .ok (.iload_n 1, 1) := by decide +kernel
theorem dX6_parts_52 : decode cX6_parts 52 = .ok (.imul, 1) := by decide +kernel
theorem dX6_parts_53 : decode cX6_parts 53 = .ok (.iload 4, 2) := by decide +kernel
theorem dX6_parts_55 : decode cX6_parts 55 = .ok (.iadd, 1) := by decide +kernel
theorem dX6_parts_56 : decode cX6_parts 56 = .ok (.iaload, 1) := by decide +kernel
theorem dX6_parts_57 : decode cX6_parts 57 = .ok (.iload_n 2, 1) := by decide +kernel
theorem dX6_parts_58 : decode cX6_parts 58 = .ok (.imul, 1) := by decide +kernel
theorem dX6_parts_59 : decode cX6_parts 59 = .ok (.ldc 72, 2) := by decide +kernel
theorem dX6_parts_61 : decode cX6_parts 61 = .ok (.iand, 1) := by decide +kernel
theorem dX6_parts_62 : decode cX6_parts 62 = .ok (.istore 5, 2) := by decide +kernel
theorem dX6_parts_64 : decode cX6_parts 64 = .ok (.lconst 0, 1) := by decide +kernel
theorem dX6_parts_65 : decode cX6_parts 65 = .ok (.lstore 6, 2) := by decide +kernel
theorem dX6_parts_67 : decode cX6_parts 67 = .ok (.iconst 0, 1) := by decide +kernel
theorem dX6_parts_68 : decode cX6_parts 68 = .ok (.istore 8, 2) := by decide +kernel
theorem dX6_parts_70 : decode cX6_parts 70 = .ok (.iload 4, 2) := by decide +kernel
theorem dX6_parts_72 : decode cX6_parts 72 = .ok (.iload 8, 2) := by decide +kernel
theorem dX6_parts_74 : decode cX6_parts 74 = .ok (.iadd, 1) := by decide +kernel
theorem dX6_parts_75 : decode cX6_parts 75 = .ok (.iload_n 3, 1) := by decide +kernel
theorem dX6_parts_76 : decode cX6_parts 76 = .ok (.if_icmp .ge 95, 3) := by decide +kernel
theorem dX6_parts_79 : decode cX6_parts 79 = .ok (.iload 8, 2) := by decide +kernel
theorem dX6_parts_81 : decode cX6_parts 81 = .ok (.aload_n 0, 1) := by decide +kernel
theorem dX6_parts_82 : decode cX6_parts 82 = .ok (.getfield 26, 3) := by decide +kernel
theorem dX6_parts_85 : decode cX6_parts 85 = .ok (.iconst 3, 1) := by decide +kernel
theorem dX6_parts_86 : decode cX6_parts 86 = .ok (.iaload, 1) := by decide +kernel
theorem dX6_parts_87 : decode cX6_parts 87 = .ok (.if_icmp .ge 21, 3) := by decide +kernel
theorem dX6_parts_90 : decode cX6_parts 90 = .ok (.iload 5, 2) := by decide +kernel
theorem dX6_parts_92 : decode cX6_parts 92 = .ok (.i2l, 1) := by decide +kernel
theorem dX6_parts_93 : decode cX6_parts 93 = .ok (.aload_n 0, 1) := by decide +kernel
theorem dX6_parts_94 : decode cX6_parts 94 = .ok (.getfield 23, 3) := by decide +kernel
theorem dX6_parts_97 : decode cX6_parts 97 = .ok (.bipush 36, 2) := by decide +kernel
theorem dX6_parts_99 : decode cX6_parts 99 = .ok (.iload 8, 2) := by decide +kernel
theorem dX6_parts_101 : decode cX6_parts 101 = .ok (.iadd, 1) := by decide +kernel
theorem dX6_parts_102 : decode cX6_parts 102 = .ok (.iaload, 1) := by decide +kernel
theorem dX6_parts_103 : decode cX6_parts 103 = .ok (.i2l, 1) := by decide +kernel
theorem dX6_parts_104 : decode cX6_parts 104 = .ok (.lmul, 1) := by decide +kernel
theorem dX6_parts_105 : decode cX6_parts 105 = .ok (.goto 4, 3) := by decide +kernel
theorem dX6_parts_108 : decode cX6_parts 108 = .ok (.lconst 0, 1) := by decide +kernel
theorem dX6_parts_109 : decode cX6_parts 109 = .ok (.lstore 9, 2) := by decide +kernel
theorem dX6_parts_111 : decode cX6_parts 111 = .ok (.aload_n 0, 1) := by decide +kernel
theorem dX6_parts_112 : decode cX6_parts 112 = .ok (.getfield 23, 3) := by decide +kernel
theorem dX6_parts_115 : decode cX6_parts 115 = .ok (.bipush 12, 2) := by decide +kernel
theorem dX6_parts_117 : decode cX6_parts 117 = .ok (.iload_n 1, 1) := by decide +kernel
theorem dX6_parts_118 : decode cX6_parts 118 = .ok (.imul, 1) := by decide +kernel
theorem dX6_parts_119 : decode cX6_parts 119 = .ok (.iload 4, 2) := by decide +kernel
theorem dX6_parts_121 : decode cX6_parts 121 = .ok (.iadd, 1) := by decide +kernel
theorem dX6_parts_122 : decode cX6_parts 122 = .ok (.iload 8, 2) := by decide +kernel
theorem dX6_parts_124 : decode cX6_parts 124 = .ok (.iadd, 1) := by decide +kernel
theorem dX6_parts_125 : decode cX6_parts 125 = .ok (.iaload, 1) := by decide +kernel
theorem dX6_parts_126 : decode cX6_parts 126 = .ok (.i2l, 1) := by decide +kernel
theorem dX6_parts_127 : decode cX6_parts 127 = .ok (.lload 9, 2) := by decide +kernel
theorem dX6_parts_129 : decode cX6_parts 129 = .ok (.lsub, 1) := by decide +kernel
theorem dX6_parts_130 : decode cX6_parts 130 = .ok (.lload 6, 2) := by decide +kernel
theorem dX6_parts_132 : decode cX6_parts 132 = .ok (.lsub, 1) := by decide +kernel
theorem dX6_parts_133 : decode cX6_parts 133 = .ok (.lstore 11, 2) := by decide +kernel
theorem dX6_parts_135 : decode cX6_parts 135 = .ok (.aload_n 0, 1) := by decide +kernel
theorem dX6_parts_136 : decode cX6_parts 136 = .ok (.getfield 23, 3) := by decide +kernel
theorem dX6_parts_139 : decode cX6_parts 139 = .ok (.bipush 12, 2) := by decide +kernel
theorem dX6_parts_141 : decode cX6_parts 141 = .ok (.iload_n 1, 1) := by decide +kernel
theorem dX6_parts_142 : decode cX6_parts 142 = .ok (.imul, 1) := by decide +kernel
theorem dX6_parts_143 : decode cX6_parts 143 = .ok (.iload 4, 2) := by decide +kernel
theorem dX6_parts_145 : decode cX6_parts 145 = .ok (.iadd, 1) := by decide +kernel
theorem dX6_parts_146 : decode cX6_parts 146 = .ok (.iload 8, 2) := by decide +kernel
theorem dX6_parts_148 : decode cX6_parts 148 = .ok (.iadd, 1) := by decide +kernel
theorem dX6_parts_149 : decode cX6_parts 149 = .ok (.lload 11, 2) := by decide +kernel
theorem dX6_parts_151 : decode cX6_parts 151 = .ok (.ldc2_w 62, 3) := by decide +kernel
theorem dX6_parts_154 : decode cX6_parts 154 = .ok (.land, 1) := by decide +kernel
theorem dX6_parts_155 : decode cX6_parts 155 = .ok (.l2i, 1) := by decide +kernel
theorem dX6_parts_156 : decode cX6_parts 156 = .ok (.iastore, 1) := by decide +kernel
theorem dX6_parts_157 : decode cX6_parts 157 = .ok (.lload 11, 2) := by decide +kernel
theorem dX6_parts_159 : decode cX6_parts 159 = .ok (.bipush 30, 2) := by decide +kernel
theorem dX6_parts_161 : decode cX6_parts 161 = .ok (.lshr, 1) := by decide +kernel
theorem dX6_parts_162 : decode cX6_parts 162 = .ok (.lneg, 1) := by decide +kernel
theorem dX6_parts_163 : decode cX6_parts 163 = .ok (.lstore 6, 2) := by decide +kernel
theorem dX6_parts_165 : decode cX6_parts 165 = .ok (.iinc 8 1, 3) := by decide +kernel
theorem dX6_parts_168 : decode cX6_parts 168 = .ok (.goto (-98), 3) := by decide +kernel
theorem dX6_parts_171 : decode cX6_parts 171 = .ok (.aload_n 0, 1) := by decide +kernel
theorem dX6_parts_172 : decode cX6_parts 172 = .ok (.getfield 23, 3) := by decide +kernel
theorem dX6_parts_175 : decode cX6_parts 175 = .ok (.bipush 48, 2) := by decide +kernel
theorem dX6_parts_177 : decode cX6_parts 177 = .ok (.iload 4, 2) := by decide +kernel
theorem dX6_parts_179 : decode cX6_parts 179 = .ok (.iadd, 1) := by decide +kernel
theorem dX6_parts_180 : decode cX6_parts 180 = .ok (.iload 5, 2) := by decide +kernel
theorem dX6_parts_182 : decode cX6_parts 182 = .ok (.iastore, 1) := by decide +kernel
theorem dX6_parts_183 : decode cX6_parts 183 = .ok (.iinc 4 1, 3) := by decide +kernel
theorem dX6_parts_186 : decode cX6_parts 186 = .ok (.goto (-147), 3) := by decide +kernel
theorem dX6_parts_189 : decode cX6_parts 189 = .ok (.iconst 0, 1) := by decide +kernel
theorem dX6_parts_190 : decode cX6_parts 190 = .ok (.istore 4, 2) := by decide +kernel
theorem dX6_parts_192 : decode cX6_parts 192 = .ok (.iload 4, 2) := by decide +kernel
theorem dX6_parts_194 : decode cX6_parts 194 = .ok (.iload_n 3, 1) := by decide +kernel
theorem dX6_parts_195 : decode cX6_parts 195 = .ok (.if_icmp .ge 31, 3) := by decide +kernel
theorem dX6_parts_198 : decode cX6_parts 198 = .ok (.aload_n 0, 1) := by decide +kernel
theorem dX6_parts_199 : decode cX6_parts 199 = .ok (.getfield 23, 3) := by decide +kernel
theorem dX6_parts_202 : decode cX6_parts 202 = .ok (.bipush 12, 2) := by decide +kernel
theorem dX6_parts_204 : decode cX6_parts 204 = .ok (.iload_n 1, 1) := by decide +kernel
theorem dX6_parts_205 : decode cX6_parts 205 = .ok (.imul, 1) := by decide +kernel
theorem dX6_parts_206 : decode cX6_parts 206 = .ok (.iload 4, 2) := by decide +kernel
theorem dX6_parts_208 : decode cX6_parts 208 = .ok (.iadd, 1) := by decide +kernel
theorem dX6_parts_209 : decode cX6_parts 209 = .ok (.aload_n 0, 1) := by decide +kernel
theorem dX6_parts_210 : decode cX6_parts 210 = .ok (.getfield 23, 3) := by decide +kernel
theorem dX6_parts_213 : decode cX6_parts 213 = .ok (.bipush 48, 2) := by decide +kernel
theorem dX6_parts_215 : decode cX6_parts 215 = .ok (.iload 4, 2) := by decide +kernel
theorem dX6_parts_217 : decode cX6_parts 217 = .ok (.iadd, 1) := by decide +kernel
theorem dX6_parts_218 : decode cX6_parts 218 = .ok (.iaload, 1) := by decide +kernel
theorem dX6_parts_219 : decode cX6_parts 219 = .ok (.iastore, 1) := by decide +kernel
theorem dX6_parts_220 : decode cX6_parts 220 = .ok (.iinc 4 1, 3) := by decide +kernel
theorem dX6_parts_223 : decode cX6_parts 223 = .ok (.goto (-31), 3) := by decide +kernel
theorem dX6_parts_226 : decode cX6_parts 226 = .ok (.aload_n 0, 1) := by decide +kernel
theorem dX6_parts_227 : decode cX6_parts 227 = .ok (.iload_n 1, 1) := by decide +kernel
theorem dX6_parts_228 : decode cX6_parts 228 = .ok (.invokevirtual 64, 3) := by decide +kernel
theorem dX6_parts_231 : decode cX6_parts 231 = .ok (.return_, 1) := by decide +kernel
theorem dX6_signNow_0 : decode cX6_signNow 0 = .ok (.aload_n 0, 1) := by decide +kernel
theorem dX6_signNow_1 : decode cX6_signNow 1 = .ok (.getfield 26, 3) := by decide +kernel
theorem dX6_signNow_4 : decode cX6_signNow 4 = .ok (.iconst 0, 1) := by decide +kernel
theorem dX6_signNow_5 : decode cX6_signNow 5 = .ok (.iaload, 1) := by decide +kernel
theorem dX6_signNow_6 : decode cX6_signNow 6 = .ok (.ifCond .ne 7, 3) := by decide +kernel
theorem dX6_signNow_9 : decode cX6_signNow 9 = .ok (.iconst 0, 1) := by decide +kernel
theorem dX6_signNow_10 : decode cX6_signNow 10 = .ok (.goto 15, 3) := by decide +kernel
theorem dX6_signNow_13 : decode cX6_signNow 13 = .ok (.aload_n 0, 1) := by decide +kernel
theorem dX6_signNow_14 : decode cX6_signNow 14 = .ok (.getfield 89, 3) := by decide +kernel
theorem dX6_signNow_17 : decode cX6_signNow 17 = .ok (.ifCond .eq 7, 3) := by decide +kernel
theorem dX6_signNow_20 : decode cX6_signNow 20 = .ok (.iconst (-1), 1) := by decide +kernel
theorem dX6_signNow_21 : decode cX6_signNow 21 = .ok (.goto 4, 3) := by decide +kernel
theorem dX6_signNow_24 : decode cX6_signNow 24 = .ok (.iconst 1, 1) := by decide +kernel
theorem dX6_signNow_25 : decode cX6_signNow 25 = .ok (.ireturn, 1) := by decide +kernel
theorem dX6_sign_0 : decode cX6_sign 0 = .ok (.iload_n 1, 1) := by decide +kernel
theorem dX6_sign_1 : decode cX6_sign 1 = .ok (.ifCond .ne 10, 3) := by decide +kernel
theorem dX6_sign_4 : decode cX6_sign 4 = .ok (.aload_n 0, 1) := by decide +kernel
theorem dX6_sign_5 : decode cX6_sign 5 = .ok (.invokevirtual 93, 3) := by decide +kernel
theorem dX6_sign_8 : decode cX6_sign 8 = .ok (.goto 35, 3) := by decide +kernel
theorem dX6_sign_11 : decode cX6_sign 11 = .ok (.iload_n 1, 1) := by decide +kernel
theorem dX6_sign_12 : decode cX6_sign 12 = .ok (.iconst 1, 1) := by decide +kernel
theorem dX6_sign_13 : decode cX6_sign 13 = .ok (.if_icmp .ne 12, 3) := by decide +kernel
theorem dX6_sign_16 : decode cX6_sign 16 = .ok (.aload_n 0, 1) := by decide +kernel
theorem dX6_sign_17 : decode cX6_sign 17 = .ok (.getfield 26, 3) := by decide +kernel
theorem dX6_sign_20 : decode cX6_sign 20 = .ok (.iconst 0, 1) := by decide +kernel
theorem dX6_sign_21 : decode cX6_sign 21 = .ok (.iaload, 1) := by decide +kernel
theorem dX6_sign_22 : decode cX6_sign 22 = .ok (.goto 21, 3) := by decide +kernel
theorem dX6_sign_25 : decode cX6_sign 25 = .ok (.iload_n 1, 1) := by decide +kernel
theorem dX6_sign_26 : decode cX6_sign 26 = .ok (.iconst 2, 1) := by decide +kernel
theorem dX6_sign_27 : decode cX6_sign 27 = .ok (.if_icmp .ne 12, 3) := by decide +kernel
theorem dX6_sign_30 : decode cX6_sign 30 = .ok (.aload_n 0, 1) := by decide +kernel
theorem dX6_sign_31 : decode cX6_sign 31 = .ok (.getfield 26, 3) := by decide +kernel
theorem dX6_sign_34 : decode cX6_sign 34 = .ok (.iconst 1, 1) := by decide +kernel
theorem dX6_sign_35 : decode cX6_sign 35 = .ok (.iaload, 1) := by decide +kernel
theorem dX6_sign_36 : decode cX6_sign 36 = .ok (.goto 7, 3) := by decide +kernel
theorem dX6_sign_39 : decode cX6_sign 39 = .ok (.aload_n 0, 1) := by decide +kernel
theorem dX6_sign_40 : decode cX6_sign 40 = .ok (.invokevirtual 97, 3) := by decide +kernel
theorem dX6_sign_43 : decode cX6_sign 43 = .ok (.ireturn, 1) := by decide +kernel
theorem dX6_limb_0 : decode cX6_limb 0 = .ok (.iload_n 1, 1) := by decide +kernel
theorem dX6_limb_1 : decode cX6_limb 1 = .ok (.i2l, 1) := by decide +kernel
theorem dX6_limb_2 : decode cX6_limb 2 = .ok (.lconst 0, 1) := by decide +kernel
theorem dX6_limb_3 : decode cX6_limb 3 = .ok (.lconst 1, 1) := by decide +kernel
theorem dX6_limb_4 : decode cX6_limb 4 = .ok (.invokestatic 100, 3) := by decide +kernel
theorem dX6_limb_7 : decode cX6_limb 7 = .ok (.ifCond .eq 7, 3) := by decide +kernel
theorem dX6_limb_10 : decode cX6_limb 10 = .ok (.iload_n 2, 1) := by decide +kernel
theorem dX6_limb_11 : decode cX6_limb 11 = .ok (.ifCond .ge 8, 3) := by decide +kernel
theorem dX6_limb_14 : decode cX6_limb 14 = .ok (.aload_n 0, 1) := by decide +kernel
theorem dX6_limb_15 : decode cX6_limb 15 = .ok (.invokevirtual 97, 3) := by decide +kernel
theorem dX6_limb_18 : decode cX6_limb 18 = .ok (.ireturn, 1) := by decide +kernel
theorem dX6_limb_19 : decode cX6_limb 19 = .ok (.iload_n 2, 1) := by decide +kernel
theorem dX6_limb_20 : decode cX6_limb 20 = .ok (.aload_n 0, 1) := by decide +kernel
theorem dX6_limb_21 : decode cX6_limb 21 = .ok (.getfield 26, 3) := by decide +kernel
theorem dX6_limb_24 : decode cX6_limb 24 = .ok (.iload_n 1, 1) := by decide +kernel
theorem dX6_limb_25 : decode cX6_limb 25 = .ok (.iaload, 1) := by decide +kernel
theorem dX6_limb_26 : decode cX6_limb 26 = .ok (.if_icmp .ge 17, 3) := by decide +kernel
theorem dX6_limb_29 : decode cX6_limb 29 = .ok (.aload_n 0, 1) := by decide +kernel
theorem dX6_limb_30 : decode cX6_limb 30 = .ok (.getfield 23, 3) := by decide +kernel
theorem dX6_limb_33 : decode cX6_limb 33 = .ok (.bipush 12, 2) := by decide +kernel
theorem dX6_limb_35 : decode cX6_limb 35 = .ok (.iload_n 1, 1) := by decide +kernel
theorem dX6_limb_36 : decode cX6_limb 36 = .ok (.imul, 1) := by decide +kernel
theorem dX6_limb_37 : decode cX6_limb 37 = .ok (.iload_n 2, 1) := by decide +kernel
theorem dX6_limb_38 : decode cX6_limb 38 = .ok (.iadd, 1) := by decide +kernel
theorem dX6_limb_39 : decode cX6_limb 39 = .ok (.iaload, 1) := by decide +kernel
theorem dX6_limb_40 : decode cX6_limb 40 = .ok (.goto 4, 3) := by decide +kernel
theorem dX6_limb_43 : decode cX6_limb 43 = .ok (.iconst (-1), 1) := by decide +kernel
theorem dX6_limb_44 : decode cX6_limb 44 = .ok (.ireturn, 1) := by decide +kernel
theorem dX6_tells_0 : decode cX6_tells 0 = .ok (.aload_n 0, 1) := by decide +kernel
theorem dX6_tells_1 : decode cX6_tells 1 = .ok (.iconst 0, 1) := by decide +kernel
theorem dX6_tells_2 : decode cX6_tells 2 = .ok (.lload_n 1, 1) := by decide +kernel
theorem dX6_tells_3 : decode cX6_tells 3 = .ok (.lconst 0, 1) := by decide +kernel
theorem dX6_tells_4 : decode cX6_tells 4 = .ok (.lcmp, 1) := by decide +kernel
theorem dX6_tells_5 : decode cX6_tells 5 = .ok (.ifCond .ge 8, 3) := by decide +kernel
theorem dX6_tells_8 : decode cX6_tells 8 = .ok (.lload_n 1, 1) := by decide +kernel
theorem dX6_tells_9 : decode cX6_tells 9 = .ok (.lneg, 1) := by decide +kernel
theorem dX6_tells_10 : decode cX6_tells 10 = .ok (.goto 4, 3) := by decide +kernel
theorem dX6_tells_13 : decode cX6_tells 13 = .ok (.lload_n 1, 1) := by decide +kernel
theorem dX6_tells_14 : decode cX6_tells 14 = .ok (.invokevirtual 54, 3) := by decide +kernel
theorem dX6_tells_17 : decode cX6_tells 17 = .ok (.aload_n 0, 1) := by decide +kernel
theorem dX6_tells_18 : decode cX6_tells 18 = .ok (.iconst 1, 1) := by decide +kernel
theorem dX6_tells_19 : decode cX6_tells 19 = .ok (.lload_n 3, 1) := by decide +kernel
theorem dX6_tells_20 : decode cX6_tells 20 = .ok (.invokevirtual 54, 3) := by decide +kernel
theorem dX6_tells_23 : decode cX6_tells 23 = .ok (.aload_n 0, 1) := by decide +kernel
theorem dX6_tells_24 : decode cX6_tells 24 = .ok (.invokevirtual 104, 3) := by decide +kernel
theorem dX6_tells_27 : decode cX6_tells 27 = .ok (.aload_n 0, 1) := by decide +kernel
theorem dX6_tells_28 : decode cX6_tells 28 = .ok (.lload_n 1, 1) := by decide +kernel
theorem dX6_tells_29 : decode cX6_tells 29 = .ok (.lconst 0, 1) := by decide +kernel
theorem dX6_tells_30 : decode cX6_tells 30 = .ok (.lcmp, 1) := by decide +kernel
theorem dX6_tells_31 : decode cX6_tells 31 = .ok (.ifCond .ge 7, 3) := by decide +kernel
theorem dX6_tells_34 : decode cX6_tells 34 = .ok (.iconst 1, 1) := by decide +kernel
theorem dX6_tells_35 : decode cX6_tells 35 = .ok (.goto 4, 3) := by decide +kernel
theorem dX6_tells_38 : decode cX6_tells 38 = .ok (.iconst 0, 1) := by decide +kernel
theorem dX6_tells_39 : decode cX6_tells 39 = .ok (.putfield 89, 3) := by decide +kernel
theorem dX6_tells_42 : decode cX6_tells 42 = .ok (.iconst 1, 1) := by decide +kernel
theorem dX6_tells_43 : decode cX6_tells 43 = .ok (.ireturn, 1) := by decide +kernel
theorem dX6_puts_0 : decode cX6_puts 0 = .ok (.aload_n 0, 1) := by decide +kernel
theorem dX6_puts_1 : decode cX6_puts 1 = .ok (.getfield 7, 3) := by decide +kernel
theorem dX6_puts_4 : decode cX6_puts 4 = .ok (.iload_n 1, 1) := by decide +kernel
theorem dX6_puts_5 : decode cX6_puts 5 = .ok (.iaload, 1) := by decide +kernel
theorem dX6_puts_6 : decode cX6_puts 6 = .ok (.istore_n 3, 1) := by decide +kernel
theorem dX6_puts_7 : decode cX6_puts 7 = .ok (.aload_n 0, 1) := by decide +kernel
theorem dX6_puts_8 : decode cX6_puts 8 = .ok (.getfield 7, 3) := by decide +kernel
theorem dX6_puts_11 : decode cX6_puts 11 = .ok (.iload_n 1, 1) := by decide +kernel
theorem dX6_puts_12 : decode cX6_puts 12 = .ok (.iload_n 2, 1) := by decide +kernel
theorem dX6_puts_13 : decode cX6_puts 13 = .ok (.iastore, 1) := by decide +kernel
theorem dX6_puts_14 : decode cX6_puts 14 = .ok (.iload_n 3, 1) := by decide +kernel
theorem dX6_puts_15 : decode cX6_puts 15 = .ok (.ireturn, 1) := by decide +kernel
theorem dX6_type_0 : decode cX6_type 0 = .ok (.iload_n 3, 1) := by decide +kernel
theorem dX6_type_1 : decode cX6_type 1 = .ok (.i2l, 1) := by decide +kernel
theorem dX6_type_2 : decode cX6_type 2 = .ok (.lconst 1, 1) := by decide +kernel
theorem dX6_type_3 : decode cX6_type 3 = .ok (.ldc2_w 107, 3) := by decide +kernel
theorem dX6_type_6 : decode cX6_type 6 = .ok (.invokestatic 100, 3) := by decide +kernel
theorem dX6_type_9 : decode cX6_type 9 = .ok (.ifCond .ne 8, 3) := by decide +kernel
theorem dX6_type_12 : decode cX6_type 12 = .ok (.aload_n 0, 1) := by decide +kernel
theorem dX6_type_13 : decode cX6_type 13 = .ok (.invokevirtual 97, 3) := by decide +kernel
theorem dX6_type_16 : decode cX6_type 16 = .ok (.ireturn, 1) := by decide +kernel
theorem dX6_type_17 : decode cX6_type 17 = .ok (.aload_n 0, 1) := by decide +kernel
theorem dX6_type_18 : decode cX6_type 18 = .ok (.getfield 7, 3) := by decide +kernel
theorem dX6_type_21 : decode cX6_type 21 = .ok (.iconst 0, 1) := by decide +kernel
theorem dX6_type_22 : decode cX6_type 22 = .ok (.iaload, 1) := by decide +kernel
theorem dX6_type_23 : decode cX6_type 23 = .ok (.iload_n 3, 1) := by decide +kernel
theorem dX6_type_24 : decode cX6_type 24 = .ok (.iadd, 1) := by decide +kernel
theorem dX6_type_25 : decode cX6_type 25 = .ok (.bipush 120, 2) := by decide +kernel
theorem dX6_type_27 : decode cX6_type 27 = .ok (.if_icmp .le 8, 3) := by decide +kernel
theorem dX6_type_30 : decode cX6_type 30 = .ok (.aload_n 0, 1) := by decide +kernel
theorem dX6_type_31 : decode cX6_type 31 = .ok (.invokevirtual 109, 3) := by decide +kernel
theorem dX6_type_34 : decode cX6_type 34 = .ok (.ireturn, 1) := by decide +kernel
theorem dX6_type_35 : decode cX6_type 35 = .ok (.iload_n 3, 1) := by decide +kernel
theorem dX6_type_36 : decode cX6_type 36 = .ok (.iconst 1, 1) := by decide +kernel
theorem dX6_type_37 : decode cX6_type 37 = .ok (.isub, 1) := by decide +kernel
theorem dX6_type_38 : decode cX6_type 38 = .ok (.istore 4, 2) := by decide +kernel
theorem dX6_type_40 : decode cX6_type 40 = .ok (.iload 4, 2) := by decide +kernel
theorem dX6_type_42 : decode cX6_type 42 = .ok (.ifCond .lt 45, 3) := by decide +kernel
theorem dX6_type_45 : decode cX6_type 45 = .ok (.aload_n 0, 1) := by decide +kernel
theorem dX6_type_46 : decode cX6_type 46 = .ok (.getfield 7, 3) := by decide +kernel
theorem dX6_type_49 : decode cX6_type 49 = .ok (.bipush 80, 2) := by decide +kernel
theorem dX6_type_51 : decode cX6_type 51 = .ok (.aload_n 0, 1) := by decide +kernel
theorem dX6_type_52 : decode cX6_type 52 = .ok (.getfield 7, 3) := by decide +kernel
theorem dX6_type_55 : decode cX6_type 55 = .ok (.iconst 0, 1) := by decide +kernel
theorem dX6_type_56 : decode cX6_type 56 = .ok (.iaload, 1) := by decide +kernel
theorem dX6_type_57 : decode cX6_type 57 = .ok (.iadd, 1) := by decide +kernel
theorem dX6_type_58 : decode cX6_type 58 = .ok (.lload_n 1, 1) := by decide +kernel
theorem dX6_type_59 : decode cX6_type 59 = .ok (.bipush 8, 2) := by decide +kernel
theorem dX6_type_61 : decode cX6_type 61 = .ok (.iload 4, 2) := by decide +kernel
theorem dX6_type_63 : decode cX6_type 63 = .ok (.imul, 1) := by decide +kernel
theorem dX6_type_64 : decode cX6_type 64 = .ok (.lshr, 1) := by decide +kernel
theorem dX6_type_65 : decode cX6_type 65 = .ok (.ldc2_w 112, 3) := by decide +kernel
theorem dX6_type_68 : decode cX6_type 68 = .ok (.land, 1) := by decide +kernel
theorem dX6_type_69 : decode cX6_type 69 = .ok (.l2i, 1) := by decide +kernel
theorem dX6_type_70 : decode cX6_type 70 = .ok (.iastore, 1) := by decide +kernel
theorem dX6_type_71 : decode cX6_type 71 = .ok (.aload_n 0, 1) := by decide +kernel
theorem dX6_type_72 : decode cX6_type 72 = .ok (.getfield 7, 3) := by decide +kernel
theorem dX6_type_75 : decode cX6_type 75 = .ok (.iconst 0, 1) := by decide +kernel
theorem dX6_type_76 : decode cX6_type 76 = .ok (.dup2, 1) := by decide +kernel
theorem dX6_type_77 : decode cX6_type 77 = .ok (.iaload, 1) := by decide +kernel
theorem dX6_type_78 : decode cX6_type 78 = .ok (.iconst 1, 1) := by decide +kernel
theorem dX6_type_79 : decode cX6_type 79 = .ok (.iadd, 1) := by decide +kernel
theorem dX6_type_80 : decode cX6_type 80 = .ok (.iastore, 1) := by decide +kernel
theorem dX6_type_81 : decode cX6_type 81 = .ok (.iinc 4 (-1), 3) := by decide +kernel
theorem dX6_type_84 : decode cX6_type 84 = .ok (.goto (-44), 3) := by decide +kernel
theorem dX6_type_87 : decode cX6_type 87 = .ok (.aload_n 0, 1) := by decide +kernel
theorem dX6_type_88 : decode cX6_type 88 = .ok (.getfield 7, 3) := by decide +kernel
theorem dX6_type_91 : decode cX6_type 91 = .ok (.iconst 0, 1) := by decide +kernel
theorem dX6_type_92 : decode cX6_type 92 = .ok (.iaload, 1) := by decide +kernel
theorem dX6_type_93 : decode cX6_type 93 = .ok (.ireturn, 1) := by decide +kernel
theorem dX6_clear_0 : decode cX6_clear 0 = .ok (.aload_n 0, 1) := by decide +kernel
theorem dX6_clear_1 : decode cX6_clear 1 = .ok (.iconst 0, 1) := by decide +kernel
theorem dX6_clear_2 : decode cX6_clear 2 = .ok (.iconst 0, 1) := by decide +kernel
theorem dX6_clear_3 : decode cX6_clear 3 = .ok (.invokevirtual 114, 3) := by decide +kernel
theorem dX6_clear_6 : decode cX6_clear 6 = .ok (.ireturn, 1) := by decide +kernel
theorem dX6_isAt_0 : decode cX6_isAt 0 = .ok (.aload_n 0, 1) := by decide +kernel
theorem dX6_isAt_1 : decode cX6_isAt 1 = .ok (.getfield 117, 3) := by decide +kernel
theorem dX6_isAt_4 : decode cX6_isAt 4 = .ok (.aload_n 0, 1) := by decide +kernel
theorem dX6_isAt_5 : decode cX6_isAt 5 = .ok (.getfield 7, 3) := by decide +kernel
theorem dX6_isAt_8 : decode cX6_isAt 8 = .ok (.iconst 0, 1) := by decide +kernel
theorem dX6_isAt_9 : decode cX6_isAt 9 = .ok (.iaload, 1) := by decide +kernel
theorem dX6_isAt_10 : decode cX6_isAt 10 = .ok (.if_icmp .ge 30, 3) := by decide +kernel
theorem dX6_isAt_13 : decode cX6_isAt 13 = .ok (.aload_n 0, 1) := by decide +kernel
theorem dX6_isAt_14 : decode cX6_isAt 14 = .ok (.getfield 7, 3) := by decide +kernel
theorem dX6_isAt_17 : decode cX6_isAt 17 = .ok (.bipush 80, 2) := by decide +kernel
theorem dX6_isAt_19 : decode cX6_isAt 19 = .ok (.aload_n 0, 1) := by decide +kernel
theorem dX6_isAt_20 : decode cX6_isAt 20 = .ok (.getfield 117, 3) := by decide +kernel
theorem dX6_isAt_23 : decode cX6_isAt 23 = .ok (.iadd, 1) := by decide +kernel
theorem dX6_isAt_24 : decode cX6_isAt 24 = .ok (.iaload, 1) := by decide +kernel
theorem dX6_isAt_25 : decode cX6_isAt 25 = .ok (.i2l, 1) := by decide +kernel
theorem dX6_isAt_26 : decode cX6_isAt 26 = .ok (.iload_n 1, 1) := by decide +kernel
theorem dX6_isAt_27 : decode cX6_isAt 27 = .ok (.i2l, 1) := by decide +kernel
theorem dX6_isAt_28 : decode cX6_isAt 28 = .ok (.iload_n 2, 1) := by decide +kernel
theorem dX6_isAt_29 : decode cX6_isAt 29 = .ok (.i2l, 1) := by decide +kernel
theorem dX6_isAt_30 : decode cX6_isAt 30 = .ok (.invokestatic 100, 3) := by decide +kernel
theorem dX6_isAt_33 : decode cX6_isAt 33 = .ok (.ifCond .eq 7, 3) := by decide +kernel
theorem dX6_isAt_36 : decode cX6_isAt 36 = .ok (.iconst 1, 1) := by decide +kernel
theorem dX6_isAt_37 : decode cX6_isAt 37 = .ok (.goto 4, 3) := by decide +kernel
theorem dX6_isAt_40 : decode cX6_isAt 40 = .ok (.iconst 0, 1) := by decide +kernel
theorem dX6_isAt_41 : decode cX6_isAt 41 = .ok (.ireturn, 1) := by decide +kernel
theorem dX6_wordOf_0 : decode cX6_wordOf 0 = .ok (.lload_n 0, 1) := by decide +kernel
theorem dX6_wordOf_1 : decode cX6_wordOf 1 = .ok (.ldc2_w 121, 3) := by decide +kernel
theorem dX6_wordOf_4 : decode cX6_wordOf 4 = .ok (.lcmp, 1) := by decide +kernel
theorem dX6_wordOf_5 : decode cX6_wordOf 5 = .ok (.ifCond .ne 7, 3) := by decide +kernel
theorem dX6_wordOf_8 : decode cX6_wordOf 8 = .ok (.iconst 4, 1) := by decide +kernel
theorem dX6_wordOf_9 : decode cX6_wordOf 9 = .ok (.goto 42, 3) := by decide +kernel
theorem dX6_wordOf_12 : decode cX6_wordOf 12 = .ok (.lload_n 0, 1) := by decide +kernel
theorem dX6_wordOf_13 : decode cX6_wordOf 13 = .ok (.ldc2_w 123, 3) := by decide +kernel
theorem dX6_wordOf_16 : decode cX6_wordOf 16 = .ok (.lcmp, 1) := by decide +kernel
theorem dX6_wordOf_17 : decode cX6_wordOf 17 = .ok (.ifCond .ne 7, 3) := by decide +kernel
theorem dX6_wordOf_20 : decode cX6_wordOf 20 = .ok (.iconst 5, 1) := by decide +kernel
theorem dX6_wordOf_21 : decode cX6_wordOf 21 = .ok (.goto 30, 3) := by decide +kernel
theorem dX6_wordOf_24 : decode cX6_wordOf 24 = .ok (.lload_n 0, 1) := by decide +kernel
theorem dX6_wordOf_25 : decode cX6_wordOf 25 = .ok (.ldc2_w 125, 3) := by decide +kernel
theorem dX6_wordOf_28 : decode cX6_wordOf 28 = .ok (.lcmp, 1) := by decide +kernel
theorem dX6_wordOf_29 : decode cX6_wordOf 29 = .ok (.ifCond .ne 8, 3) := by decide +kernel
theorem dX6_wordOf_32 : decode cX6_wordOf 32 = .ok (.bipush 6, 2) := by decide +kernel
theorem dX6_wordOf_34 : decode cX6_wordOf 34 = .ok (.goto 17, 3) := by decide +kernel
theorem dX6_wordOf_37 : decode cX6_wordOf 37 = .ok (.lload_n 0, 1) := by decide +kernel
theorem dX6_wordOf_38 : decode cX6_wordOf 38 = .ok (.ldc2_w 127, 3) := by decide +kernel
theorem dX6_wordOf_41 : decode cX6_wordOf 41 = .ok (.lcmp, 1) := by decide +kernel
theorem dX6_wordOf_42 : decode cX6_wordOf 42 = .ok (.ifCond .ne 8, 3) := by decide +kernel
theorem dX6_wordOf_45 : decode cX6_wordOf 45 = .ok (.bipush 7, 2) := by decide +kernel
theorem dX6_wordOf_47 : decode cX6_wordOf 47 = .ok (.goto 4, 3) := by decide +kernel
theorem dX6_wordOf_50 : decode cX6_wordOf 50 = .ok (.iconst 1, 1) := by decide +kernel
theorem dX6_wordOf_51 : decode cX6_wordOf 51 = .ok (.ireturn, 1) := by decide +kernel
theorem dX6_scans_0 : decode cX6_scans 0 = .ok (.aload_n 0, 1) := by decide +kernel
theorem dX6_scans_1 : decode cX6_scans 1 = .ok (.bipush 32, 2) := by decide +kernel
theorem dX6_scans_3 : decode cX6_scans 3 = .ok (.bipush 32, 2) := by decide +kernel
theorem dX6_scans_5 : decode cX6_scans 5 = .ok (.invokevirtual 129, 3) := by decide +kernel
theorem dX6_scans_8 : decode cX6_scans 8 = .ok (.ifCond .eq 16, 3) := by decide +kernel
theorem dX6_scans_11 : decode cX6_scans 11 = .ok (.aload_n 0, 1) := by decide +kernel
theorem dX6_scans_12 : decode cX6_scans 12 = .ok (.dup, 1) := by decide +kernel
theorem dX6_scans_13 : decode cX6_scans 13 = .ok (.getfield 117, 3) := by decide +kernel
theorem dX6_scans_16 : decode cX6_scans 16 = .ok (.iconst 1, 1) := by decide +kernel
theorem dX6_scans_17 : decode cX6_scans 17 = .ok (.iadd, 1) := by decide +kernel
theorem dX6_scans_18 : decode cX6_scans 18 = .ok (.putfield 117, 3) := by decide +kernel
theorem dX6_scans_21 : decode cX6_scans 21 = .ok (.goto (-21), 3) := by decide +kernel
theorem dX6_scans_24 : decode cX6_scans 24 = .ok (.aload_n 0, 1) := by decide +kernel
theorem dX6_scans_25 : decode cX6_scans 25 = .ok (.aload_n 0, 1) := by decide +kernel
theorem dX6_scans_26 : decode cX6_scans 26 = .ok (.getfield 117, 3) := by decide +kernel
theorem dX6_scans_29 : decode cX6_scans 29 = .ok (.putfield 133, 3) := by decide +kernel
theorem dX6_scans_32 : decode cX6_scans 32 = .ok (.aload_n 0, 1) := by decide +kernel
theorem dX6_scans_33 : decode cX6_scans 33 = .ok (.getfield 117, 3) := by decide +kernel
theorem dX6_scans_36 : decode cX6_scans 36 = .ok (.aload_n 0, 1) := by decide +kernel
theorem dX6_scans_37 : decode cX6_scans 37 = .ok (.getfield 7, 3) := by decide +kernel
theorem dX6_scans_40 : decode cX6_scans 40 = .ok (.iconst 0, 1) := by decide +kernel
theorem dX6_scans_41 : decode cX6_scans 41 = .ok (.iaload, 1) := by decide +kernel
theorem dX6_scans_42 : decode cX6_scans 42 = .ok (.if_icmp .ne 9, 3) := by decide +kernel
theorem dX6_scans_45 : decode cX6_scans 45 = .ok (.aload_n 0, 1) := by decide +kernel
theorem dX6_scans_46 : decode cX6_scans 46 = .ok (.iconst 0, 1) := by decide +kernel
theorem dX6_scans_47 : decode cX6_scans 47 = .ok (.putfield 136, 3) := by decide +kernel
theorem dX6_scans_50 : decode cX6_scans 50 = .ok (.return_, 1) := by decide +kernel
theorem dX6_scans_51 : decode cX6_scans 51 = .ok (.aload_n 0, 1) := by decide +kernel
theorem dX6_scans_52 : decode cX6_scans 52 = .ok (.bipush 97, 2) := by decide +kernel
theorem dX6_scans_54 : decode cX6_scans 54 = .ok (.bipush 122, 2) := by decide +kernel
theorem dX6_scans_56 : decode cX6_scans 56 = .ok (.invokevirtual 129, 3) := by decide +kernel
theorem dX6_scans_59 : decode cX6_scans 59 = .ok (.ifCond .eq 98, 3) := by decide +kernel
theorem dX6_scans_62 : decode cX6_scans 62 = .ok (.lconst 0, 1) := by decide +kernel
theorem dX6_scans_63 : decode cX6_scans 63 = .ok (.lstore_n 1, 1) := by decide +kernel
theorem dX6_scans_64 : decode cX6_scans 64 = .ok (.aload_n 0, 1) := by decide +kernel
theorem dX6_scans_65 : decode cX6_scans 65 = .ok (.bipush 97, 2) := by decide +kernel
theorem dX6_scans_67 : decode cX6_scans 67 = .ok (.bipush 122, 2) := by decide +kernel
theorem dX6_scans_69 : decode cX6_scans 69 = .ok (.invokevirtual 129, 3) := by decide +kernel
theorem dX6_scans_72 : decode cX6_scans 72 = .ok (.ifCond .eq 59, 3) := by decide +kernel
theorem dX6_scans_75 : decode cX6_scans 75 = .ok (.aload_n 0, 1) := by decide +kernel
theorem dX6_scans_76 : decode cX6_scans 76 = .ok (.getfield 117, 3) := by decide +kernel
theorem dX6_scans_79 : decode cX6_scans 79 = .ok (.aload_n 0, 1) := by decide +kernel
theorem dX6_scans_80 : decode cX6_scans 80 = .ok (.getfield 133, 3) := by decide +kernel
theorem dX6_scans_83 : decode cX6_scans 83 = .ok (.isub, 1) := by decide +kernel
theorem dX6_scans_84 : decode cX6_scans 84 = .ok (.iconst 5, 1) := by decide +kernel
theorem dX6_scans_85 : decode cX6_scans 85 = .ok (.if_icmp .le 7, 3) := by decide +kernel
theorem dX6_scans_88 : decode cX6_scans 88 = .ok (.lconst 0, 1) := by decide +kernel
theorem dX6_scans_89 : decode cX6_scans 89 = .ok (.goto 28, 3) := by decide +kernel
theorem dX6_scans_92 : decode cX6_scans 92 = .ok (.ldc2_w 139, 3) := by decide +kernel
theorem dX6_scans_95 : decode cX6_scans 95 = .ok (.lload_n 1, 1) := by decide +kernel
theorem dX6_scans_96 : decode cX6_scans 96 = .ok (.lmul, 1) := by decide +kernel
theorem dX6_scans_97 : decode cX6_scans 97 = .ok (.aload_n 0, 1) := by decide +kernel
theorem dX6_scans_98 : decode cX6_scans 98 = .ok (.getfield 7, 3) := by decide +kernel
theorem dX6_scans_101 : decode cX6_scans 101 = .ok (.bipush 80, 2) := by decide +kernel
theorem dX6_scans_103 : decode cX6_scans 103 = .ok (.aload_n 0, 1) := by decide +kernel
theorem dX6_scans_104 : decode cX6_scans 104 = .ok (.getfield 117, 3) := by decide +kernel
theorem dX6_scans_107 : decode cX6_scans 107 = .ok (.iadd, 1) := by decide +kernel
theorem dX6_scans_108 : decode cX6_scans 108 = .ok (.iaload, 1) := by decide +kernel
theorem dX6_scans_109 : decode cX6_scans 109 = .ok (.i2l, 1) := by decide +kernel
theorem dX6_scans_110 : decode cX6_scans 110 = .ok (.ladd, 1) := by decide +kernel
theorem dX6_scans_111 : decode cX6_scans 111 = .ok (.ldc2_w 141, 3) := by decide +kernel
theorem dX6_scans_114 : decode cX6_scans 114 = .ok (.lsub, 1) := by decide +kernel
theorem dX6_scans_115 : decode cX6_scans 115 = .ok (.lconst 1, 1) := by decide +kernel
theorem dX6_scans_116 : decode cX6_scans 116 = .ok (.ladd, 1) := by decide +kernel
theorem dX6_scans_117 : decode cX6_scans 117 = .ok (.lstore_n 1, 1) := by decide +kernel
theorem dX6_scans_118 : decode cX6_scans 118 = .ok (.aload_n 0, 1) := by decide +kernel
theorem dX6_scans_119 : decode cX6_scans 119 = .ok (.dup, 1) := by decide +kernel
theorem dX6_scans_120 : decode cX6_scans 120 = .ok (.getfield 117, 3) := by decide +kernel
theorem dX6_scans_123 : decode cX6_scans 123 = .ok (.iconst 1, 1) := by decide +kernel
theorem dX6_scans_124 : decode cX6_scans 124 = .ok (.iadd, 1) := by decide +kernel
theorem dX6_scans_125 : decode cX6_scans 125 = .ok (.putfield 117, 3) := by decide +kernel
theorem dX6_scans_128 : decode cX6_scans 128 = .ok (.goto (-64), 3) := by decide +kernel
theorem dX6_scans_131 : decode cX6_scans 131 = .ok (.aload_n 0, 1) := by decide +kernel
theorem dX6_scans_132 : decode cX6_scans 132 = .ok (.aload_n 0, 1) := by decide +kernel
theorem dX6_scans_133 : decode cX6_scans 133 = .ok (.getfield 117, 3) := by decide +kernel
theorem dX6_scans_136 : decode cX6_scans 136 = .ok (.aload_n 0, 1) := by decide +kernel
theorem dX6_scans_137 : decode cX6_scans 137 = .ok (.getfield 133, 3) := by decide +kernel
theorem dX6_scans_140 : decode cX6_scans 140 = .ok (.isub, 1) := by decide +kernel
theorem dX6_scans_141 : decode cX6_scans 141 = .ok (.iconst 5, 1) := by decide +kernel
theorem dX6_scans_142 : decode cX6_scans 142 = .ok (.if_icmp .le 7, 3) := by decide +kernel
theorem dX6_scans_145 : decode cX6_scans 145 = .ok (.iconst 1, 1) := by decide +kernel
theorem dX6_scans_146 : decode cX6_scans 146 = .ok (.goto 7, 3) := by decide +kernel
theorem dX6_scans_149 : decode cX6_scans 149 = .ok (.lload_n 1, 1) := by decide +kernel
theorem dX6_scans_150 : decode cX6_scans 150 = .ok (.invokestatic 143, 3) := by decide +kernel
theorem dX6_scans_153 : decode cX6_scans 153 = .ok (.putfield 136, 3) := by decide +kernel
theorem dX6_scans_156 : decode cX6_scans 156 = .ok (.return_, 1) := by decide +kernel
theorem dX6_scans_157 : decode cX6_scans 157 = .ok (.aload_n 0, 1) := by decide +kernel
theorem dX6_scans_158 : decode cX6_scans 158 = .ok (.bipush 48, 2) := by decide +kernel
theorem dX6_scans_160 : decode cX6_scans 160 = .ok (.bipush 57, 2) := by decide +kernel
theorem dX6_scans_162 : decode cX6_scans 162 = .ok (.invokevirtual 129, 3) := by decide +kernel
theorem dX6_scans_165 : decode cX6_scans 165 = .ok (.ifCond .eq 102, 3) := by decide +kernel
theorem dX6_scans_168 : decode cX6_scans 168 = .ok (.aload_n 0, 1) := by decide +kernel
theorem dX6_scans_169 : decode cX6_scans 169 = .ok (.iconst 0, 1) := by decide +kernel
theorem dX6_scans_170 : decode cX6_scans 170 = .ok (.putfield 147, 3) := by decide +kernel
theorem dX6_scans_173 : decode cX6_scans 173 = .ok (.aload_n 0, 1) := by decide +kernel
theorem dX6_scans_174 : decode cX6_scans 174 = .ok (.bipush 48, 2) := by decide +kernel
theorem dX6_scans_176 : decode cX6_scans 176 = .ok (.bipush 57, 2) := by decide +kernel
theorem dX6_scans_178 : decode cX6_scans 178 = .ok (.invokevirtual 129, 3) := by decide +kernel
theorem dX6_scans_181 : decode cX6_scans 181 = .ok (.ifCond .eq 63, 3) := by decide +kernel
theorem dX6_scans_184 : decode cX6_scans 184 = .ok (.aload_n 0, 1) := by decide +kernel
theorem dX6_scans_185 : decode cX6_scans 185 = .ok (.aload_n 0, 1) := by decide +kernel
theorem dX6_scans_186 : decode cX6_scans 186 = .ok (.getfield 117, 3) := by decide +kernel
theorem dX6_scans_189 : decode cX6_scans 189 = .ok (.aload_n 0, 1) := by decide +kernel
theorem dX6_scans_190 : decode cX6_scans 190 = .ok (.getfield 133, 3) := by decide +kernel
theorem dX6_scans_193 : decode cX6_scans 193 = .ok (.isub, 1) := by decide +kernel
theorem dX6_scans_194 : decode cX6_scans 194 = .ok (.iconst 2, 1) := by decide +kernel
theorem dX6_scans_195 : decode cX6_scans 195 = .ok (.if_icmp .ge 29, 3) := by decide +kernel
theorem dX6_scans_198 : decode cX6_scans 198 = .ok (.bipush 10, 2) := by decide +kernel
theorem dX6_scans_200 : decode cX6_scans 200 = .ok (.aload_n 0, 1) := by decide +kernel
theorem dX6_scans_201 : decode cX6_scans 201 = .ok (.getfield 147, 3) := by decide +kernel
theorem dX6_scans_204 : decode cX6_scans 204 = .ok (.imul, 1) := by decide +kernel
theorem dX6_scans_205 : decode cX6_scans 205 = .ok (.aload_n 0, 1) := by decide +kernel
theorem dX6_scans_206 : decode cX6_scans 206 = .ok (.getfield 7, 3) := by decide +kernel
theorem dX6_scans_209 : decode cX6_scans 209 = .ok (.bipush 80, 2) := by decide +kernel
theorem dX6_scans_211 : decode cX6_scans 211 = .ok (.aload_n 0, 1) := by decide +kernel
theorem dX6_scans_212 : decode cX6_scans 212 = .ok (.getfield 117, 3) := by decide +kernel
theorem dX6_scans_215 : decode cX6_scans 215 = .ok (.iadd, 1) := by decide +kernel
theorem dX6_scans_216 : decode cX6_scans 216 = .ok (.iaload, 1) := by decide +kernel
theorem dX6_scans_217 : decode cX6_scans 217 = .ok (.iadd, 1) := by decide +kernel
theorem dX6_scans_218 : decode cX6_scans 218 = .ok (.bipush 48, 2) := by decide +kernel
theorem dX6_scans_220 : decode cX6_scans 220 = .ok (.isub, 1) := by decide +kernel
theorem dX6_scans_221 : decode cX6_scans 221 = .ok (.goto 7, 3) := by decide +kernel
theorem dX6_scans_224 : decode cX6_scans 224 = .ok (.aload_n 0, 1) := by decide +kernel
theorem dX6_scans_225 : decode cX6_scans 225 = .ok (.getfield 147, 3) := by decide +kernel
theorem dX6_scans_228 : decode cX6_scans 228 = .ok (.putfield 147, 3) := by decide +kernel
theorem dX6_scans_231 : decode cX6_scans 231 = .ok (.aload_n 0, 1) := by decide +kernel
theorem dX6_scans_232 : decode cX6_scans 232 = .ok (.dup, 1) := by decide +kernel
theorem dX6_scans_233 : decode cX6_scans 233 = .ok (.getfield 117, 3) := by decide +kernel
theorem dX6_scans_236 : decode cX6_scans 236 = .ok (.iconst 1, 1) := by decide +kernel
theorem dX6_scans_237 : decode cX6_scans 237 = .ok (.iadd, 1) := by decide +kernel
theorem dX6_scans_238 : decode cX6_scans 238 = .ok (.putfield 117, 3) := by decide +kernel
theorem dX6_scans_241 : decode cX6_scans 241 = .ok (.goto (-68), 3) := by decide +kernel
theorem dX6_scans_244 : decode cX6_scans 244 = .ok (.aload_n 0, 1) := by decide +kernel
theorem dX6_scans_245 : decode cX6_scans 245 = .ok (.aload_n 0, 1) := by decide +kernel
theorem dX6_scans_246 : decode cX6_scans 246 = .ok (.getfield 117, 3) := by decide +kernel
theorem dX6_scans_249 : decode cX6_scans 249 = .ok (.aload_n 0, 1) := by decide +kernel
theorem dX6_scans_250 : decode cX6_scans 250 = .ok (.getfield 133, 3) := by decide +kernel
theorem dX6_scans_253 : decode cX6_scans 253 = .ok (.isub, 1) := by decide +kernel
theorem dX6_scans_254 : decode cX6_scans 254 = .ok (.iconst 2, 1) := by decide +kernel
theorem dX6_scans_255 : decode cX6_scans 255 = .ok (.if_icmp .le 7, 3) := by decide +kernel
theorem dX6_scans_258 : decode cX6_scans 258 = .ok (.iconst 1, 1) := by decide +kernel
theorem dX6_scans_259 : decode cX6_scans 259 = .ok (.goto 4, 3) := by decide +kernel
theorem dX6_scans_262 : decode cX6_scans 262 = .ok (.iconst 2, 1) := by decide +kernel
theorem dX6_scans_263 : decode cX6_scans 263 = .ok (.putfield 136, 3) := by decide +kernel
theorem dX6_scans_266 : decode cX6_scans 266 = .ok (.return_, 1) := by decide +kernel
theorem dX6_scans_267 : decode cX6_scans 267 = .ok (.aload_n 0, 1) := by decide +kernel
theorem dX6_scans_268 : decode cX6_scans 268 = .ok (.aload_n 0, 1) := by decide +kernel
theorem dX6_scans_269 : decode cX6_scans 269 = .ok (.bipush 59, 2) := by decide +kernel
theorem dX6_scans_271 : decode cX6_scans 271 = .ok (.bipush 59, 2) := by decide +kernel
theorem dX6_scans_273 : decode cX6_scans 273 = .ok (.invokevirtual 129, 3) := by decide +kernel
theorem dX6_scans_276 : decode cX6_scans 276 = .ok (.ifCond .eq 7, 3) := by decide +kernel
theorem dX6_scans_279 : decode cX6_scans 279 = .ok (.iconst 3, 1) := by decide +kernel
theorem dX6_scans_280 : decode cX6_scans 280 = .ok (.goto 4, 3) := by decide +kernel
theorem dX6_scans_283 : decode cX6_scans 283 = .ok (.iconst 1, 1) := by decide +kernel
theorem dX6_scans_284 : decode cX6_scans 284 = .ok (.putfield 136, 3) := by decide +kernel
theorem dX6_scans_287 : decode cX6_scans 287 = .ok (.aload_n 0, 1) := by decide +kernel
theorem dX6_scans_288 : decode cX6_scans 288 = .ok (.dup, 1) := by decide +kernel
theorem dX6_scans_289 : decode cX6_scans 289 = .ok (.getfield 117, 3) := by decide +kernel
theorem dX6_scans_292 : decode cX6_scans 292 = .ok (.iconst 1, 1) := by decide +kernel
theorem dX6_scans_293 : decode cX6_scans 293 = .ok (.iadd, 1) := by decide +kernel
theorem dX6_scans_294 : decode cX6_scans 294 = .ok (.putfield 117, 3) := by decide +kernel
theorem dX6_scans_297 : decode cX6_scans 297 = .ok (.return_, 1) := by decide +kernel
theorem dX6_reads_0 : decode cX6_reads 0 = .ok (.aload_n 0, 1) := by decide +kernel
theorem dX6_reads_1 : decode cX6_reads 1 = .ok (.iconst 0, 1) := by decide +kernel
theorem dX6_reads_2 : decode cX6_reads 2 = .ok (.putfield 117, 3) := by decide +kernel
theorem dX6_reads_5 : decode cX6_reads 5 = .ok (.aload_n 0, 1) := by decide +kernel
theorem dX6_reads_6 : decode cX6_reads 6 = .ok (.iconst 0, 1) := by decide +kernel
theorem dX6_reads_7 : decode cX6_reads 7 = .ok (.putfield 150, 3) := by decide +kernel
theorem dX6_reads_10 : decode cX6_reads 10 = .ok (.aload_n 0, 1) := by decide +kernel
theorem dX6_reads_11 : decode cX6_reads 11 = .ok (.invokevirtual 153, 3) := by decide +kernel
theorem dX6_reads_14 : decode cX6_reads 14 = .ok (.aload_n 0, 1) := by decide +kernel
theorem dX6_reads_15 : decode cX6_reads 15 = .ok (.getfield 136, 3) := by decide +kernel
theorem dX6_reads_18 : decode cX6_reads 18 = .ok (.ifCond .eq 167, 3) := by decide +kernel
theorem dX6_reads_21 : decode cX6_reads 21 = .ok (.aload_n 0, 1) := by decide +kernel
theorem dX6_reads_22 : decode cX6_reads 22 = .ok (.getfield 136, 3) := by decide +kernel
theorem dX6_reads_25 : decode cX6_reads 25 = .ok (.istore_n 1, 1) := by decide +kernel
theorem dX6_reads_26 : decode cX6_reads 26 = .ok (.iconst 0, 1) := by decide +kernel
theorem dX6_reads_27 : decode cX6_reads 27 = .ok (.istore_n 2, 1) := by decide +kernel
theorem dX6_reads_28 : decode cX6_reads 28 = .ok (.iload_n 1, 1) := by decide +kernel
theorem dX6_reads_29 : decode cX6_reads 29 = .ok (.iconst 4, 1) := by decide +kernel
theorem dX6_reads_30 : decode cX6_reads 30 = .ok (.if_icmp .ge 5, 3) := by decide +kernel
theorem dX6_reads_33 : decode cX6_reads 33 = .ok (.iconst 0, 1) := by decide +kernel
theorem dX6_reads_34 : decode cX6_reads 34 = .ok (.ireturn, 1) := by decide +kernel
theorem dX6_reads_35 : decode cX6_reads 35 = .ok (.aload_n 0, 1) := by decide +kernel
theorem dX6_reads_36 : decode cX6_reads 36 = .ok (.invokevirtual 153, 3) := by decide +kernel
theorem dX6_reads_39 : decode cX6_reads 39 = .ok (.iload_n 1, 1) := by decide +kernel
theorem dX6_reads_40 : decode cX6_reads 40 = .ok (.bipush 6, 2) := by decide +kernel
theorem dX6_reads_42 : decode cX6_reads 42 = .ok (.if_icmp .ne 37, 3) := by decide +kernel
theorem dX6_reads_45 : decode cX6_reads 45 = .ok (.aload_n 0, 1) := by decide +kernel
theorem dX6_reads_46 : decode cX6_reads 46 = .ok (.getfield 136, 3) := by decide +kernel
theorem dX6_reads_49 : decode cX6_reads 49 = .ok (.iconst 2, 1) := by decide +kernel
theorem dX6_reads_50 : decode cX6_reads 50 = .ok (.if_icmp .ne 18, 3) := by decide +kernel
theorem dX6_reads_53 : decode cX6_reads 53 = .ok (.aload_n 0, 1) := by decide +kernel
theorem dX6_reads_54 : decode cX6_reads 54 = .ok (.getfield 147, 3) := by decide +kernel
theorem dX6_reads_57 : decode cX6_reads 57 = .ok (.i2l, 1) := by decide +kernel
theorem dX6_reads_58 : decode cX6_reads 58 = .ok (.lconst 1, 1) := by decide +kernel
theorem dX6_reads_59 : decode cX6_reads 59 = .ok (.ldc2_w 156, 3) := by decide +kernel
theorem dX6_reads_62 : decode cX6_reads 62 = .ok (.invokestatic 100, 3) := by decide +kernel
theorem dX6_reads_65 : decode cX6_reads 65 = .ok (.ifCond .ne 5, 3) := by decide +kernel
theorem dX6_reads_68 : decode cX6_reads 68 = .ok (.iconst 0, 1) := by decide +kernel
theorem dX6_reads_69 : decode cX6_reads 69 = .ok (.ireturn, 1) := by decide +kernel
theorem dX6_reads_70 : decode cX6_reads 70 = .ok (.aload_n 0, 1) := by decide +kernel
theorem dX6_reads_71 : decode cX6_reads 71 = .ok (.getfield 147, 3) := by decide +kernel
theorem dX6_reads_74 : decode cX6_reads 74 = .ok (.istore_n 2, 1) := by decide +kernel
theorem dX6_reads_75 : decode cX6_reads 75 = .ok (.aload_n 0, 1) := by decide +kernel
theorem dX6_reads_76 : decode cX6_reads 76 = .ok (.invokevirtual 153, 3) := by decide +kernel
theorem dX6_reads_79 : decode cX6_reads 79 = .ok (.aload_n 0, 1) := by decide +kernel
theorem dX6_reads_80 : decode cX6_reads 80 = .ok (.getfield 136, 3) := by decide +kernel
theorem dX6_reads_83 : decode cX6_reads 83 = .ok (.iconst 2, 1) := by decide +kernel
theorem dX6_reads_84 : decode cX6_reads 84 = .ok (.if_icmp .ne 32, 3) := by decide +kernel
theorem dX6_reads_87 : decode cX6_reads 87 = .ok (.aload_n 0, 1) := by decide +kernel
theorem dX6_reads_88 : decode cX6_reads 88 = .ok (.getfield 147, 3) := by decide +kernel
theorem dX6_reads_91 : decode cX6_reads 91 = .ok (.i2l, 1) := by decide +kernel
theorem dX6_reads_92 : decode cX6_reads 92 = .ok (.lconst 1, 1) := by decide +kernel
theorem dX6_reads_93 : decode cX6_reads 93 = .ok (.ldc2_w 158, 3) := by decide +kernel
theorem dX6_reads_96 : decode cX6_reads 96 = .ok (.invokestatic 100, 3) := by decide +kernel
theorem dX6_reads_99 : decode cX6_reads 99 = .ok (.ifCond .eq 17, 3) := by decide +kernel
theorem dX6_reads_102 : decode cX6_reads 102 = .ok (.aload_n 0, 1) := by decide +kernel
theorem dX6_reads_103 : decode cX6_reads 103 = .ok (.getfield 150, 3) := by decide +kernel
theorem dX6_reads_106 : decode cX6_reads 106 = .ok (.aload_n 0, 1) := by decide +kernel
theorem dX6_reads_107 : decode cX6_reads 107 = .ok (.getfield 147, 3) := by decide +kernel
theorem dX6_reads_110 : decode cX6_reads 110 = .ok (.iadd, 1) := by decide +kernel
theorem dX6_reads_111 : decode cX6_reads 111 = .ok (.bipush 120, 2) := by decide +kernel
theorem dX6_reads_113 : decode cX6_reads 113 = .ok (.if_icmp .le 5, 3) := by decide +kernel
theorem dX6_reads_116 : decode cX6_reads 116 = .ok (.iconst 0, 1) := by decide +kernel
theorem dX6_reads_117 : decode cX6_reads 117 = .ok (.ireturn, 1) := by decide +kernel
theorem dX6_reads_118 : decode cX6_reads 118 = .ok (.iconst 0, 1) := by decide +kernel
theorem dX6_reads_119 : decode cX6_reads 119 = .ok (.istore_n 3, 1) := by decide +kernel
theorem dX6_reads_120 : decode cX6_reads 120 = .ok (.iload_n 3, 1) := by decide +kernel
theorem dX6_reads_121 : decode cX6_reads 121 = .ok (.aload_n 0, 1) := by decide +kernel
theorem dX6_reads_122 : decode cX6_reads 122 = .ok (.getfield 147, 3) := by decide +kernel
theorem dX6_reads_125 : decode cX6_reads 125 = .ok (.if_icmp .ge 39, 3) := by decide +kernel
theorem dX6_reads_128 : decode cX6_reads 128 = .ok (.aload_n 0, 1) := by decide +kernel
theorem dX6_reads_129 : decode cX6_reads 129 = .ok (.getfield 29, 3) := by decide +kernel
theorem dX6_reads_132 : decode cX6_reads 132 = .ok (.aload_n 0, 1) := by decide +kernel
theorem dX6_reads_133 : decode cX6_reads 133 = .ok (.getfield 150, 3) := by decide +kernel
theorem dX6_reads_136 : decode cX6_reads 136 = .ok (.iload_n 1, 1) := by decide +kernel
theorem dX6_reads_137 : decode cX6_reads 137 = .ok (.iastore, 1) := by decide +kernel
theorem dX6_reads_138 : decode cX6_reads 138 = .ok (.aload_n 0, 1) := by decide +kernel
theorem dX6_reads_139 : decode cX6_reads 139 = .ok (.getfield 32, 3) := by decide +kernel
theorem dX6_reads_142 : decode cX6_reads 142 = .ok (.aload_n 0, 1) := by decide +kernel
theorem dX6_reads_143 : decode cX6_reads 143 = .ok (.getfield 150, 3) := by decide +kernel
theorem dX6_reads_146 : decode cX6_reads 146 = .ok (.iload_n 2, 1) := by decide +kernel
theorem dX6_reads_147 : decode cX6_reads 147 = .ok (.iastore, 1) := by decide +kernel
theorem dX6_reads_148 : decode cX6_reads 148 = .ok (.aload_n 0, 1) := by decide +kernel
theorem dX6_reads_149 : decode cX6_reads 149 = .ok (.dup, 1) := by decide +kernel
theorem dX6_reads_150 : decode cX6_reads 150 = .ok (.getfield 150, 3) := by decide +kernel
theorem dX6_reads_153 : decode cX6_reads 153 = .ok (.iconst 1, 1) := by decide +kernel
theorem dX6_reads_154 : decode cX6_reads 154 = .ok (.iadd, 1) := by decide +kernel
theorem dX6_reads_155 : decode cX6_reads 155 = .ok (.putfield 150, 3) := by decide +kernel
theorem dX6_reads_158 : decode cX6_reads 158 = .ok (.iinc 3 1, 3) := by decide +kernel
theorem dX6_reads_161 : decode cX6_reads 161 = .ok (.goto (-41), 3) := by decide +kernel
theorem dX6_reads_164 : decode cX6_reads 164 = .ok (.aload_n 0, 1) := by decide +kernel
theorem dX6_reads_165 : decode cX6_reads 165 = .ok (.invokevirtual 153, 3) := by decide +kernel
theorem dX6_reads_168 : decode cX6_reads 168 = .ok (.aload_n 0, 1) := by decide +kernel
theorem dX6_reads_169 : decode cX6_reads 169 = .ok (.getfield 136, 3) := by decide +kernel
theorem dX6_reads_172 : decode cX6_reads 172 = .ok (.iconst 3, 1) := by decide +kernel
theorem dX6_reads_173 : decode cX6_reads 173 = .ok (.if_icmp .eq 5, 3) := by decide +kernel
theorem dX6_reads_176 : decode cX6_reads 176 = .ok (.iconst 0, 1) := by decide +kernel
theorem dX6_reads_177 : decode cX6_reads 177 = .ok (.ireturn, 1) := by decide +kernel
theorem dX6_reads_178 : decode cX6_reads 178 = .ok (.aload_n 0, 1) := by decide +kernel
theorem dX6_reads_179 : decode cX6_reads 179 = .ok (.invokevirtual 153, 3) := by decide +kernel
theorem dX6_reads_182 : decode cX6_reads 182 = .ok (.goto (-168), 3) := by decide +kernel
theorem dX6_reads_185 : decode cX6_reads 185 = .ok (.iconst 1, 1) := by decide +kernel
theorem dX6_reads_186 : decode cX6_reads 186 = .ok (.ireturn, 1) := by decide +kernel
theorem dX6_faulty_0 : decode cX6_faulty 0 = .ok (.aload_n 0, 1) := by decide +kernel
theorem dX6_faulty_1 : decode cX6_faulty 1 = .ok (.invokevirtual 160, 3) := by decide +kernel
theorem dX6_faulty_4 : decode cX6_faulty 4 = .ok (.ifCond .eq 7, 3) := by decide +kernel
theorem dX6_faulty_7 : decode cX6_faulty 7 = .ok (.iconst (-1), 1) := by decide +kernel
theorem dX6_faulty_8 : decode cX6_faulty 8 = .ok (.goto 7, 3) := by decide +kernel
theorem dX6_faulty_11 : decode cX6_faulty 11 = .ok (.aload_n 0, 1) := by decide +kernel
theorem dX6_faulty_12 : decode cX6_faulty 12 = .ok (.getfield 133, 3) := by decide +kernel
theorem dX6_faulty_15 : decode cX6_faulty 15 = .ok (.ireturn, 1) := by decide +kernel
theorem dX6_minutes_0 : decode cX6_minutes 0 = .ok (.aload_n 0, 1) := by decide +kernel
theorem dX6_minutes_1 : decode cX6_minutes 1 = .ok (.invokevirtual 160, 3) := by decide +kernel
theorem dX6_minutes_4 : decode cX6_minutes 4 = .ok (.ifCond .eq 10, 3) := by decide +kernel
theorem dX6_minutes_7 : decode cX6_minutes 7 = .ok (.aload_n 0, 1) := by decide +kernel
theorem dX6_minutes_8 : decode cX6_minutes 8 = .ok (.getfield 150, 3) := by decide +kernel
theorem dX6_minutes_11 : decode cX6_minutes 11 = .ok (.goto 7, 3) := by decide +kernel
theorem dX6_minutes_14 : decode cX6_minutes 14 = .ok (.aload_n 0, 1) := by decide +kernel
theorem dX6_minutes_15 : decode cX6_minutes 15 = .ok (.invokevirtual 164, 3) := by decide +kernel
theorem dX6_minutes_18 : decode cX6_minutes 18 = .ok (.ireturn, 1) := by decide +kernel
theorem dX6_put_0 : decode cX6_put 0 = .ok (.iload_n 1, 1) := by decide +kernel
theorem dX6_put_1 : decode cX6_put 1 = .ok (.ifCond .ne 15, 3) := by decide +kernel
theorem dX6_put_4 : decode cX6_put 4 = .ok (.iload_n 2, 1) := by decide +kernel
theorem dX6_put_5 : decode cX6_put 5 = .ok (.i2l, 1) := by decide +kernel
theorem dX6_put_6 : decode cX6_put 6 = .ok (.lconst 0, 1) := by decide +kernel
theorem dX6_put_7 : decode cX6_put 7 = .ok (.ldc2_w 167, 3) := by decide +kernel
theorem dX6_put_10 : decode cX6_put 10 = .ok (.invokestatic 100, 3) := by decide +kernel
theorem dX6_put_13 : decode cX6_put 13 = .ok (.goto 59, 3) := by decide +kernel
theorem dX6_put_16 : decode cX6_put 16 = .ok (.iload_n 1, 1) := by decide +kernel
theorem dX6_put_17 : decode cX6_put 17 = .ok (.iconst 1, 1) := by decide +kernel
theorem dX6_put_18 : decode cX6_put 18 = .ok (.if_icmp .ne 15, 3) := by decide +kernel
theorem dX6_put_21 : decode cX6_put 21 = .ok (.iload_n 2, 1) := by decide +kernel
theorem dX6_put_22 : decode cX6_put 22 = .ok (.i2l, 1) := by decide +kernel
theorem dX6_put_23 : decode cX6_put 23 = .ok (.lconst 1, 1) := by decide +kernel
theorem dX6_put_24 : decode cX6_put 24 = .ok (.ldc2_w 169, 3) := by decide +kernel
theorem dX6_put_27 : decode cX6_put 27 = .ok (.invokestatic 100, 3) := by decide +kernel
theorem dX6_put_30 : decode cX6_put 30 = .ok (.goto 42, 3) := by decide +kernel
theorem dX6_put_33 : decode cX6_put 33 = .ok (.iload_n 1, 1) := by decide +kernel
theorem dX6_put_34 : decode cX6_put 34 = .ok (.iconst 2, 1) := by decide +kernel
theorem dX6_put_35 : decode cX6_put 35 = .ok (.if_icmp .ne 15, 3) := by decide +kernel
theorem dX6_put_38 : decode cX6_put 38 = .ok (.iload_n 2, 1) := by decide +kernel
theorem dX6_put_39 : decode cX6_put 39 = .ok (.i2l, 1) := by decide +kernel
theorem dX6_put_40 : decode cX6_put 40 = .ok (.lconst 1, 1) := by decide +kernel
theorem dX6_put_41 : decode cX6_put 41 = .ok (.ldc2_w 156, 3) := by decide +kernel
theorem dX6_put_44 : decode cX6_put 44 = .ok (.invokestatic 100, 3) := by decide +kernel
theorem dX6_put_47 : decode cX6_put 47 = .ok (.goto 25, 3) := by decide +kernel
theorem dX6_put_50 : decode cX6_put 50 = .ok (.iload_n 1, 1) := by decide +kernel
theorem dX6_put_51 : decode cX6_put 51 = .ok (.iconst 3, 1) := by decide +kernel
theorem dX6_put_52 : decode cX6_put 52 = .ok (.if_icmp .ne 19, 3) := by decide +kernel
theorem dX6_put_55 : decode cX6_put 55 = .ok (.iload_n 2, 1) := by decide +kernel
theorem dX6_put_56 : decode cX6_put 56 = .ok (.i2l, 1) := by decide +kernel
theorem dX6_put_57 : decode cX6_put 57 = .ok (.lconst 0, 1) := by decide +kernel
theorem dX6_put_58 : decode cX6_put 58 = .ok (.ldc2_w 171, 3) := by decide +kernel
theorem dX6_put_61 : decode cX6_put 61 = .ok (.invokestatic 100, 3) := by decide +kernel
theorem dX6_put_64 : decode cX6_put 64 = .ok (.ifCond .eq 7, 3) := by decide +kernel
theorem dX6_put_67 : decode cX6_put 67 = .ok (.iconst 1, 1) := by decide +kernel
theorem dX6_put_68 : decode cX6_put 68 = .ok (.goto 4, 3) := by decide +kernel
theorem dX6_put_71 : decode cX6_put 71 = .ok (.iconst 0, 1) := by decide +kernel
theorem dX6_put_72 : decode cX6_put 72 = .ok (.istore_n 3, 1) := by decide +kernel
theorem dX6_put_73 : decode cX6_put 73 = .ok (.iload_n 3, 1) := by decide +kernel
theorem dX6_put_74 : decode cX6_put 74 = .ok (.ifCond .eq 14, 3) := by decide +kernel
theorem dX6_put_77 : decode cX6_put 77 = .ok (.aload_n 0, 1) := by decide +kernel
theorem dX6_put_78 : decode cX6_put 78 = .ok (.iconst 4, 1) := by decide +kernel
theorem dX6_put_79 : decode cX6_put 79 = .ok (.iload_n 1, 1) := by decide +kernel
theorem dX6_put_80 : decode cX6_put 80 = .ok (.iadd, 1) := by decide +kernel
theorem dX6_put_81 : decode cX6_put 81 = .ok (.iload_n 2, 1) := by decide +kernel
theorem dX6_put_82 : decode cX6_put 82 = .ok (.invokevirtual 114, 3) := by decide +kernel
theorem dX6_put_85 : decode cX6_put 85 = .ok (.goto 7, 3) := by decide +kernel
theorem dX6_put_88 : decode cX6_put 88 = .ok (.aload_n 0, 1) := by decide +kernel
theorem dX6_put_89 : decode cX6_put 89 = .ok (.invokevirtual 97, 3) := by decide +kernel
theorem dX6_put_92 : decode cX6_put 92 = .ok (.ireturn, 1) := by decide +kernel
theorem dX6_prior_0 : decode cX6_prior 0 = .ok (.iload_n 1, 1) := by decide +kernel
theorem dX6_prior_1 : decode cX6_prior 1 = .ok (.i2l, 1) := by decide +kernel
theorem dX6_prior_2 : decode cX6_prior 2 = .ok (.lconst 0, 1) := by decide +kernel
theorem dX6_prior_3 : decode cX6_prior 3 = .ok (.ldc2_w 173, 3) := by decide +kernel
theorem dX6_prior_6 : decode cX6_prior 6 = .ok (.invokestatic 100, 3) := by decide +kernel
theorem dX6_prior_9 : decode cX6_prior 9 = .ok (.ifCond .eq 27, 3) := by decide +kernel
theorem dX6_prior_12 : decode cX6_prior 12 = .ok (.iload_n 2, 1) := by decide +kernel
theorem dX6_prior_13 : decode cX6_prior 13 = .ok (.i2l, 1) := by decide +kernel
theorem dX6_prior_14 : decode cX6_prior 14 = .ok (.lconst 0, 1) := by decide +kernel
theorem dX6_prior_15 : decode cX6_prior 15 = .ok (.ldc2_w 156, 3) := by decide +kernel
theorem dX6_prior_18 : decode cX6_prior 18 = .ok (.invokestatic 100, 3) := by decide +kernel
theorem dX6_prior_21 : decode cX6_prior 21 = .ok (.ifCond .eq 15, 3) := by decide +kernel
theorem dX6_prior_24 : decode cX6_prior 24 = .ok (.aload_n 0, 1) := by decide +kernel
theorem dX6_prior_25 : decode cX6_prior 25 = .ok (.bipush 8, 2) := by decide +kernel
theorem dX6_prior_27 : decode cX6_prior 27 = .ok (.iload_n 1, 1) := by decide +kernel
theorem dX6_prior_28 : decode cX6_prior 28 = .ok (.iadd, 1) := by decide +kernel
theorem dX6_prior_29 : decode cX6_prior 29 = .ok (.iload_n 2, 1) := by decide +kernel
theorem dX6_prior_30 : decode cX6_prior 30 = .ok (.invokevirtual 114, 3) := by decide +kernel
theorem dX6_prior_33 : decode cX6_prior 33 = .ok (.goto 7, 3) := by decide +kernel
theorem dX6_prior_36 : decode cX6_prior 36 = .ok (.aload_n 0, 1) := by decide +kernel
theorem dX6_prior_37 : decode cX6_prior 37 = .ok (.invokevirtual 97, 3) := by decide +kernel
theorem dX6_prior_40 : decode cX6_prior 40 = .ok (.ireturn, 1) := by decide +kernel
theorem dX6_fault_0 : decode cX6_fault 0 = .ok (.iload_n 2, 1) := by decide +kernel
theorem dX6_fault_1 : decode cX6_fault 1 = .ok (.iconst (-1), 1) := by decide +kernel
theorem dX6_fault_2 : decode cX6_fault 2 = .ok (.if_icmp .ne 11, 3) := by decide +kernel
theorem dX6_fault_5 : decode cX6_fault 5 = .ok (.iload_n 3, 1) := by decide +kernel
theorem dX6_fault_6 : decode cX6_fault 6 = .ok (.ifCond .ne 7, 3) := by decide +kernel
theorem dX6_fault_9 : decode cX6_fault 9 = .ok (.iconst 1, 1) := by decide +kernel
theorem dX6_fault_10 : decode cX6_fault 10 = .ok (.goto 4, 3) := by decide +kernel
theorem dX6_fault_13 : decode cX6_fault 13 = .ok (.iconst 0, 1) := by decide +kernel
theorem dX6_fault_14 : decode cX6_fault 14 = .ok (.istore 4, 2) := by decide +kernel
theorem dX6_fault_16 : decode cX6_fault 16 = .ok (.iload_n 1, 1) := by decide +kernel
theorem dX6_fault_17 : decode cX6_fault 17 = .ok (.i2l, 1) := by decide +kernel
theorem dX6_fault_18 : decode cX6_fault 18 = .ok (.lconst 0, 1) := by decide +kernel
theorem dX6_fault_19 : decode cX6_fault 19 = .ok (.ldc2_w 175, 3) := by decide +kernel
theorem dX6_fault_22 : decode cX6_fault 22 = .ok (.invokestatic 100, 3) := by decide +kernel
theorem dX6_fault_25 : decode cX6_fault 25 = .ok (.ifCond .eq 32, 3) := by decide +kernel
theorem dX6_fault_28 : decode cX6_fault 28 = .ok (.iload 4, 2) := by decide +kernel
theorem dX6_fault_30 : decode cX6_fault 30 = .ok (.ifCond .ne 32, 3) := by decide +kernel
theorem dX6_fault_33 : decode cX6_fault 33 = .ok (.iload_n 2, 1) := by decide +kernel
theorem dX6_fault_34 : decode cX6_fault 34 = .ok (.i2l, 1) := by decide +kernel
theorem dX6_fault_35 : decode cX6_fault 35 = .ok (.lconst 0, 1) := by decide +kernel
theorem dX6_fault_36 : decode cX6_fault 36 = .ok (.ldc2_w 173, 3) := by decide +kernel
theorem dX6_fault_39 : decode cX6_fault 39 = .ok (.invokestatic 100, 3) := by decide +kernel
theorem dX6_fault_42 : decode cX6_fault 42 = .ok (.ifCond .eq 15, 3) := by decide +kernel
theorem dX6_fault_45 : decode cX6_fault 45 = .ok (.iload_n 3, 1) := by decide +kernel
theorem dX6_fault_46 : decode cX6_fault 46 = .ok (.i2l, 1) := by decide +kernel
theorem dX6_fault_47 : decode cX6_fault 47 = .ok (.lconst 1, 1) := by decide +kernel
theorem dX6_fault_48 : decode cX6_fault 48 = .ok (.ldc2_w 175, 3) := by decide +kernel
theorem dX6_fault_51 : decode cX6_fault 51 = .ok (.invokestatic 100, 3) := by decide +kernel
theorem dX6_fault_54 : decode cX6_fault 54 = .ok (.ifCond .ne 8, 3) := by decide +kernel
theorem dX6_fault_57 : decode cX6_fault 57 = .ok (.aload_n 0, 1) := by decide +kernel
theorem dX6_fault_58 : decode cX6_fault 58 = .ok (.invokevirtual 97, 3) := by decide +kernel
theorem dX6_fault_61 : decode cX6_fault 61 = .ok (.ireturn, 1) := by decide +kernel
theorem dX6_fault_62 : decode cX6_fault 62 = .ok (.aload_n 0, 1) := by decide +kernel
theorem dX6_fault_63 : decode cX6_fault 63 = .ok (.getfield 7, 3) := by decide +kernel
theorem dX6_fault_66 : decode cX6_fault 66 = .ok (.bipush 15, 2) := by decide +kernel
theorem dX6_fault_68 : decode cX6_fault 68 = .ok (.iload_n 1, 1) := by decide +kernel
theorem dX6_fault_69 : decode cX6_fault 69 = .ok (.iadd, 1) := by decide +kernel
theorem dX6_fault_70 : decode cX6_fault 70 = .ok (.iload 4, 2) := by decide +kernel
theorem dX6_fault_72 : decode cX6_fault 72 = .ok (.ifCond .eq 7, 3) := by decide +kernel
theorem dX6_fault_75 : decode cX6_fault 75 = .ok (.iconst (-1), 1) := by decide +kernel
theorem dX6_fault_76 : decode cX6_fault 76 = .ok (.goto 10, 3) := by decide +kernel
theorem dX6_fault_79 : decode cX6_fault 79 = .ok (.iconst 3, 1) := by decide +kernel
theorem dX6_fault_80 : decode cX6_fault 80 = .ok (.iload_n 2, 1) := by decide +kernel
theorem dX6_fault_81 : decode cX6_fault 81 = .ok (.imul, 1) := by decide +kernel
theorem dX6_fault_82 : decode cX6_fault 82 = .ok (.iload_n 3, 1) := by decide +kernel
theorem dX6_fault_83 : decode cX6_fault 83 = .ok (.iadd, 1) := by decide +kernel
theorem dX6_fault_84 : decode cX6_fault 84 = .ok (.iconst 1, 1) := by decide +kernel
theorem dX6_fault_85 : decode cX6_fault 85 = .ok (.isub, 1) := by decide +kernel
theorem dX6_fault_86 : decode cX6_fault 86 = .ok (.iastore, 1) := by decide +kernel
theorem dX6_fault_87 : decode cX6_fault 87 = .ok (.iconst 1, 1) := by decide +kernel
theorem dX6_fault_88 : decode cX6_fault 88 = .ok (.ireturn, 1) := by decide +kernel
theorem dX6_above0_0 : decode cX6_above0 0 = .ok (.iload_n 0, 1) := by decide +kernel
theorem dX6_above0_1 : decode cX6_above0 1 = .ok (.ifCond .le 7, 3) := by decide +kernel
theorem dX6_above0_4 : decode cX6_above0 4 = .ok (.iload_n 0, 1) := by decide +kernel
theorem dX6_above0_5 : decode cX6_above0 5 = .ok (.goto 4, 3) := by decide +kernel
theorem dX6_above0_8 : decode cX6_above0 8 = .ok (.iconst 0, 1) := by decide +kernel
theorem dX6_above0_9 : decode cX6_above0 9 = .ok (.ireturn, 1) := by decide +kernel
theorem dX6_lays_0 : decode cX6_lays 0 = .ok (.iload_n 1, 1) := by decide +kernel
theorem dX6_lays_1 : decode cX6_lays 1 = .ok (.iconst 3, 1) := by decide +kernel
theorem dX6_lays_2 : decode cX6_lays 2 = .ok (.idiv, 1) := by decide +kernel
theorem dX6_lays_3 : decode cX6_lays 3 = .ok (.istore_n 3, 1) := by decide +kernel
theorem dX6_lays_4 : decode cX6_lays 4 = .ok (.iload_n 1, 1) := by decide +kernel
theorem dX6_lays_5 : decode cX6_lays 5 = .ok (.iconst 3, 1) := by decide +kernel
theorem dX6_lays_6 : decode cX6_lays 6 = .ok (.irem, 1) := by decide +kernel
theorem dX6_lays_7 : decode cX6_lays 7 = .ok (.iconst 1, 1) := by decide +kernel
theorem dX6_lays_8 : decode cX6_lays 8 = .ok (.iadd, 1) := by decide +kernel
theorem dX6_lays_9 : decode cX6_lays 9 = .ok (.istore 4, 2) := by decide +kernel
theorem dX6_lays_11 : decode cX6_lays 11 = .ok (.sipush 480, 3) := by decide +kernel
theorem dX6_lays_14 : decode cX6_lays 14 = .ok (.iload_n 1, 1) := by decide +kernel
theorem dX6_lays_15 : decode cX6_lays 15 = .ok (.imul, 1) := by decide +kernel
theorem dX6_lays_16 : decode cX6_lays 16 = .ok (.iconst 4, 1) := by decide +kernel
theorem dX6_lays_17 : decode cX6_lays 17 = .ok (.iload_n 2, 1) := by decide +kernel
theorem dX6_lays_18 : decode cX6_lays 18 = .ok (.imul, 1) := by decide +kernel
theorem dX6_lays_19 : decode cX6_lays 19 = .ok (.iadd, 1) := by decide +kernel
theorem dX6_lays_20 : decode cX6_lays 20 = .ok (.istore 5, 2) := by decide +kernel
theorem dX6_lays_22 : decode cX6_lays 22 = .ok (.aload_n 0, 1) := by decide +kernel
theorem dX6_lays_23 : decode cX6_lays 23 = .ok (.getfield 32, 3) := by decide +kernel
theorem dX6_lays_26 : decode cX6_lays 26 = .ok (.iload_n 2, 1) := by decide +kernel
theorem dX6_lays_27 : decode cX6_lays 27 = .ok (.iaload, 1) := by decide +kernel
theorem dX6_lays_28 : decode cX6_lays 28 = .ok (.istore 6, 2) := by decide +kernel
theorem dX6_lays_30 : decode cX6_lays 30 = .ok (.iload 4, 2) := by decide +kernel
theorem dX6_lays_32 : decode cX6_lays 32 = .ok (.bipush 100, 2) := by decide +kernel
theorem dX6_lays_34 : decode cX6_lays 34 = .ok (.aload_n 0, 1) := by decide +kernel
theorem dX6_lays_35 : decode cX6_lays 35 = .ok (.getfield 35, 3) := by decide +kernel
theorem dX6_lays_38 : decode cX6_lays 38 = .ok (.iload_n 2, 1) := by decide +kernel
theorem dX6_lays_39 : decode cX6_lays 39 = .ok (.iaload, 1) := by decide +kernel
theorem dX6_lays_40 : decode cX6_lays 40 = .ok (.isub, 1) := by decide +kernel
theorem dX6_lays_41 : decode cX6_lays 41 = .ok (.imul, 1) := by decide +kernel
theorem dX6_lays_42 : decode cX6_lays 42 = .ok (.bipush 20, 2) := by decide +kernel
theorem dX6_lays_44 : decode cX6_lays 44 = .ok (.idiv, 1) := by decide +kernel
theorem dX6_lays_45 : decode cX6_lays 45 = .ok (.istore 7, 2) := by decide +kernel
theorem dX6_lays_47 : decode cX6_lays 47 = .ok (.iconst 0, 1) := by decide +kernel
theorem dX6_lays_48 : decode cX6_lays 48 = .ok (.istore 8, 2) := by decide +kernel
theorem dX6_lays_50 : decode cX6_lays 50 = .ok (.iload 8, 2) := by decide +kernel
theorem dX6_lays_52 : decode cX6_lays 52 = .ok (.iconst 4, 1) := by decide +kernel
theorem dX6_lays_53 : decode cX6_lays 53 = .ok (.if_icmp .ge 20, 3) := by decide +kernel
theorem dX6_lays_56 : decode cX6_lays 56 = .ok (.aload_n 0, 1) := by decide +kernel
theorem dX6_lays_57 : decode cX6_lays 57 = .ok (.getfield 38, 3) := by decide +kernel
theorem dX6_lays_60 : decode cX6_lays 60 = .ok (.iload 5, 2) := by decide +kernel
theorem dX6_lays_62 : decode cX6_lays 62 = .ok (.iload 8, 2) := by decide +kernel
theorem dX6_lays_64 : decode cX6_lays 64 = .ok (.iadd, 1) := by decide +kernel
theorem dX6_lays_65 : decode cX6_lays 65 = .ok (.iconst 0, 1) := by decide +kernel
theorem dX6_lays_66 : decode cX6_lays 66 = .ok (.iastore, 1) := by decide +kernel
theorem dX6_lays_67 : decode cX6_lays 67 = .ok (.iinc 8 1, 3) := by decide +kernel
theorem dX6_lays_70 : decode cX6_lays 70 = .ok (.goto (-20), 3) := by decide +kernel
theorem dX6_lays_73 : decode cX6_lays 73 = .ok (.iload_n 3, 1) := by decide +kernel
theorem dX6_lays_74 : decode cX6_lays 74 = .ok (.tableswitch 208 0 6 #[42, 208, 57, 71, 99, 121, 166], 42) := by decide +kernel
theorem dX6_lays_116 : decode cX6_lays 116 = .ok (.aload_n 0, 1) := by decide +kernel
theorem dX6_lays_117 : decode cX6_lays 117 = .ok (.getfield 38, 3) := by decide +kernel
theorem dX6_lays_120 : decode cX6_lays 120 = .ok (.iload 5, 2) := by decide +kernel
theorem dX6_lays_122 : decode cX6_lays 122 = .ok (.iload 4, 2) := by decide +kernel
theorem dX6_lays_124 : decode cX6_lays 124 = .ok (.iload 6, 2) := by decide +kernel
theorem dX6_lays_126 : decode cX6_lays 126 = .ok (.imul, 1) := by decide +kernel
theorem dX6_lays_127 : decode cX6_lays 127 = .ok (.iastore, 1) := by decide +kernel
theorem dX6_lays_128 : decode cX6_lays 128 = .ok (.goto 154, 3) := by decide +kernel
theorem dX6_lays_131 : decode cX6_lays 131 = .ok (.aload_n 0, 1) := by decide +kernel
theorem dX6_lays_132 : decode cX6_lays 132 = .ok (.getfield 38, 3) := by decide +kernel
theorem dX6_lays_135 : decode cX6_lays 135 = .ok (.iload 5, 2) := by decide +kernel
theorem dX6_lays_137 : decode cX6_lays 137 = .ok (.iconst 1, 1) := by decide +kernel
theorem dX6_lays_138 : decode cX6_lays 138 = .ok (.iadd, 1) := by decide +kernel
theorem dX6_lays_139 : decode cX6_lays 139 = .ok (.iload 7, 2) := by decide +kernel
theorem dX6_lays_141 : decode cX6_lays 141 = .ok (.iastore, 1) := by decide +kernel
theorem dX6_lays_142 : decode cX6_lays 142 = .ok (.goto 140, 3) := by decide +kernel
theorem dX6_lays_145 : decode cX6_lays 145 = .ok (.aload_n 0, 1) := by decide +kernel
theorem dX6_lays_146 : decode cX6_lays 146 = .ok (.getfield 38, 3) := by decide +kernel
theorem dX6_lays_149 : decode cX6_lays 149 = .ok (.iload 5, 2) := by decide +kernel
theorem dX6_lays_151 : decode cX6_lays 151 = .ok (.iconst 2, 1) := by decide +kernel
theorem dX6_lays_152 : decode cX6_lays 152 = .ok (.iadd, 1) := by decide +kernel
theorem dX6_lays_153 : decode cX6_lays 153 = .ok (.iload 7, 2) := by decide +kernel
theorem dX6_lays_155 : decode cX6_lays 155 = .ok (.iconst 2, 1) := by decide +kernel
theorem dX6_lays_156 : decode cX6_lays 156 = .ok (.idiv, 1) := by decide +kernel
theorem dX6_lays_157 : decode cX6_lays 157 = .ok (.iload 6, 2) := by decide +kernel
theorem dX6_lays_159 : decode cX6_lays 159 = .ok (.ifCond .ne 8, 3) := by decide +kernel
theorem dX6_lays_162 : decode cX6_lays 162 = .ok (.iload 4, 2) := by decide +kernel
theorem dX6_lays_164 : decode cX6_lays 164 = .ok (.goto 4, 3) := by decide +kernel
theorem dX6_lays_167 : decode cX6_lays 167 = .ok (.iconst 0, 1) := by decide +kernel
theorem dX6_lays_168 : decode cX6_lays 168 = .ok (.iadd, 1) := by decide +kernel
theorem dX6_lays_169 : decode cX6_lays 169 = .ok (.iastore, 1) := by decide +kernel
theorem dX6_lays_170 : decode cX6_lays 170 = .ok (.goto 112, 3) := by decide +kernel
theorem dX6_lays_173 : decode cX6_lays 173 = .ok (.aload_n 0, 1) := by decide +kernel
theorem dX6_lays_174 : decode cX6_lays 174 = .ok (.getfield 38, 3) := by decide +kernel
theorem dX6_lays_177 : decode cX6_lays 177 = .ok (.iload 5, 2) := by decide +kernel
theorem dX6_lays_179 : decode cX6_lays 179 = .ok (.iconst 3, 1) := by decide +kernel
theorem dX6_lays_180 : decode cX6_lays 180 = .ok (.iadd, 1) := by decide +kernel
theorem dX6_lays_181 : decode cX6_lays 181 = .ok (.iload 4, 2) := by decide +kernel
theorem dX6_lays_183 : decode cX6_lays 183 = .ok (.iload 6, 2) := by decide +kernel
theorem dX6_lays_185 : decode cX6_lays 185 = .ok (.iconst 4, 1) := by decide +kernel
theorem dX6_lays_186 : decode cX6_lays 186 = .ok (.isub, 1) := by decide +kernel
theorem dX6_lays_187 : decode cX6_lays 187 = .ok (.imul, 1) := by decide +kernel
theorem dX6_lays_188 : decode cX6_lays 188 = .ok (.invokestatic 177, 3) := by decide +kernel
theorem dX6_lays_191 : decode cX6_lays 191 = .ok (.iastore, 1) := by decide +kernel
theorem dX6_lays_192 : decode cX6_lays 192 = .ok (.goto 90, 3) := by decide +kernel
theorem dX6_lays_195 : decode cX6_lays 195 = .ok (.aload_n 0, 1) := by decide +kernel
theorem dX6_lays_196 : decode cX6_lays 196 = .ok (.getfield 38, 3) := by decide +kernel
theorem dX6_lays_199 : decode cX6_lays 199 = .ok (.iload 5, 2) := by decide +kernel
theorem dX6_lays_201 : decode cX6_lays 201 = .ok (.iconst 3, 1) := by decide +kernel
theorem dX6_lays_202 : decode cX6_lays 202 = .ok (.iadd, 1) := by decide +kernel
theorem dX6_lays_203 : decode cX6_lays 203 = .ok (.iload 6, 2) := by decide +kernel
theorem dX6_lays_205 : decode cX6_lays 205 = .ok (.ifCond .ne 7, 3) := by decide +kernel
theorem dX6_lays_208 : decode cX6_lays 208 = .ok (.iconst 0, 1) := by decide +kernel
theorem dX6_lays_209 : decode cX6_lays 209 = .ok (.goto 13, 3) := by decide +kernel
theorem dX6_lays_212 : decode cX6_lays 212 = .ok (.iload 4, 2) := by decide +kernel
theorem dX6_lays_214 : decode cX6_lays 214 = .ok (.iload 6, 2) := by decide +kernel
theorem dX6_lays_216 : decode cX6_lays 216 = .ok (.iconst 2, 1) := by decide +kernel
theorem dX6_lays_217 : decode cX6_lays 217 = .ok (.isub, 1) := by decide +kernel
theorem dX6_lays_218 : decode cX6_lays 218 = .ok (.imul, 1) := by decide +kernel
theorem dX6_lays_219 : decode cX6_lays 219 = .ok (.invokestatic 177, 3) := by decide +kernel
theorem dX6_lays_222 : decode cX6_lays 222 = .ok (.iload 6, 2) := by decide +kernel
theorem dX6_lays_224 : decode cX6_lays 224 = .ok (.bipush 6, 2) := by decide +kernel
theorem dX6_lays_226 : decode cX6_lays 226 = .ok (.if_icmp .le 8, 3) := by decide +kernel
theorem dX6_lays_229 : decode cX6_lays 229 = .ok (.iload 4, 2) := by decide +kernel
theorem dX6_lays_231 : decode cX6_lays 231 = .ok (.goto 4, 3) := by decide +kernel
theorem dX6_lays_234 : decode cX6_lays 234 = .ok (.iconst 0, 1) := by decide +kernel
theorem dX6_lays_235 : decode cX6_lays 235 = .ok (.iadd, 1) := by decide +kernel
theorem dX6_lays_236 : decode cX6_lays 236 = .ok (.iastore, 1) := by decide +kernel
theorem dX6_lays_237 : decode cX6_lays 237 = .ok (.goto 45, 3) := by decide +kernel
theorem dX6_lays_240 : decode cX6_lays 240 = .ok (.aload_n 0, 1) := by decide +kernel
theorem dX6_lays_241 : decode cX6_lays 241 = .ok (.getfield 38, 3) := by decide +kernel
theorem dX6_lays_244 : decode cX6_lays 244 = .ok (.iload 5, 2) := by decide +kernel
theorem dX6_lays_246 : decode cX6_lays 246 = .ok (.iload 4, 2) := by decide +kernel
theorem dX6_lays_248 : decode cX6_lays 248 = .ok (.iload 6, 2) := by decide +kernel
theorem dX6_lays_250 : decode cX6_lays 250 = .ok (.imul, 1) := by decide +kernel
theorem dX6_lays_251 : decode cX6_lays 251 = .ok (.iconst 2, 1) := by decide +kernel
theorem dX6_lays_252 : decode cX6_lays 252 = .ok (.idiv, 1) := by decide +kernel
theorem dX6_lays_253 : decode cX6_lays 253 = .ok (.iastore, 1) := by decide +kernel
theorem dX6_lays_254 : decode cX6_lays 254 = .ok (.aload_n 0, 1) := by decide +kernel
theorem dX6_lays_255 : decode cX6_lays 255 = .ok (.getfield 38, 3) := by decide +kernel
theorem dX6_lays_258 : decode cX6_lays 258 = .ok (.iload 5, 2) := by decide +kernel
theorem dX6_lays_260 : decode cX6_lays 260 = .ok (.iconst 1, 1) := by decide +kernel
theorem dX6_lays_261 : decode cX6_lays 261 = .ok (.iadd, 1) := by decide +kernel
theorem dX6_lays_262 : decode cX6_lays 262 = .ok (.aload_n 0, 1) := by decide +kernel
theorem dX6_lays_263 : decode cX6_lays 263 = .ok (.getfield 35, 3) := by decide +kernel
theorem dX6_lays_266 : decode cX6_lays 266 = .ok (.iload_n 2, 1) := by decide +kernel
theorem dX6_lays_267 : decode cX6_lays 267 = .ok (.iaload, 1) := by decide +kernel
theorem dX6_lays_268 : decode cX6_lays 268 = .ok (.bipush 30, 2) := by decide +kernel
theorem dX6_lays_270 : decode cX6_lays 270 = .ok (.if_icmp .ge 7, 3) := by decide +kernel
theorem dX6_lays_273 : decode cX6_lays 273 = .ok (.iconst 1, 1) := by decide +kernel
theorem dX6_lays_274 : decode cX6_lays 274 = .ok (.goto 4, 3) := by decide +kernel
theorem dX6_lays_277 : decode cX6_lays 277 = .ok (.iconst 0, 1) := by decide +kernel
theorem dX6_lays_278 : decode cX6_lays 278 = .ok (.iastore, 1) := by decide +kernel
theorem dX6_lays_279 : decode cX6_lays 279 = .ok (.goto 3, 3) := by decide +kernel
theorem dX6_lays_282 : decode cX6_lays 282 = .ok (.return_, 1) := by decide +kernel
theorem dX6_stems_0 : decode cX6_stems 0 = .ok (.iconst 3, 1) := by decide +kernel
theorem dX6_stems_1 : decode cX6_stems 1 = .ok (.iload_n 1, 1) := by decide +kernel
theorem dX6_stems_2 : decode cX6_stems 2 = .ok (.iadd, 1) := by decide +kernel
theorem dX6_stems_3 : decode cX6_stems 3 = .ok (.iconst 1, 1) := by decide +kernel
theorem dX6_stems_4 : decode cX6_stems 4 = .ok (.isub, 1) := by decide +kernel
theorem dX6_stems_5 : decode cX6_stems 5 = .ok (.istore_n 2, 1) := by decide +kernel
theorem dX6_stems_6 : decode cX6_stems 6 = .ok (.iconst 0, 1) := by decide +kernel
theorem dX6_stems_7 : decode cX6_stems 7 = .ok (.istore_n 3, 1) := by decide +kernel
theorem dX6_stems_8 : decode cX6_stems 8 = .ok (.iconst 0, 1) := by decide +kernel
theorem dX6_stems_9 : decode cX6_stems 9 = .ok (.istore 4, 2) := by decide +kernel
theorem dX6_stems_11 : decode cX6_stems 11 = .ok (.iload 4, 2) := by decide +kernel
theorem dX6_stems_13 : decode cX6_stems 13 = .ok (.aload_n 0, 1) := by decide +kernel
theorem dX6_stems_14 : decode cX6_stems 14 = .ok (.getfield 150, 3) := by decide +kernel
theorem dX6_stems_17 : decode cX6_stems 17 = .ok (.if_icmp .ge 126, 3) := by decide +kernel
theorem dX6_stems_20 : decode cX6_stems 20 = .ok (.aload_n 0, 1) := by decide +kernel
theorem dX6_stems_21 : decode cX6_stems 21 = .ok (.getfield 32, 3) := by decide +kernel
theorem dX6_stems_24 : decode cX6_stems 24 = .ok (.iload 4, 2) := by decide +kernel
theorem dX6_stems_26 : decode cX6_stems 26 = .ok (.iaload, 1) := by decide +kernel
theorem dX6_stems_27 : decode cX6_stems 27 = .ok (.ifCond .le 9, 3) := by decide +kernel
theorem dX6_stems_30 : decode cX6_stems 30 = .ok (.iconst 4, 1) := by decide +kernel
theorem dX6_stems_31 : decode cX6_stems 31 = .ok (.iload_n 1, 1) := by decide +kernel
theorem dX6_stems_32 : decode cX6_stems 32 = .ok (.imul, 1) := by decide +kernel
theorem dX6_stems_33 : decode cX6_stems 33 = .ok (.goto 19, 3) := by decide +kernel
theorem dX6_stems_36 : decode cX6_stems 36 = .ok (.aload_n 0, 1) := by decide +kernel
theorem dX6_stems_37 : decode cX6_stems 37 = .ok (.getfield 29, 3) := by decide +kernel
theorem dX6_stems_40 : decode cX6_stems 40 = .ok (.iload 4, 2) := by decide +kernel
theorem dX6_stems_42 : decode cX6_stems 42 = .ok (.iaload, 1) := by decide +kernel
theorem dX6_stems_43 : decode cX6_stems 43 = .ok (.iconst 5, 1) := by decide +kernel
theorem dX6_stems_44 : decode cX6_stems 44 = .ok (.if_icmp .ne 7, 3) := by decide +kernel
theorem dX6_stems_47 : decode cX6_stems 47 = .ok (.iconst 1, 1) := by decide +kernel
theorem dX6_stems_48 : decode cX6_stems 48 = .ok (.goto 4, 3) := by decide +kernel
theorem dX6_stems_51 : decode cX6_stems 51 = .ok (.iconst 0, 1) := by decide +kernel
theorem dX6_stems_52 : decode cX6_stems 52 = .ok (.istore 5, 2) := by decide +kernel
theorem dX6_stems_54 : decode cX6_stems 54 = .ok (.iload_n 3, 1) := by decide +kernel
theorem dX6_stems_55 : decode cX6_stems 55 = .ok (.iload 5, 2) := by decide +kernel
theorem dX6_stems_57 : decode cX6_stems 57 = .ok (.if_icmp .ge 7, 3) := by decide +kernel
theorem dX6_stems_60 : decode cX6_stems 60 = .ok (.iload_n 3, 1) := by decide +kernel
theorem dX6_stems_61 : decode cX6_stems 61 = .ok (.goto 5, 3) := by decide +kernel
theorem dX6_stems_64 : decode cX6_stems 64 = .ok (.iload 5, 2) := by decide +kernel
theorem dX6_stems_66 : decode cX6_stems 66 = .ok (.istore 6, 2) := by decide +kernel
theorem dX6_stems_68 : decode cX6_stems 68 = .ok (.aload_n 0, 1) := by decide +kernel
theorem dX6_stems_69 : decode cX6_stems 69 = .ok (.getfield 38, 3) := by decide +kernel
theorem dX6_stems_72 : decode cX6_stems 72 = .ok (.sipush 480, 3) := by decide +kernel
theorem dX6_stems_75 : decode cX6_stems 75 = .ok (.iload_n 2, 1) := by decide +kernel
theorem dX6_stems_76 : decode cX6_stems 76 = .ok (.imul, 1) := by decide +kernel
theorem dX6_stems_77 : decode cX6_stems 77 = .ok (.iconst 4, 1) := by decide +kernel
theorem dX6_stems_78 : decode cX6_stems 78 = .ok (.iload 4, 2) := by decide +kernel
theorem dX6_stems_80 : decode cX6_stems 80 = .ok (.imul, 1) := by decide +kernel
theorem dX6_stems_81 : decode cX6_stems 81 = .ok (.iadd, 1) := by decide +kernel
theorem dX6_stems_82 : decode cX6_stems 82 = .ok (.iload 6, 2) := by decide +kernel
theorem dX6_stems_84 : decode cX6_stems 84 = .ok (.iastore, 1) := by decide +kernel
theorem dX6_stems_85 : decode cX6_stems 85 = .ok (.iload_n 3, 1) := by decide +kernel
theorem dX6_stems_86 : decode cX6_stems 86 = .ok (.aload_n 0, 1) := by decide +kernel
theorem dX6_stems_87 : decode cX6_stems 87 = .ok (.getfield 29, 3) := by decide +kernel
theorem dX6_stems_90 : decode cX6_stems 90 = .ok (.iload 4, 2) := by decide +kernel
theorem dX6_stems_92 : decode cX6_stems 92 = .ok (.iaload, 1) := by decide +kernel
theorem dX6_stems_93 : decode cX6_stems 93 = .ok (.iconst 4, 1) := by decide +kernel
theorem dX6_stems_94 : decode cX6_stems 94 = .ok (.if_icmp .ne 7, 3) := by decide +kernel
theorem dX6_stems_97 : decode cX6_stems 97 = .ok (.iload_n 1, 1) := by decide +kernel
theorem dX6_stems_98 : decode cX6_stems 98 = .ok (.goto 24, 3) := by decide +kernel
theorem dX6_stems_101 : decode cX6_stems 101 = .ok (.aload_n 0, 1) := by decide +kernel
theorem dX6_stems_102 : decode cX6_stems 102 = .ok (.getfield 29, 3) := by decide +kernel
theorem dX6_stems_105 : decode cX6_stems 105 = .ok (.iload 4, 2) := by decide +kernel
theorem dX6_stems_107 : decode cX6_stems 107 = .ok (.iaload, 1) := by decide +kernel
theorem dX6_stems_108 : decode cX6_stems 108 = .ok (.bipush 7, 2) := by decide +kernel
theorem dX6_stems_110 : decode cX6_stems 110 = .ok (.if_icmp .ne 9, 3) := by decide +kernel
theorem dX6_stems_113 : decode cX6_stems 113 = .ok (.iconst 3, 1) := by decide +kernel
theorem dX6_stems_114 : decode cX6_stems 114 = .ok (.iload_n 1, 1) := by decide +kernel
theorem dX6_stems_115 : decode cX6_stems 115 = .ok (.imul, 1) := by decide +kernel
theorem dX6_stems_116 : decode cX6_stems 116 = .ok (.goto 6, 3) := by decide +kernel
theorem dX6_stems_119 : decode cX6_stems 119 = .ok (.iload 6, 2) := by decide +kernel
theorem dX6_stems_121 : decode cX6_stems 121 = .ok (.ineg, 1) := by decide +kernel
theorem dX6_stems_122 : decode cX6_stems 122 = .ok (.iadd, 1) := by decide +kernel
theorem dX6_stems_123 : decode cX6_stems 123 = .ok (.istore_n 3, 1) := by decide +kernel
theorem dX6_stems_124 : decode cX6_stems 124 = .ok (.iload_n 3, 1) := by decide +kernel
theorem dX6_stems_125 : decode cX6_stems 125 = .ok (.bipush 30, 2) := by decide +kernel
theorem dX6_stems_127 : decode cX6_stems 127 = .ok (.if_icmp .le 8, 3) := by decide +kernel
theorem dX6_stems_130 : decode cX6_stems 130 = .ok (.bipush 30, 2) := by decide +kernel
theorem dX6_stems_132 : decode cX6_stems 132 = .ok (.goto 4, 3) := by decide +kernel
theorem dX6_stems_135 : decode cX6_stems 135 = .ok (.iload_n 3, 1) := by decide +kernel
theorem dX6_stems_136 : decode cX6_stems 136 = .ok (.istore_n 3, 1) := by decide +kernel
theorem dX6_stems_137 : decode cX6_stems 137 = .ok (.iinc 4 1, 3) := by decide +kernel
theorem dX6_stems_140 : decode cX6_stems 140 = .ok (.goto (-129), 3) := by decide +kernel
theorem dX6_stems_143 : decode cX6_stems 143 = .ok (.return_, 1) := by decide +kernel
theorem dX6_passes_0 : decode cX6_passes 0 = .ok (.aload_n 0, 1) := by decide +kernel
theorem dX6_passes_1 : decode cX6_passes 1 = .ok (.invokevirtual 160, 3) := by decide +kernel
theorem dX6_passes_4 : decode cX6_passes 4 = .ok (.ifCond .ne 5, 3) := by decide +kernel
theorem dX6_passes_7 : decode cX6_passes 7 = .ok (.iconst 0, 1) := by decide +kernel
theorem dX6_passes_8 : decode cX6_passes 8 = .ok (.ireturn, 1) := by decide +kernel
theorem dX6_passes_9 : decode cX6_passes 9 = .ok (.aload_n 0, 1) := by decide +kernel
theorem dX6_passes_10 : decode cX6_passes 10 = .ok (.getfield 35, 3) := by decide +kernel
theorem dX6_passes_13 : decode cX6_passes 13 = .ok (.iconst 0, 1) := by decide +kernel
theorem dX6_passes_14 : decode cX6_passes 14 = .ok (.iload_n 1, 1) := by decide +kernel
theorem dX6_passes_15 : decode cX6_passes 15 = .ok (.iastore, 1) := by decide +kernel
theorem dX6_passes_16 : decode cX6_passes 16 = .ok (.iconst 0, 1) := by decide +kernel
theorem dX6_passes_17 : decode cX6_passes 17 = .ok (.istore_n 2, 1) := by decide +kernel
theorem dX6_passes_18 : decode cX6_passes 18 = .ok (.iload_n 2, 1) := by decide +kernel
theorem dX6_passes_19 : decode cX6_passes 19 = .ok (.aload_n 0, 1) := by decide +kernel
theorem dX6_passes_20 : decode cX6_passes 20 = .ok (.getfield 150, 3) := by decide +kernel
theorem dX6_passes_23 : decode cX6_passes 23 = .ok (.if_icmp .ge 143, 3) := by decide +kernel
theorem dX6_passes_26 : decode cX6_passes 26 = .ok (.aload_n 0, 1) := by decide +kernel
theorem dX6_passes_27 : decode cX6_passes 27 = .ok (.getfield 29, 3) := by decide +kernel
theorem dX6_passes_30 : decode cX6_passes 30 = .ok (.iload_n 2, 1) := by decide +kernel
theorem dX6_passes_31 : decode cX6_passes 31 = .ok (.iaload, 1) := by decide +kernel
theorem dX6_passes_32 : decode cX6_passes 32 = .ok (.iconst 4, 1) := by decide +kernel
theorem dX6_passes_33 : decode cX6_passes 33 = .ok (.if_icmp .ne 14, 3) := by decide +kernel
theorem dX6_passes_36 : decode cX6_passes 36 = .ok (.aload_n 0, 1) := by decide +kernel
theorem dX6_passes_37 : decode cX6_passes 37 = .ok (.getfield 35, 3) := by decide +kernel
theorem dX6_passes_40 : decode cX6_passes 40 = .ok (.iload_n 2, 1) := by decide +kernel
theorem dX6_passes_41 : decode cX6_passes 41 = .ok (.iaload, 1) := by decide +kernel
theorem dX6_passes_42 : decode cX6_passes 42 = .ok (.iconst 1, 1) := by decide +kernel
theorem dX6_passes_43 : decode cX6_passes 43 = .ok (.isub, 1) := by decide +kernel
theorem dX6_passes_44 : decode cX6_passes 44 = .ok (.goto 20, 3) := by decide +kernel
theorem dX6_passes_47 : decode cX6_passes 47 = .ok (.aload_n 0, 1) := by decide +kernel
theorem dX6_passes_48 : decode cX6_passes 48 = .ok (.getfield 35, 3) := by decide +kernel
theorem dX6_passes_51 : decode cX6_passes 51 = .ok (.iload_n 2, 1) := by decide +kernel
theorem dX6_passes_52 : decode cX6_passes 52 = .ok (.iaload, 1) := by decide +kernel
theorem dX6_passes_53 : decode cX6_passes 53 = .ok (.iconst 2, 1) := by decide +kernel
theorem dX6_passes_54 : decode cX6_passes 54 = .ok (.iadd, 1) := by decide +kernel
theorem dX6_passes_55 : decode cX6_passes 55 = .ok (.aload_n 0, 1) := by decide +kernel
theorem dX6_passes_56 : decode cX6_passes 56 = .ok (.getfield 32, 3) := by decide +kernel
theorem dX6_passes_59 : decode cX6_passes 59 = .ok (.iload_n 2, 1) := by decide +kernel
theorem dX6_passes_60 : decode cX6_passes 60 = .ok (.iaload, 1) := by decide +kernel
theorem dX6_passes_61 : decode cX6_passes 61 = .ok (.iconst 3, 1) := by decide +kernel
theorem dX6_passes_62 : decode cX6_passes 62 = .ok (.idiv, 1) := by decide +kernel
theorem dX6_passes_63 : decode cX6_passes 63 = .ok (.iadd, 1) := by decide +kernel
theorem dX6_passes_64 : decode cX6_passes 64 = .ok (.istore_n 3, 1) := by decide +kernel
theorem dX6_passes_65 : decode cX6_passes 65 = .ok (.aload_n 0, 1) := by decide +kernel
theorem dX6_passes_66 : decode cX6_passes 66 = .ok (.getfield 35, 3) := by decide +kernel
theorem dX6_passes_69 : decode cX6_passes 69 = .ok (.iload_n 2, 1) := by decide +kernel
theorem dX6_passes_70 : decode cX6_passes 70 = .ok (.iconst 1, 1) := by decide +kernel
theorem dX6_passes_71 : decode cX6_passes 71 = .ok (.iadd, 1) := by decide +kernel
theorem dX6_passes_72 : decode cX6_passes 72 = .ok (.iload_n 3, 1) := by decide +kernel
theorem dX6_passes_73 : decode cX6_passes 73 = .ok (.ifCond .ge 7, 3) := by decide +kernel
theorem dX6_passes_76 : decode cX6_passes 76 = .ok (.iconst 0, 1) := by decide +kernel
theorem dX6_passes_77 : decode cX6_passes 77 = .ok (.goto 15, 3) := by decide +kernel
theorem dX6_passes_80 : decode cX6_passes 80 = .ok (.iload_n 3, 1) := by decide +kernel
theorem dX6_passes_81 : decode cX6_passes 81 = .ok (.bipush 100, 2) := by decide +kernel
theorem dX6_passes_83 : decode cX6_passes 83 = .ok (.if_icmp .le 8, 3) := by decide +kernel
theorem dX6_passes_86 : decode cX6_passes 86 = .ok (.bipush 100, 2) := by decide +kernel
theorem dX6_passes_88 : decode cX6_passes 88 = .ok (.goto 4, 3) := by decide +kernel
theorem dX6_passes_91 : decode cX6_passes 91 = .ok (.iload_n 3, 1) := by decide +kernel
theorem dX6_passes_92 : decode cX6_passes 92 = .ok (.iastore, 1) := by decide +kernel
theorem dX6_passes_93 : decode cX6_passes 93 = .ok (.iconst 0, 1) := by decide +kernel
theorem dX6_passes_94 : decode cX6_passes 94 = .ok (.istore 4, 2) := by decide +kernel
theorem dX6_passes_96 : decode cX6_passes 96 = .ok (.iload 4, 2) := by decide +kernel
theorem dX6_passes_98 : decode cX6_passes 98 = .ok (.bipush 21, 2) := by decide +kernel
theorem dX6_passes_100 : decode cX6_passes 100 = .ok (.if_icmp .ge 60, 3) := by decide +kernel
theorem dX6_passes_103 : decode cX6_passes 103 = .ok (.aload_n 0, 1) := by decide +kernel
theorem dX6_passes_104 : decode cX6_passes 104 = .ok (.iload 4, 2) := by decide +kernel
theorem dX6_passes_106 : decode cX6_passes 106 = .ok (.iload_n 2, 1) := by decide +kernel
theorem dX6_passes_107 : decode cX6_passes 107 = .ok (.invokevirtual 181, 3) := by decide +kernel
theorem dX6_passes_110 : decode cX6_passes 110 = .ok (.iconst 0, 1) := by decide +kernel
theorem dX6_passes_111 : decode cX6_passes 111 = .ok (.istore 5, 2) := by decide +kernel
theorem dX6_passes_113 : decode cX6_passes 113 = .ok (.iload 5, 2) := by decide +kernel
theorem dX6_passes_115 : decode cX6_passes 115 = .ok (.iconst 4, 1) := by decide +kernel
theorem dX6_passes_116 : decode cX6_passes 116 = .ok (.if_icmp .ge 38, 3) := by decide +kernel
theorem dX6_passes_119 : decode cX6_passes 119 = .ok (.aload_n 0, 1) := by decide +kernel
theorem dX6_passes_120 : decode cX6_passes 120 = .ok (.getfield 29, 3) := by decide +kernel
theorem dX6_passes_123 : decode cX6_passes 123 = .ok (.iload_n 2, 1) := by decide +kernel
theorem dX6_passes_124 : decode cX6_passes 124 = .ok (.iaload, 1) := by decide +kernel
theorem dX6_passes_125 : decode cX6_passes 125 = .ok (.iconst 4, 1) := by decide +kernel
theorem dX6_passes_126 : decode cX6_passes 126 = .ok (.if_icmp .ne 28, 3) := by decide +kernel
theorem dX6_passes_129 : decode cX6_passes 129 = .ok (.aload_n 0, 1) := by decide +kernel
theorem dX6_passes_130 : decode cX6_passes 130 = .ok (.getfield 38, 3) := by decide +kernel
theorem dX6_passes_133 : decode cX6_passes 133 = .ok (.sipush 480, 3) := by decide +kernel
theorem dX6_passes_136 : decode cX6_passes 136 = .ok (.iload 4, 2) := by decide +kernel
theorem dX6_passes_138 : decode cX6_passes 138 = .ok (.imul, 1) := by decide +kernel
theorem dX6_passes_139 : decode cX6_passes 139 = .ok (.iconst 4, 1) := by decide +kernel
theorem dX6_passes_140 : decode cX6_passes 140 = .ok (.iload_n 2, 1) := by decide +kernel
theorem dX6_passes_141 : decode cX6_passes 141 = .ok (.imul, 1) := by decide +kernel
theorem dX6_passes_142 : decode cX6_passes 142 = .ok (.iadd, 1) := by decide +kernel
theorem dX6_passes_143 : decode cX6_passes 143 = .ok (.iload 5, 2) := by decide +kernel
theorem dX6_passes_145 : decode cX6_passes 145 = .ok (.iadd, 1) := by decide +kernel
theorem dX6_passes_146 : decode cX6_passes 146 = .ok (.iconst 0, 1) := by decide +kernel
theorem dX6_passes_147 : decode cX6_passes 147 = .ok (.iastore, 1) := by decide +kernel
theorem dX6_passes_148 : decode cX6_passes 148 = .ok (.iinc 5 1, 3) := by decide +kernel
theorem dX6_passes_151 : decode cX6_passes 151 = .ok (.goto (-38), 3) := by decide +kernel
theorem dX6_passes_154 : decode cX6_passes 154 = .ok (.iinc 4 1, 3) := by decide +kernel
theorem dX6_passes_157 : decode cX6_passes 157 = .ok (.goto (-61), 3) := by decide +kernel
theorem dX6_passes_160 : decode cX6_passes 160 = .ok (.iinc 2 1, 3) := by decide +kernel
theorem dX6_passes_163 : decode cX6_passes 163 = .ok (.goto (-145), 3) := by decide +kernel
theorem dX6_passes_166 : decode cX6_passes 166 = .ok (.iconst 1, 1) := by decide +kernel
theorem dX6_passes_167 : decode cX6_passes 167 = .ok (.istore_n 2, 1) := by decide +kernel
theorem dX6_passes_168 : decode cX6_passes 168 = .ok (.iload_n 2, 1) := by decide +kernel
theorem dX6_passes_169 : decode cX6_passes 169 = .ok (.iconst 4, 1) := by decide +kernel
theorem dX6_passes_170 : decode cX6_passes 170 = .ok (.if_icmp .ge 14, 3) := by decide +kernel
theorem dX6_passes_173 : decode cX6_passes 173 = .ok (.aload_n 0, 1) := by decide +kernel
theorem dX6_passes_174 : decode cX6_passes 174 = .ok (.iload_n 2, 1) := by decide +kernel
theorem dX6_passes_175 : decode cX6_passes 175 = .ok (.invokevirtual 184, 3) := by decide +kernel
theorem dX6_passes_178 : decode cX6_passes 178 = .ok (.iinc 2 1, 3) := by decide +kernel
theorem dX6_passes_181 : decode cX6_passes 181 = .ok (.goto (-13), 3) := by decide +kernel
theorem dX6_passes_184 : decode cX6_passes 184 = .ok (.iconst 1, 1) := by decide +kernel
theorem dX6_passes_185 : decode cX6_passes 185 = .ok (.ireturn, 1) := by decide +kernel
theorem dX6_given_0 : decode cX6_given 0 = .ok (.iload_n 1, 1) := by decide +kernel
theorem dX6_given_1 : decode cX6_given 1 = .ok (.ifCond .ge 7, 3) := by decide +kernel
theorem dX6_given_4 : decode cX6_given 4 = .ok (.iconst 0, 1) := by decide +kernel
theorem dX6_given_5 : decode cX6_given 5 = .ok (.goto 19, 3) := by decide +kernel
theorem dX6_given_8 : decode cX6_given 8 = .ok (.aload_n 0, 1) := by decide +kernel
theorem dX6_given_9 : decode cX6_given 9 = .ok (.getfield 38, 3) := by decide +kernel
theorem dX6_given_12 : decode cX6_given 12 = .ok (.sipush 480, 3) := by decide +kernel
theorem dX6_given_15 : decode cX6_given 15 = .ok (.iload_n 1, 1) := by decide +kernel
theorem dX6_given_16 : decode cX6_given 16 = .ok (.imul, 1) := by decide +kernel
theorem dX6_given_17 : decode cX6_given 17 = .ok (.iconst 4, 1) := by decide +kernel
theorem dX6_given_18 : decode cX6_given 18 = .ok (.iload_n 2, 1) := by decide +kernel
theorem dX6_given_19 : decode cX6_given 19 = .ok (.imul, 1) := by decide +kernel
theorem dX6_given_20 : decode cX6_given 20 = .ok (.iadd, 1) := by decide +kernel
theorem dX6_given_21 : decode cX6_given 21 = .ok (.iload_n 3, 1) := by decide +kernel
theorem dX6_given_22 : decode cX6_given 22 = .ok (.iadd, 1) := by decide +kernel
theorem dX6_given_23 : decode cX6_given 23 = .ok (.iaload, 1) := by decide +kernel
theorem dX6_given_24 : decode cX6_given 24 = .ok (.ireturn, 1) := by decide +kernel
theorem dX6_isMinute_0 : decode cX6_isMinute 0 = .ok (.iload_n 1, 1) := by decide +kernel
theorem dX6_isMinute_1 : decode cX6_isMinute 1 = .ok (.i2l, 1) := by decide +kernel
theorem dX6_isMinute_2 : decode cX6_isMinute 2 = .ok (.lconst 0, 1) := by decide +kernel
theorem dX6_isMinute_3 : decode cX6_isMinute 3 = .ok (.aload_n 0, 1) := by decide +kernel
theorem dX6_isMinute_4 : decode cX6_isMinute 4 = .ok (.getfield 150, 3) := by decide +kernel
theorem dX6_isMinute_7 : decode cX6_isMinute 7 = .ok (.iconst 1, 1) := by decide +kernel
theorem dX6_isMinute_8 : decode cX6_isMinute 8 = .ok (.isub, 1) := by decide +kernel
theorem dX6_isMinute_9 : decode cX6_isMinute 9 = .ok (.i2l, 1) := by decide +kernel
theorem dX6_isMinute_10 : decode cX6_isMinute 10 = .ok (.invokestatic 100, 3) := by decide +kernel
theorem dX6_isMinute_13 : decode cX6_isMinute 13 = .ok (.ireturn, 1) := by decide +kernel
theorem dX6_warm_0 : decode cX6_warm 0 = .ok (.aload_n 0, 1) := by decide +kernel
theorem dX6_warm_1 : decode cX6_warm 1 = .ok (.aload_n 0, 1) := by decide +kernel
theorem dX6_warm_2 : decode cX6_warm 2 = .ok (.getfield 7, 3) := by decide +kernel
theorem dX6_warm_5 : decode cX6_warm 5 = .ok (.iconst 4, 1) := by decide +kernel
theorem dX6_warm_6 : decode cX6_warm 6 = .ok (.iaload, 1) := by decide +kernel
theorem dX6_warm_7 : decode cX6_warm 7 = .ok (.invokevirtual 187, 3) := by decide +kernel
theorem dX6_warm_10 : decode cX6_warm 10 = .ok (.ifCond .ne 8, 3) := by decide +kernel
theorem dX6_warm_13 : decode cX6_warm 13 = .ok (.aload_n 0, 1) := by decide +kernel
theorem dX6_warm_14 : decode cX6_warm 14 = .ok (.invokevirtual 164, 3) := by decide +kernel
theorem dX6_warm_17 : decode cX6_warm 17 = .ok (.ireturn, 1) := by decide +kernel
theorem dX6_warm_18 : decode cX6_warm 18 = .ok (.iload_n 1, 1) := by decide +kernel
theorem dX6_warm_19 : decode cX6_warm 19 = .ok (.i2l, 1) := by decide +kernel
theorem dX6_warm_20 : decode cX6_warm 20 = .ok (.lconst 0, 1) := by decide +kernel
theorem dX6_warm_21 : decode cX6_warm 21 = .ok (.aload_n 0, 1) := by decide +kernel
theorem dX6_warm_22 : decode cX6_warm 22 = .ok (.getfield 150, 3) := by decide +kernel
theorem dX6_warm_25 : decode cX6_warm 25 = .ok (.i2l, 1) := by decide +kernel
theorem dX6_warm_26 : decode cX6_warm 26 = .ok (.invokestatic 100, 3) := by decide +kernel
theorem dX6_warm_29 : decode cX6_warm 29 = .ok (.ifCond .eq 12, 3) := by decide +kernel
theorem dX6_warm_32 : decode cX6_warm 32 = .ok (.aload_n 0, 1) := by decide +kernel
theorem dX6_warm_33 : decode cX6_warm 33 = .ok (.getfield 35, 3) := by decide +kernel
theorem dX6_warm_36 : decode cX6_warm 36 = .ok (.iload_n 1, 1) := by decide +kernel
theorem dX6_warm_37 : decode cX6_warm 37 = .ok (.iaload, 1) := by decide +kernel
theorem dX6_warm_38 : decode cX6_warm 38 = .ok (.goto 7, 3) := by decide +kernel
theorem dX6_warm_41 : decode cX6_warm 41 = .ok (.aload_n 0, 1) := by decide +kernel
theorem dX6_warm_42 : decode cX6_warm 42 = .ok (.invokevirtual 97, 3) := by decide +kernel
theorem dX6_warm_45 : decode cX6_warm 45 = .ok (.ireturn, 1) := by decide +kernel
theorem dX6_gives_0 : decode cX6_gives 0 = .ok (.aload_n 0, 1) := by decide +kernel
theorem dX6_gives_1 : decode cX6_gives 1 = .ok (.aload_n 0, 1) := by decide +kernel
theorem dX6_gives_2 : decode cX6_gives 2 = .ok (.getfield 7, 3) := by decide +kernel
theorem dX6_gives_5 : decode cX6_gives 5 = .ok (.iconst 4, 1) := by decide +kernel
theorem dX6_gives_6 : decode cX6_gives 6 = .ok (.iaload, 1) := by decide +kernel
theorem dX6_gives_7 : decode cX6_gives 7 = .ok (.invokevirtual 187, 3) := by decide +kernel
theorem dX6_gives_10 : decode cX6_gives 10 = .ok (.ifCond .ne 8, 3) := by decide +kernel
theorem dX6_gives_13 : decode cX6_gives 13 = .ok (.aload_n 0, 1) := by decide +kernel
theorem dX6_gives_14 : decode cX6_gives 14 = .ok (.invokevirtual 164, 3) := by decide +kernel
theorem dX6_gives_17 : decode cX6_gives 17 = .ok (.ireturn, 1) := by decide +kernel
theorem dX6_gives_18 : decode cX6_gives 18 = .ok (.iload_n 1, 1) := by decide +kernel
theorem dX6_gives_19 : decode cX6_gives 19 = .ok (.i2l, 1) := by decide +kernel
theorem dX6_gives_20 : decode cX6_gives 20 = .ok (.lconst 0, 1) := by decide +kernel
theorem dX6_gives_21 : decode cX6_gives 21 = .ok (.ldc2_w 173, 3) := by decide +kernel
theorem dX6_gives_24 : decode cX6_gives 24 = .ok (.invokestatic 100, 3) := by decide +kernel
theorem dX6_gives_27 : decode cX6_gives 27 = .ok (.ifCond .eq 40, 3) := by decide +kernel
theorem dX6_gives_30 : decode cX6_gives 30 = .ok (.iload_n 2, 1) := by decide +kernel
theorem dX6_gives_31 : decode cX6_gives 31 = .ok (.i2l, 1) := by decide +kernel
theorem dX6_gives_32 : decode cX6_gives 32 = .ok (.lconst 1, 1) := by decide +kernel
theorem dX6_gives_33 : decode cX6_gives 33 = .ok (.ldc2_w 175, 3) := by decide +kernel
theorem dX6_gives_36 : decode cX6_gives 36 = .ok (.invokestatic 100, 3) := by decide +kernel
theorem dX6_gives_39 : decode cX6_gives 39 = .ok (.ifCond .eq 28, 3) := by decide +kernel
theorem dX6_gives_42 : decode cX6_gives 42 = .ok (.iload 4, 2) := by decide +kernel
theorem dX6_gives_44 : decode cX6_gives 44 = .ok (.i2l, 1) := by decide +kernel
theorem dX6_gives_45 : decode cX6_gives 45 = .ok (.lconst 0, 1) := by decide +kernel
theorem dX6_gives_46 : decode cX6_gives 46 = .ok (.ldc2_w 175, 3) := by decide +kernel
theorem dX6_gives_49 : decode cX6_gives 49 = .ok (.invokestatic 100, 3) := by decide +kernel
theorem dX6_gives_52 : decode cX6_gives 52 = .ok (.ifCond .eq 15, 3) := by decide +kernel
theorem dX6_gives_55 : decode cX6_gives 55 = .ok (.aload_n 0, 1) := by decide +kernel
theorem dX6_gives_56 : decode cX6_gives 56 = .ok (.iload_n 3, 1) := by decide +kernel
theorem dX6_gives_57 : decode cX6_gives 57 = .ok (.invokevirtual 190, 3) := by decide +kernel
theorem dX6_gives_60 : decode cX6_gives 60 = .ok (.ifCond .eq 7, 3) := by decide +kernel
theorem dX6_gives_63 : decode cX6_gives 63 = .ok (.iconst 1, 1) := by decide +kernel
theorem dX6_gives_64 : decode cX6_gives 64 = .ok (.goto 4, 3) := by decide +kernel
theorem dX6_gives_67 : decode cX6_gives 67 = .ok (.iconst 0, 1) := by decide +kernel
theorem dX6_gives_68 : decode cX6_gives 68 = .ok (.istore 5, 2) := by decide +kernel
theorem dX6_gives_70 : decode cX6_gives 70 = .ok (.iload 5, 2) := by decide +kernel
theorem dX6_gives_72 : decode cX6_gives 72 = .ok (.ifCond .eq 20, 3) := by decide +kernel
theorem dX6_gives_75 : decode cX6_gives 75 = .ok (.aload_n 0, 1) := by decide +kernel
theorem dX6_gives_76 : decode cX6_gives 76 = .ok (.iconst 3, 1) := by decide +kernel
theorem dX6_gives_77 : decode cX6_gives 77 = .ok (.iload_n 1, 1) := by decide +kernel
theorem dX6_gives_78 : decode cX6_gives 78 = .ok (.imul, 1) := by decide +kernel
theorem dX6_gives_79 : decode cX6_gives 79 = .ok (.iload_n 2, 1) := by decide +kernel
theorem dX6_gives_80 : decode cX6_gives 80 = .ok (.iadd, 1) := by decide +kernel
theorem dX6_gives_81 : decode cX6_gives 81 = .ok (.iconst 1, 1) := by decide +kernel
theorem dX6_gives_82 : decode cX6_gives 82 = .ok (.isub, 1) := by decide +kernel
theorem dX6_gives_83 : decode cX6_gives 83 = .ok (.iload_n 3, 1) := by decide +kernel
theorem dX6_gives_84 : decode cX6_gives 84 = .ok (.iload 4, 2) := by decide +kernel
theorem dX6_gives_86 : decode cX6_gives 86 = .ok (.invokevirtual 193, 3) := by decide +kernel
theorem dX6_gives_89 : decode cX6_gives 89 = .ok (.goto 7, 3) := by decide +kernel
theorem dX6_gives_92 : decode cX6_gives 92 = .ok (.aload_n 0, 1) := by decide +kernel
theorem dX6_gives_93 : decode cX6_gives 93 = .ok (.invokevirtual 97, 3) := by decide +kernel
theorem dX6_gives_96 : decode cX6_gives 96 = .ok (.ireturn, 1) := by decide +kernel
theorem dX6_smokeOf_0 : decode cX6_smokeOf 0 = .ok (.iconst 0, 1) := by decide +kernel
theorem dX6_smokeOf_1 : decode cX6_smokeOf 1 = .ok (.istore 4, 2) := by decide +kernel
theorem dX6_smokeOf_3 : decode cX6_smokeOf 3 = .ok (.iconst 0, 1) := by decide +kernel
theorem dX6_smokeOf_4 : decode cX6_smokeOf 4 = .ok (.istore 5, 2) := by decide +kernel
theorem dX6_smokeOf_6 : decode cX6_smokeOf 6 = .ok (.iload 5, 2) := by decide +kernel
theorem dX6_smokeOf_8 : decode cX6_smokeOf 8 = .ok (.iconst 4, 1) := by decide +kernel
theorem dX6_smokeOf_9 : decode cX6_smokeOf 9 = .ok (.if_icmp .ge 40, 3) := by decide +kernel
theorem dX6_smokeOf_12 : decode cX6_smokeOf 12 = .ok (.iload 4, 2) := by decide +kernel
theorem dX6_smokeOf_14 : decode cX6_smokeOf 14 = .ok (.iload 5, 2) := by decide +kernel
theorem dX6_smokeOf_16 : decode cX6_smokeOf 16 = .ok (.iload_n 3, 1) := by decide +kernel
theorem dX6_smokeOf_17 : decode cX6_smokeOf 17 = .ok (.if_icmp .ne 7, 3) := by decide +kernel
theorem dX6_smokeOf_20 : decode cX6_smokeOf 20 = .ok (.iconst 0, 1) := by decide +kernel
theorem dX6_smokeOf_21 : decode cX6_smokeOf 21 = .ok (.goto 19, 3) := by decide +kernel
theorem dX6_smokeOf_24 : decode cX6_smokeOf 24 = .ok (.aload_n 0, 1) := by decide +kernel
theorem dX6_smokeOf_25 : decode cX6_smokeOf 25 = .ok (.aload_n 0, 1) := by decide +kernel
theorem dX6_smokeOf_26 : decode cX6_smokeOf 26 = .ok (.getfield 7, 3) := by decide +kernel
theorem dX6_smokeOf_29 : decode cX6_smokeOf 29 = .ok (.bipush 15, 2) := by decide +kernel
theorem dX6_smokeOf_31 : decode cX6_smokeOf 31 = .ok (.iload 5, 2) := by decide +kernel
theorem dX6_smokeOf_33 : decode cX6_smokeOf 33 = .ok (.iadd, 1) := by decide +kernel
theorem dX6_smokeOf_34 : decode cX6_smokeOf 34 = .ok (.iaload, 1) := by decide +kernel
theorem dX6_smokeOf_35 : decode cX6_smokeOf 35 = .ok (.iload_n 1, 1) := by decide +kernel
theorem dX6_smokeOf_36 : decode cX6_smokeOf 36 = .ok (.iload_n 2, 1) := by decide +kernel
theorem dX6_smokeOf_37 : decode cX6_smokeOf 37 = .ok (.invokevirtual 193, 3) := by decide +kernel
theorem dX6_smokeOf_40 : decode cX6_smokeOf 40 = .ok (.iadd, 1) := by decide +kernel
theorem dX6_smokeOf_41 : decode cX6_smokeOf 41 = .ok (.istore 4, 2) := by decide +kernel
theorem dX6_smokeOf_43 : decode cX6_smokeOf 43 = .ok (.iinc 5 1, 3) := by decide +kernel
theorem dX6_smokeOf_46 : decode cX6_smokeOf 46 = .ok (.goto (-40), 3) := by decide +kernel
theorem dX6_smokeOf_49 : decode cX6_smokeOf 49 = .ok (.iload 4, 2) := by decide +kernel
theorem dX6_smokeOf_51 : decode cX6_smokeOf 51 = .ok (.ireturn, 1) := by decide +kernel
theorem dX6_smoke_0 : decode cX6_smoke 0 = .ok (.aload_n 0, 1) := by decide +kernel
theorem dX6_smoke_1 : decode cX6_smoke 1 = .ok (.aload_n 0, 1) := by decide +kernel
theorem dX6_smoke_2 : decode cX6_smoke 2 = .ok (.getfield 7, 3) := by decide +kernel
theorem dX6_smoke_5 : decode cX6_smoke 5 = .ok (.iconst 4, 1) := by decide +kernel
theorem dX6_smoke_6 : decode cX6_smoke 6 = .ok (.iaload, 1) := by decide +kernel
theorem dX6_smoke_7 : decode cX6_smoke 7 = .ok (.invokevirtual 187, 3) := by decide +kernel
theorem dX6_smoke_10 : decode cX6_smoke 10 = .ok (.ifCond .ne 8, 3) := by decide +kernel
theorem dX6_smoke_13 : decode cX6_smoke 13 = .ok (.aload_n 0, 1) := by decide +kernel
theorem dX6_smoke_14 : decode cX6_smoke 14 = .ok (.invokevirtual 164, 3) := by decide +kernel
theorem dX6_smoke_17 : decode cX6_smoke 17 = .ok (.ireturn, 1) := by decide +kernel
theorem dX6_smoke_18 : decode cX6_smoke 18 = .ok (.iload_n 2, 1) := by decide +kernel
theorem dX6_smoke_19 : decode cX6_smoke 19 = .ok (.i2l, 1) := by decide +kernel
theorem dX6_smoke_20 : decode cX6_smoke 20 = .ok (.lconst 0, 1) := by decide +kernel
theorem dX6_smoke_21 : decode cX6_smoke 21 = .ok (.ldc2_w 175, 3) := by decide +kernel
theorem dX6_smoke_24 : decode cX6_smoke 24 = .ok (.invokestatic 100, 3) := by decide +kernel
theorem dX6_smoke_27 : decode cX6_smoke 27 = .ok (.ifCond .eq 35, 3) := by decide +kernel
theorem dX6_smoke_30 : decode cX6_smoke 30 = .ok (.iload_n 3, 1) := by decide +kernel
theorem dX6_smoke_31 : decode cX6_smoke 31 = .ok (.i2l, 1) := by decide +kernel
theorem dX6_smoke_32 : decode cX6_smoke 32 = .ok (.ldc2_w 197, 3) := by decide +kernel
theorem dX6_smoke_35 : decode cX6_smoke 35 = .ok (.ldc2_w 175, 3) := by decide +kernel
theorem dX6_smoke_38 : decode cX6_smoke 38 = .ok (.invokestatic 100, 3) := by decide +kernel
theorem dX6_smoke_41 : decode cX6_smoke 41 = .ok (.ifCond .eq 21, 3) := by decide +kernel
theorem dX6_smoke_44 : decode cX6_smoke 44 = .ok (.aload_n 0, 1) := by decide +kernel
theorem dX6_smoke_45 : decode cX6_smoke 45 = .ok (.iload_n 1, 1) := by decide +kernel
theorem dX6_smoke_46 : decode cX6_smoke 46 = .ok (.invokevirtual 190, 3) := by decide +kernel
theorem dX6_smoke_49 : decode cX6_smoke 49 = .ok (.ifCond .eq 13, 3) := by decide +kernel
theorem dX6_smoke_52 : decode cX6_smoke 52 = .ok (.aload_n 0, 1) := by decide +kernel
theorem dX6_smoke_53 : decode cX6_smoke 53 = .ok (.iload_n 1, 1) := by decide +kernel
theorem dX6_smoke_54 : decode cX6_smoke 54 = .ok (.iload_n 2, 1) := by decide +kernel
theorem dX6_smoke_55 : decode cX6_smoke 55 = .ok (.iload_n 3, 1) := by decide +kernel
theorem dX6_smoke_56 : decode cX6_smoke 56 = .ok (.invokevirtual 199, 3) := by decide +kernel
theorem dX6_smoke_59 : decode cX6_smoke 59 = .ok (.goto 7, 3) := by decide +kernel
theorem dX6_smoke_62 : decode cX6_smoke 62 = .ok (.aload_n 0, 1) := by decide +kernel
theorem dX6_smoke_63 : decode cX6_smoke 63 = .ok (.invokevirtual 97, 3) := by decide +kernel
theorem dX6_smoke_66 : decode cX6_smoke 66 = .ok (.ireturn, 1) := by decide +kernel
theorem dX6_goes_0 : decode cX6_goes 0 = .ok (.iload_n 1, 1) := by decide +kernel
theorem dX6_goes_1 : decode cX6_goes 1 = .ok (.i2l, 1) := by decide +kernel
theorem dX6_goes_2 : decode cX6_goes 2 = .ok (.lconst 0, 1) := by decide +kernel
theorem dX6_goes_3 : decode cX6_goes 3 = .ok (.lconst 1, 1) := by decide +kernel
theorem dX6_goes_4 : decode cX6_goes 4 = .ok (.invokestatic 100, 3) := by decide +kernel
theorem dX6_goes_7 : decode cX6_goes 7 = .ok (.ifCond .ne 8, 3) := by decide +kernel
theorem dX6_goes_10 : decode cX6_goes 10 = .ok (.aload_n 0, 1) := by decide +kernel
theorem dX6_goes_11 : decode cX6_goes 11 = .ok (.invokevirtual 97, 3) := by decide +kernel
theorem dX6_goes_14 : decode cX6_goes 14 = .ok (.ireturn, 1) := by decide +kernel
theorem dX6_goes_15 : decode cX6_goes 15 = .ok (.aload_n 0, 1) := by decide +kernel
theorem dX6_goes_16 : decode cX6_goes 16 = .ok (.aload_n 0, 1) := by decide +kernel
theorem dX6_goes_17 : decode cX6_goes 17 = .ok (.getfield 7, 3) := by decide +kernel
theorem dX6_goes_20 : decode cX6_goes 20 = .ok (.iconst 4, 1) := by decide +kernel
theorem dX6_goes_21 : decode cX6_goes 21 = .ok (.iaload, 1) := by decide +kernel
theorem dX6_goes_22 : decode cX6_goes 22 = .ok (.invokevirtual 187, 3) := by decide +kernel
theorem dX6_goes_25 : decode cX6_goes 25 = .ok (.ifCond .ne 8, 3) := by decide +kernel
theorem dX6_goes_28 : decode cX6_goes 28 = .ok (.aload_n 0, 1) := by decide +kernel
theorem dX6_goes_29 : decode cX6_goes 29 = .ok (.invokevirtual 164, 3) := by decide +kernel
theorem dX6_goes_32 : decode cX6_goes 32 = .ok (.ireturn, 1) := by decide +kernel
theorem dX6_goes_33 : decode cX6_goes 33 = .ok (.iconst 0, 1) := by decide +kernel
theorem dX6_goes_34 : decode cX6_goes 34 = .ok (.istore_n 2, 1) := by decide +kernel
theorem dX6_goes_35 : decode cX6_goes 35 = .ok (.iconst 0, 1) := by decide +kernel
theorem dX6_goes_36 : decode cX6_goes 36 = .ok (.istore_n 3, 1) := by decide +kernel
theorem dX6_goes_37 : decode cX6_goes 37 = .ok (.iload_n 3, 1) := by decide +kernel
theorem dX6_goes_38 : decode cX6_goes 38 = .ok (.aload_n 0, 1) := by decide +kernel
theorem dX6_goes_39 : decode cX6_goes 39 = .ok (.getfield 150, 3) := by decide +kernel
theorem dX6_goes_42 : decode cX6_goes 42 = .ok (.if_icmp .ge 19, 3) := by decide +kernel
theorem dX6_goes_45 : decode cX6_goes 45 = .ok (.iload_n 2, 1) := by decide +kernel
theorem dX6_goes_46 : decode cX6_goes 46 = .ok (.aload_n 0, 1) := by decide +kernel
theorem dX6_goes_47 : decode cX6_goes 47 = .ok (.iload_n 3, 1) := by decide +kernel
theorem dX6_goes_48 : decode cX6_goes 48 = .ok (.iload_n 1, 1) := by decide +kernel
theorem dX6_goes_49 : decode cX6_goes 49 = .ok (.iconst (-1), 1) := by decide +kernel
theorem dX6_goes_50 : decode cX6_goes 50 = .ok (.invokevirtual 199, 3) := by decide +kernel
theorem dX6_goes_53 : decode cX6_goes 53 = .ok (.iadd, 1) := by decide +kernel
theorem dX6_goes_54 : decode cX6_goes 54 = .ok (.istore_n 2, 1) := by decide +kernel
theorem dX6_goes_55 : decode cX6_goes 55 = .ok (.iinc 3 1, 3) := by decide +kernel
theorem dX6_goes_58 : decode cX6_goes 58 = .ok (.goto (-21), 3) := by decide +kernel
theorem dX6_goes_61 : decode cX6_goes 61 = .ok (.iload_n 2, 1) := by decide +kernel
theorem dX6_goes_62 : decode cX6_goes 62 = .ok (.ireturn, 1) := by decide +kernel
theorem dX6_look_0 : decode cX6_look 0 = .ok (.iload_n 1, 1) := by decide +kernel
theorem dX6_look_1 : decode cX6_look 1 = .ok (.i2l, 1) := by decide +kernel
theorem dX6_look_2 : decode cX6_look 2 = .ok (.lconst 0, 1) := by decide +kernel
theorem dX6_look_3 : decode cX6_look 3 = .ok (.ldc2_w 202, 3) := by decide +kernel
theorem dX6_look_6 : decode cX6_look 6 = .ok (.invokestatic 100, 3) := by decide +kernel
theorem dX6_look_9 : decode cX6_look 9 = .ok (.ifCond .eq 42, 3) := by decide +kernel
theorem dX6_look_12 : decode cX6_look 12 = .ok (.iload_n 2, 1) := by decide +kernel
theorem dX6_look_13 : decode cX6_look 13 = .ok (.i2l, 1) := by decide +kernel
theorem dX6_look_14 : decode cX6_look 14 = .ok (.lconst 0, 1) := by decide +kernel
theorem dX6_look_15 : decode cX6_look 15 = .ok (.ldc2_w 175, 3) := by decide +kernel
theorem dX6_look_18 : decode cX6_look 18 = .ok (.invokestatic 100, 3) := by decide +kernel
theorem dX6_look_21 : decode cX6_look 21 = .ok (.ifCond .eq 30, 3) := by decide +kernel
theorem dX6_look_24 : decode cX6_look 24 = .ok (.iload_n 3, 1) := by decide +kernel
theorem dX6_look_25 : decode cX6_look 25 = .ok (.i2l, 1) := by decide +kernel
theorem dX6_look_26 : decode cX6_look 26 = .ok (.ldc2_w 197, 3) := by decide +kernel
theorem dX6_look_29 : decode cX6_look 29 = .ok (.ldc2_w 175, 3) := by decide +kernel
theorem dX6_look_32 : decode cX6_look 32 = .ok (.invokestatic 100, 3) := by decide +kernel
theorem dX6_look_35 : decode cX6_look 35 = .ok (.ifCond .eq 16, 3) := by decide +kernel
theorem dX6_look_38 : decode cX6_look 38 = .ok (.iload 4, 2) := by decide +kernel
theorem dX6_look_40 : decode cX6_look 40 = .ok (.i2l, 1) := by decide +kernel
theorem dX6_look_41 : decode cX6_look 41 = .ok (.lconst 0, 1) := by decide +kernel
theorem dX6_look_42 : decode cX6_look 42 = .ok (.ldc2_w 204, 3) := by decide +kernel
theorem dX6_look_45 : decode cX6_look 45 = .ok (.invokestatic 100, 3) := by decide +kernel
theorem dX6_look_48 : decode cX6_look 48 = .ok (.ifCond .ne 8, 3) := by decide +kernel
theorem dX6_look_51 : decode cX6_look 51 = .ok (.aload_n 0, 1) := by decide +kernel
theorem dX6_look_52 : decode cX6_look 52 = .ok (.invokevirtual 97, 3) := by decide +kernel
theorem dX6_look_55 : decode cX6_look 55 = .ok (.ireturn, 1) := by decide +kernel
theorem dX6_look_56 : decode cX6_look 56 = .ok (.aload_n 0, 1) := by decide +kernel
theorem dX6_look_57 : decode cX6_look 57 = .ok (.getfield 7, 3) := by decide +kernel
theorem dX6_look_60 : decode cX6_look 60 = .ok (.iconst 1, 1) := by decide +kernel
theorem dX6_look_61 : decode cX6_look 61 = .ok (.iaload, 1) := by decide +kernel
theorem dX6_look_62 : decode cX6_look 62 = .ok (.bipush 8, 2) := by decide +kernel
theorem dX6_look_64 : decode cX6_look 64 = .ok (.if_icmp .ne 8, 3) := by decide +kernel
theorem dX6_look_67 : decode cX6_look 67 = .ok (.aload_n 0, 1) := by decide +kernel
theorem dX6_look_68 : decode cX6_look 68 = .ok (.invokevirtual 109, 3) := by decide +kernel
theorem dX6_look_71 : decode cX6_look 71 = .ok (.ireturn, 1) := by decide +kernel
theorem dX6_look_72 : decode cX6_look 72 = .ok (.bipush 20, 2) := by decide +kernel
theorem dX6_look_74 : decode cX6_look 74 = .ok (.iconst 4, 1) := by decide +kernel
theorem dX6_look_75 : decode cX6_look 75 = .ok (.aload_n 0, 1) := by decide +kernel
theorem dX6_look_76 : decode cX6_look 76 = .ok (.getfield 7, 3) := by decide +kernel
theorem dX6_look_79 : decode cX6_look 79 = .ok (.iconst 1, 1) := by decide +kernel
theorem dX6_look_80 : decode cX6_look 80 = .ok (.iaload, 1) := by decide +kernel
theorem dX6_look_81 : decode cX6_look 81 = .ok (.imul, 1) := by decide +kernel
theorem dX6_look_82 : decode cX6_look 82 = .ok (.iadd, 1) := by decide +kernel
theorem dX6_look_83 : decode cX6_look 83 = .ok (.istore 5, 2) := by decide +kernel
theorem dX6_look_85 : decode cX6_look 85 = .ok (.aload_n 0, 1) := by decide +kernel
theorem dX6_look_86 : decode cX6_look 86 = .ok (.getfield 7, 3) := by decide +kernel
theorem dX6_look_89 : decode cX6_look 89 = .ok (.iload 5, 2) := by decide +kernel
theorem dX6_look_91 : decode cX6_look 91 = .ok (.iload_n 1, 1) := by decide +kernel
theorem dX6_look_92 : decode cX6_look 92 = .ok (.iastore, 1) := by decide +kernel
theorem dX6_look_93 : decode cX6_look 93 = .ok (.aload_n 0, 1) := by decide +kernel
theorem dX6_look_94 : decode cX6_look 94 = .ok (.getfield 7, 3) := by decide +kernel
theorem dX6_look_97 : decode cX6_look 97 = .ok (.iload 5, 2) := by decide +kernel
theorem dX6_look_99 : decode cX6_look 99 = .ok (.iconst 1, 1) := by decide +kernel
theorem dX6_look_100 : decode cX6_look 100 = .ok (.iadd, 1) := by decide +kernel
theorem dX6_look_101 : decode cX6_look 101 = .ok (.iload_n 2, 1) := by decide +kernel
theorem dX6_look_102 : decode cX6_look 102 = .ok (.iastore, 1) := by decide +kernel
theorem dX6_look_103 : decode cX6_look 103 = .ok (.aload_n 0, 1) := by decide +kernel
theorem dX6_look_104 : decode cX6_look 104 = .ok (.getfield 7, 3) := by decide +kernel
theorem dX6_look_107 : decode cX6_look 107 = .ok (.iload 5, 2) := by decide +kernel
theorem dX6_look_109 : decode cX6_look 109 = .ok (.iconst 2, 1) := by decide +kernel
theorem dX6_look_110 : decode cX6_look 110 = .ok (.iadd, 1) := by decide +kernel
theorem dX6_look_111 : decode cX6_look 111 = .ok (.iload_n 3, 1) := by decide +kernel
theorem dX6_look_112 : decode cX6_look 112 = .ok (.iastore, 1) := by decide +kernel
theorem dX6_look_113 : decode cX6_look 113 = .ok (.aload_n 0, 1) := by decide +kernel
theorem dX6_look_114 : decode cX6_look 114 = .ok (.getfield 7, 3) := by decide +kernel
theorem dX6_look_117 : decode cX6_look 117 = .ok (.iload 5, 2) := by decide +kernel
theorem dX6_look_119 : decode cX6_look 119 = .ok (.iconst 3, 1) := by decide +kernel
theorem dX6_look_120 : decode cX6_look 120 = .ok (.iadd, 1) := by decide +kernel
theorem dX6_look_121 : decode cX6_look 121 = .ok (.iload 4, 2) := by decide +kernel
theorem dX6_look_123 : decode cX6_look 123 = .ok (.iastore, 1) := by decide +kernel
theorem dX6_look_124 : decode cX6_look 124 = .ok (.aload_n 0, 1) := by decide +kernel
theorem dX6_look_125 : decode cX6_look 125 = .ok (.getfield 7, 3) := by decide +kernel
theorem dX6_look_128 : decode cX6_look 128 = .ok (.iconst 1, 1) := by decide +kernel
theorem dX6_look_129 : decode cX6_look 129 = .ok (.dup2, 1) := by decide +kernel
theorem dX6_look_130 : decode cX6_look 130 = .ok (.iaload, 1) := by decide +kernel
theorem dX6_look_131 : decode cX6_look 131 = .ok (.iconst 1, 1) := by decide +kernel
theorem dX6_look_132 : decode cX6_look 132 = .ok (.iadd, 1) := by decide +kernel
theorem dX6_look_133 : decode cX6_look 133 = .ok (.iastore, 1) := by decide +kernel
theorem dX6_look_134 : decode cX6_look 134 = .ok (.aload_n 0, 1) := by decide +kernel
theorem dX6_look_135 : decode cX6_look 135 = .ok (.getfield 7, 3) := by decide +kernel
theorem dX6_look_138 : decode cX6_look 138 = .ok (.iconst 1, 1) := by decide +kernel
theorem dX6_look_139 : decode cX6_look 139 = .ok (.iaload, 1) := by decide +kernel
theorem dX6_look_140 : decode cX6_look 140 = .ok (.iconst 1, 1) := by decide +kernel
theorem dX6_look_141 : decode cX6_look 141 = .ok (.isub, 1) := by decide +kernel
theorem dX6_look_142 : decode cX6_look 142 = .ok (.ireturn, 1) := by decide +kernel
theorem dX6_forget_0 : decode cX6_forget 0 = .ok (.aload_n 0, 1) := by decide +kernel
theorem dX6_forget_1 : decode cX6_forget 1 = .ok (.iconst 1, 1) := by decide +kernel
theorem dX6_forget_2 : decode cX6_forget 2 = .ok (.iconst 0, 1) := by decide +kernel
theorem dX6_forget_3 : decode cX6_forget 3 = .ok (.invokevirtual 114, 3) := by decide +kernel
theorem dX6_forget_6 : decode cX6_forget 6 = .ok (.ireturn, 1) := by decide +kernel
theorem dX6_opens_0 : decode cX6_opens 0 = .ok (.aload_n 0, 1) := by decide +kernel
theorem dX6_opens_1 : decode cX6_opens 1 = .ok (.iconst (-1), 1) := by decide +kernel
theorem dX6_opens_2 : decode cX6_opens 2 = .ok (.putfield 206, 3) := by decide +kernel
theorem dX6_opens_5 : decode cX6_opens 5 = .ok (.aload_n 0, 1) := by decide +kernel
theorem dX6_opens_6 : decode cX6_opens 6 = .ok (.iconst (-1), 1) := by decide +kernel
theorem dX6_opens_7 : decode cX6_opens 7 = .ok (.putfield 209, 3) := by decide +kernel
theorem dX6_opens_10 : decode cX6_opens 10 = .ok (.aload_n 0, 1) := by decide +kernel
theorem dX6_opens_11 : decode cX6_opens 11 = .ok (.iconst (-1), 1) := by decide +kernel
theorem dX6_opens_12 : decode cX6_opens 12 = .ok (.putfield 212, 3) := by decide +kernel
theorem dX6_opens_15 : decode cX6_opens 15 = .ok (.aload_n 0, 1) := by decide +kernel
theorem dX6_opens_16 : decode cX6_opens 16 = .ok (.iconst (-1), 1) := by decide +kernel
theorem dX6_opens_17 : decode cX6_opens 17 = .ok (.putfield 215, 3) := by decide +kernel
theorem dX6_opens_20 : decode cX6_opens 20 = .ok (.iload_n 1, 1) := by decide +kernel
theorem dX6_opens_21 : decode cX6_opens 21 = .ok (.i2l, 1) := by decide +kernel
theorem dX6_opens_22 : decode cX6_opens 22 = .ok (.lconst 1, 1) := by decide +kernel
theorem dX6_opens_23 : decode cX6_opens 23 = .ok (.ldc2_w 218, 3) := by decide +kernel
theorem dX6_opens_26 : decode cX6_opens 26 = .ok (.invokestatic 100, 3) := by decide +kernel
theorem dX6_opens_29 : decode cX6_opens 29 = .ok (.ifCond .eq 23, 3) := by decide +kernel
theorem dX6_opens_32 : decode cX6_opens 32 = .ok (.aload_n 0, 1) := by decide +kernel
theorem dX6_opens_33 : decode cX6_opens 33 = .ok (.iload_n 1, 1) := by decide +kernel
theorem dX6_opens_34 : decode cX6_opens 34 = .ok (.iconst 1, 1) := by decide +kernel
theorem dX6_opens_35 : decode cX6_opens 35 = .ok (.isub, 1) := by decide +kernel
theorem dX6_opens_36 : decode cX6_opens 36 = .ok (.bipush 21, 2) := by decide +kernel
theorem dX6_opens_38 : decode cX6_opens 38 = .ok (.idiv, 1) := by decide +kernel
theorem dX6_opens_39 : decode cX6_opens 39 = .ok (.putfield 206, 3) := by decide +kernel
theorem dX6_opens_42 : decode cX6_opens 42 = .ok (.aload_n 0, 1) := by decide +kernel
theorem dX6_opens_43 : decode cX6_opens 43 = .ok (.iload_n 1, 1) := by decide +kernel
theorem dX6_opens_44 : decode cX6_opens 44 = .ok (.iconst 1, 1) := by decide +kernel
theorem dX6_opens_45 : decode cX6_opens 45 = .ok (.isub, 1) := by decide +kernel
theorem dX6_opens_46 : decode cX6_opens 46 = .ok (.bipush 21, 2) := by decide +kernel
theorem dX6_opens_48 : decode cX6_opens 48 = .ok (.irem, 1) := by decide +kernel
theorem dX6_opens_49 : decode cX6_opens 49 = .ok (.putfield 212, 3) := by decide +kernel
theorem dX6_opens_52 : decode cX6_opens 52 = .ok (.iload_n 1, 1) := by decide +kernel
theorem dX6_opens_53 : decode cX6_opens 53 = .ok (.bipush 84, 2) := by decide +kernel
theorem dX6_opens_55 : decode cX6_opens 55 = .ok (.if_icmp .le 88, 3) := by decide +kernel
theorem dX6_opens_58 : decode cX6_opens 58 = .ok (.iload_n 1, 1) := by decide +kernel
theorem dX6_opens_59 : decode cX6_opens 59 = .ok (.bipush 85, 2) := by decide +kernel
theorem dX6_opens_61 : decode cX6_opens 61 = .ok (.isub, 1) := by decide +kernel
theorem dX6_opens_62 : decode cX6_opens 62 = .ok (.sipush 441, 3) := by decide +kernel
theorem dX6_opens_65 : decode cX6_opens 65 = .ok (.idiv, 1) := by decide +kernel
theorem dX6_opens_66 : decode cX6_opens 66 = .ok (.istore_n 2, 1) := by decide +kernel
theorem dX6_opens_67 : decode cX6_opens 67 = .ok (.aload_n 0, 1) := by decide +kernel
theorem dX6_opens_68 : decode cX6_opens 68 = .ok (.iload_n 2, 1) := by decide +kernel
theorem dX6_opens_69 : decode cX6_opens 69 = .ok (.iconst 3, 1) := by decide +kernel
theorem dX6_opens_70 : decode cX6_opens 70 = .ok (.if_icmp .ge 7, 3) := by decide +kernel
theorem dX6_opens_73 : decode cX6_opens 73 = .ok (.iconst 0, 1) := by decide +kernel
theorem dX6_opens_74 : decode cX6_opens 74 = .ok (.goto 13, 3) := by decide +kernel
theorem dX6_opens_77 : decode cX6_opens 77 = .ok (.iload_n 2, 1) := by decide +kernel
theorem dX6_opens_78 : decode cX6_opens 78 = .ok (.iconst 5, 1) := by decide +kernel
theorem dX6_opens_79 : decode cX6_opens 79 = .ok (.if_icmp .ge 7, 3) := by decide +kernel
theorem dX6_opens_82 : decode cX6_opens 82 = .ok (.iconst 1, 1) := by decide +kernel
theorem dX6_opens_83 : decode cX6_opens 83 = .ok (.goto 4, 3) := by decide +kernel
theorem dX6_opens_86 : decode cX6_opens 86 = .ok (.iconst 2, 1) := by decide +kernel
theorem dX6_opens_87 : decode cX6_opens 87 = .ok (.putfield 206, 3) := by decide +kernel
theorem dX6_opens_90 : decode cX6_opens 90 = .ok (.aload_n 0, 1) := by decide +kernel
theorem dX6_opens_91 : decode cX6_opens 91 = .ok (.iload_n 2, 1) := by decide +kernel
theorem dX6_opens_92 : decode cX6_opens 92 = .ok (.iconst 3, 1) := by decide +kernel
theorem dX6_opens_93 : decode cX6_opens 93 = .ok (.if_icmp .ge 9, 3) := by decide +kernel
theorem dX6_opens_96 : decode cX6_opens 96 = .ok (.iload_n 2, 1) := by decide +kernel
theorem dX6_opens_97 : decode cX6_opens 97 = .ok (.iconst 1, 1) := by decide +kernel
theorem dX6_opens_98 : decode cX6_opens 98 = .ok (.iadd, 1) := by decide +kernel
theorem dX6_opens_99 : decode cX6_opens 99 = .ok (.goto 15, 3) := by decide +kernel
theorem dX6_opens_102 : decode cX6_opens 102 = .ok (.iload_n 2, 1) := by decide +kernel
theorem dX6_opens_103 : decode cX6_opens 103 = .ok (.iconst 5, 1) := by decide +kernel
theorem dX6_opens_104 : decode cX6_opens 104 = .ok (.if_icmp .ge 9, 3) := by decide +kernel
theorem dX6_opens_107 : decode cX6_opens 107 = .ok (.iload_n 2, 1) := by decide +kernel
theorem dX6_opens_108 : decode cX6_opens 108 = .ok (.iconst 1, 1) := by decide +kernel
theorem dX6_opens_109 : decode cX6_opens 109 = .ok (.isub, 1) := by decide +kernel
theorem dX6_opens_110 : decode cX6_opens 110 = .ok (.goto 4, 3) := by decide +kernel
theorem dX6_opens_113 : decode cX6_opens 113 = .ok (.iconst 3, 1) := by decide +kernel
theorem dX6_opens_114 : decode cX6_opens 114 = .ok (.putfield 209, 3) := by decide +kernel
theorem dX6_opens_117 : decode cX6_opens 117 = .ok (.aload_n 0, 1) := by decide +kernel
theorem dX6_opens_118 : decode cX6_opens 118 = .ok (.iload_n 1, 1) := by decide +kernel
theorem dX6_opens_119 : decode cX6_opens 119 = .ok (.bipush 85, 2) := by decide +kernel
theorem dX6_opens_121 : decode cX6_opens 121 = .ok (.isub, 1) := by decide +kernel
theorem dX6_opens_122 : decode cX6_opens 122 = .ok (.sipush 441, 3) := by decide +kernel
theorem dX6_opens_125 : decode cX6_opens 125 = .ok (.irem, 1) := by decide +kernel
theorem dX6_opens_126 : decode cX6_opens 126 = .ok (.bipush 21, 2) := by decide +kernel
theorem dX6_opens_128 : decode cX6_opens 128 = .ok (.idiv, 1) := by decide +kernel
theorem dX6_opens_129 : decode cX6_opens 129 = .ok (.putfield 212, 3) := by decide +kernel
theorem dX6_opens_132 : decode cX6_opens 132 = .ok (.aload_n 0, 1) := by decide +kernel
theorem dX6_opens_133 : decode cX6_opens 133 = .ok (.iload_n 1, 1) := by decide +kernel
theorem dX6_opens_134 : decode cX6_opens 134 = .ok (.bipush 85, 2) := by decide +kernel
theorem dX6_opens_136 : decode cX6_opens 136 = .ok (.isub, 1) := by decide +kernel
theorem dX6_opens_137 : decode cX6_opens 137 = .ok (.bipush 21, 2) := by decide +kernel
theorem dX6_opens_139 : decode cX6_opens 139 = .ok (.irem, 1) := by decide +kernel
theorem dX6_opens_140 : decode cX6_opens 140 = .ok (.putfield 215, 3) := by decide +kernel
theorem dX6_opens_143 : decode cX6_opens 143 = .ok (.return_, 1) := by decide +kernel
theorem dX6_levelOf_0 : decode cX6_levelOf 0 = .ok (.iconst 0, 1) := by decide +kernel
theorem dX6_levelOf_1 : decode cX6_levelOf 1 = .ok (.istore 4, 2) := by decide +kernel
theorem dX6_levelOf_3 : decode cX6_levelOf 3 = .ok (.aload_n 0, 1) := by decide +kernel
theorem dX6_levelOf_4 : decode cX6_levelOf 4 = .ok (.getfield 206, 3) := by decide +kernel
theorem dX6_levelOf_7 : decode cX6_levelOf 7 = .ok (.iconst (-1), 1) := by decide +kernel
theorem dX6_levelOf_8 : decode cX6_levelOf 8 = .ok (.if_icmp .eq 26, 3) := by decide +kernel
theorem dX6_levelOf_11 : decode cX6_levelOf 11 = .ok (.aload_n 0, 1) := by decide +kernel
theorem dX6_levelOf_12 : decode cX6_levelOf 12 = .ok (.getfield 206, 3) := by decide +kernel
theorem dX6_levelOf_15 : decode cX6_levelOf 15 = .ok (.iload_n 3, 1) := by decide +kernel
theorem dX6_levelOf_16 : decode cX6_levelOf 16 = .ok (.if_icmp .eq 18, 3) := by decide +kernel
theorem dX6_levelOf_19 : decode cX6_levelOf 19 = .ok (.iload 4, 2) := by decide +kernel
theorem dX6_levelOf_21 : decode cX6_levelOf 21 = .ok (.aload_n 0, 1) := by decide +kernel
theorem dX6_levelOf_22 : decode cX6_levelOf 22 = .ok (.aload_n 0, 1) := by decide +kernel
theorem dX6_levelOf_23 : decode cX6_levelOf 23 = .ok (.getfield 212, 3) := by decide +kernel
theorem dX6_levelOf_26 : decode cX6_levelOf 26 = .ok (.iload_n 1, 1) := by decide +kernel
theorem dX6_levelOf_27 : decode cX6_levelOf 27 = .ok (.iload_n 2, 1) := by decide +kernel
theorem dX6_levelOf_28 : decode cX6_levelOf 28 = .ok (.invokevirtual 193, 3) := by decide +kernel
theorem dX6_levelOf_31 : decode cX6_levelOf 31 = .ok (.iadd, 1) := by decide +kernel
theorem dX6_levelOf_32 : decode cX6_levelOf 32 = .ok (.istore 4, 2) := by decide +kernel
theorem dX6_levelOf_34 : decode cX6_levelOf 34 = .ok (.aload_n 0, 1) := by decide +kernel
theorem dX6_levelOf_35 : decode cX6_levelOf 35 = .ok (.getfield 209, 3) := by decide +kernel
theorem dX6_levelOf_38 : decode cX6_levelOf 38 = .ok (.iconst (-1), 1) := by decide +kernel
theorem dX6_levelOf_39 : decode cX6_levelOf 39 = .ok (.if_icmp .eq 26, 3) := by decide +kernel
theorem dX6_levelOf_42 : decode cX6_levelOf 42 = .ok (.aload_n 0, 1) := by decide +kernel
theorem dX6_levelOf_43 : decode cX6_levelOf 43 = .ok (.getfield 209, 3) := by decide +kernel
theorem dX6_levelOf_46 : decode cX6_levelOf 46 = .ok (.iload_n 3, 1) := by decide +kernel
theorem dX6_levelOf_47 : decode cX6_levelOf 47 = .ok (.if_icmp .eq 18, 3) := by decide +kernel
theorem dX6_levelOf_50 : decode cX6_levelOf 50 = .ok (.iload 4, 2) := by decide +kernel
theorem dX6_levelOf_52 : decode cX6_levelOf 52 = .ok (.aload_n 0, 1) := by decide +kernel
theorem dX6_levelOf_53 : decode cX6_levelOf 53 = .ok (.aload_n 0, 1) := by decide +kernel
theorem dX6_levelOf_54 : decode cX6_levelOf 54 = .ok (.getfield 215, 3) := by decide +kernel
theorem dX6_levelOf_57 : decode cX6_levelOf 57 = .ok (.iload_n 1, 1) := by decide +kernel
theorem dX6_levelOf_58 : decode cX6_levelOf 58 = .ok (.iload_n 2, 1) := by decide +kernel
theorem dX6_levelOf_59 : decode cX6_levelOf 59 = .ok (.invokevirtual 193, 3) := by decide +kernel
theorem dX6_levelOf_62 : decode cX6_levelOf 62 = .ok (.iadd, 1) := by decide +kernel
theorem dX6_levelOf_63 : decode cX6_levelOf 63 = .ok (.istore 4, 2) := by decide +kernel
theorem dX6_levelOf_65 : decode cX6_levelOf 65 = .ok (.iload 4, 2) := by decide +kernel
theorem dX6_levelOf_67 : decode cX6_levelOf 67 = .ok (.ifCond .ne 7, 3) := by decide +kernel
theorem dX6_levelOf_70 : decode cX6_levelOf 70 = .ok (.iconst 0, 1) := by decide +kernel
theorem dX6_levelOf_71 : decode cX6_levelOf 71 = .ok (.goto 19, 3) := by decide +kernel
theorem dX6_levelOf_74 : decode cX6_levelOf 74 = .ok (.iload 4, 2) := by decide +kernel
theorem dX6_levelOf_76 : decode cX6_levelOf 76 = .ok (.aload_n 0, 1) := by decide +kernel
theorem dX6_levelOf_77 : decode cX6_levelOf 77 = .ok (.getfield 7, 3) := by decide +kernel
theorem dX6_levelOf_80 : decode cX6_levelOf 80 = .ok (.iconst 5, 1) := by decide +kernel
theorem dX6_levelOf_81 : decode cX6_levelOf 81 = .ok (.iaload, 1) := by decide +kernel
theorem dX6_levelOf_82 : decode cX6_levelOf 82 = .ok (.if_icmp .gt 7, 3) := by decide +kernel
theorem dX6_levelOf_85 : decode cX6_levelOf 85 = .ok (.iconst 1, 1) := by decide +kernel
theorem dX6_levelOf_86 : decode cX6_levelOf 86 = .ok (.goto 4, 3) := by decide +kernel
theorem dX6_levelOf_89 : decode cX6_levelOf 89 = .ok (.iconst 2, 1) := by decide +kernel
theorem dX6_levelOf_90 : decode cX6_levelOf 90 = .ok (.ireturn, 1) := by decide +kernel
theorem dX6_weightOf_0 : decode cX6_weightOf 0 = .ok (.aload_n 0, 1) := by decide +kernel
theorem dX6_weightOf_1 : decode cX6_weightOf 1 = .ok (.getfield 7, 3) := by decide +kernel
theorem dX6_weightOf_4 : decode cX6_weightOf 4 = .ok (.bipush 8, 2) := by decide +kernel
theorem dX6_weightOf_6 : decode cX6_weightOf 6 = .ok (.iload_n 1, 1) := by decide +kernel
theorem dX6_weightOf_7 : decode cX6_weightOf 7 = .ok (.iconst 3, 1) := by decide +kernel
theorem dX6_weightOf_8 : decode cX6_weightOf 8 = .ok (.idiv, 1) := by decide +kernel
theorem dX6_weightOf_9 : decode cX6_weightOf 9 = .ok (.iadd, 1) := by decide +kernel
theorem dX6_weightOf_10 : decode cX6_weightOf 10 = .ok (.iaload, 1) := by decide +kernel
theorem dX6_weightOf_11 : decode cX6_weightOf 11 = .ok (.iconst 3, 1) := by decide +kernel
theorem dX6_weightOf_12 : decode cX6_weightOf 12 = .ok (.iload_n 1, 1) := by decide +kernel
theorem dX6_weightOf_13 : decode cX6_weightOf 13 = .ok (.iconst 3, 1) := by decide +kernel
theorem dX6_weightOf_14 : decode cX6_weightOf 14 = .ok (.irem, 1) := by decide +kernel
theorem dX6_weightOf_15 : decode cX6_weightOf 15 = .ok (.isub, 1) := by decide +kernel
theorem dX6_weightOf_16 : decode cX6_weightOf 16 = .ok (.imul, 1) := by decide +kernel
theorem dX6_weightOf_17 : decode cX6_weightOf 17 = .ok (.ireturn, 1) := by decide +kernel
theorem dX6_weighs_0 : decode cX6_weighs 0 = .ok (.aload_n 0, 1) := by decide +kernel
theorem dX6_weighs_1 : decode cX6_weighs 1 = .ok (.lconst 0, 1) := by decide +kernel
theorem dX6_weighs_2 : decode cX6_weighs 2 = .ok (.putfield 220, 3) := by decide +kernel
theorem dX6_weighs_5 : decode cX6_weighs 5 = .ok (.aload_n 0, 1) := by decide +kernel
theorem dX6_weighs_6 : decode cX6_weighs 6 = .ok (.aload_n 0, 1) := by decide +kernel
theorem dX6_weighs_7 : decode cX6_weighs 7 = .ok (.getfield 7, 3) := by decide +kernel
theorem dX6_weighs_10 : decode cX6_weighs 10 = .ok (.iconst 4, 1) := by decide +kernel
theorem dX6_weighs_11 : decode cX6_weighs 11 = .ok (.iaload, 1) := by decide +kernel
theorem dX6_weighs_12 : decode cX6_weighs 12 = .ok (.invokevirtual 187, 3) := by decide +kernel
theorem dX6_weighs_15 : decode cX6_weighs 15 = .ok (.ifCond .ne 5, 3) := by decide +kernel
theorem dX6_weighs_18 : decode cX6_weighs 18 = .ok (.iconst 0, 1) := by decide +kernel
theorem dX6_weighs_19 : decode cX6_weighs 19 = .ok (.ireturn, 1) := by decide +kernel
theorem dX6_weighs_20 : decode cX6_weighs 20 = .ok (.iconst 0, 1) := by decide +kernel
theorem dX6_weighs_21 : decode cX6_weighs 21 = .ok (.istore_n 1, 1) := by decide +kernel
theorem dX6_weighs_22 : decode cX6_weighs 22 = .ok (.iload_n 1, 1) := by decide +kernel
theorem dX6_weighs_23 : decode cX6_weighs 23 = .ok (.sipush 2731, 3) := by decide +kernel
theorem dX6_weighs_26 : decode cX6_weighs 26 = .ok (.if_icmp .ge 211, 3) := by decide +kernel
theorem dX6_weighs_29 : decode cX6_weighs 29 = .ok (.aload_n 0, 1) := by decide +kernel
theorem dX6_weighs_30 : decode cX6_weighs 30 = .ok (.iload_n 1, 1) := by decide +kernel
theorem dX6_weighs_31 : decode cX6_weighs 31 = .ok (.invokevirtual 224, 3) := by decide +kernel
theorem dX6_weighs_34 : decode cX6_weighs 34 = .ok (.iload_n 1, 1) := by decide +kernel
theorem dX6_weighs_35 : decode cX6_weighs 35 = .ok (.ifCond .ne 14, 3) := by decide +kernel
theorem dX6_weighs_38 : decode cX6_weighs 38 = .ok (.aload_n 0, 1) := by decide +kernel
theorem dX6_weighs_39 : decode cX6_weighs 39 = .ok (.getfield 7, 3) := by decide +kernel
theorem dX6_weighs_42 : decode cX6_weighs 42 = .ok (.bipush 7, 2) := by decide +kernel
theorem dX6_weighs_44 : decode cX6_weighs 44 = .ok (.iaload, 1) := by decide +kernel
theorem dX6_weighs_45 : decode cX6_weighs 45 = .ok (.i2l, 1) := by decide +kernel
theorem dX6_weighs_46 : decode cX6_weighs 46 = .ok (.goto 44, 3) := by decide +kernel
theorem dX6_weighs_49 : decode cX6_weighs 49 = .ok (.iload_n 1, 1) := by decide +kernel
theorem dX6_weighs_50 : decode cX6_weighs 50 = .ok (.bipush 85, 2) := by decide +kernel
theorem dX6_weighs_52 : decode cX6_weighs 52 = .ok (.if_icmp .ge 19, 3) := by decide +kernel
theorem dX6_weighs_55 : decode cX6_weighs 55 = .ok (.ldc2_w 156, 3) := by decide +kernel
theorem dX6_weighs_58 : decode cX6_weighs 58 = .ok (.aload_n 0, 1) := by decide +kernel
theorem dX6_weighs_59 : decode cX6_weighs 59 = .ok (.aload_n 0, 1) := by decide +kernel
theorem dX6_weighs_60 : decode cX6_weighs 60 = .ok (.getfield 212, 3) := by decide +kernel
theorem dX6_weighs_63 : decode cX6_weighs 63 = .ok (.invokevirtual 227, 3) := by decide +kernel
theorem dX6_weighs_66 : decode cX6_weighs 66 = .ok (.i2l, 1) := by decide +kernel
theorem dX6_weighs_67 : decode cX6_weighs 67 = .ok (.lmul, 1) := by decide +kernel
theorem dX6_weighs_68 : decode cX6_weighs 68 = .ok (.goto 22, 3) := by decide +kernel
theorem dX6_weighs_71 : decode cX6_weighs 71 = .ok (.aload_n 0, 1) := by decide +kernel
theorem dX6_weighs_72 : decode cX6_weighs 72 = .ok (.aload_n 0, 1) := by decide +kernel
theorem dX6_weighs_73 : decode cX6_weighs 73 = .ok (.getfield 212, 3) := by decide +kernel
theorem dX6_weighs_76 : decode cX6_weighs 76 = .ok (.invokevirtual 227, 3) := by decide +kernel
theorem dX6_weighs_79 : decode cX6_weighs 79 = .ok (.i2l, 1) := by decide +kernel
theorem dX6_weighs_80 : decode cX6_weighs 80 = .ok (.aload_n 0, 1) := by decide +kernel
theorem dX6_weighs_81 : decode cX6_weighs 81 = .ok (.aload_n 0, 1) := by decide +kernel
theorem dX6_weighs_82 : decode cX6_weighs 82 = .ok (.getfield 215, 3) := by decide +kernel
theorem dX6_weighs_85 : decode cX6_weighs 85 = .ok (.invokevirtual 227, 3) := by decide +kernel
theorem dX6_weighs_88 : decode cX6_weighs 88 = .ok (.i2l, 1) := by decide +kernel
theorem dX6_weighs_89 : decode cX6_weighs 89 = .ok (.lmul, 1) := by decide +kernel
theorem dX6_weighs_90 : decode cX6_weighs 90 = .ok (.lstore_n 2, 1) := by decide +kernel
theorem dX6_weighs_91 : decode cX6_weighs 91 = .ok (.iconst 0, 1) := by decide +kernel
theorem dX6_weighs_92 : decode cX6_weighs 92 = .ok (.istore 4, 2) := by decide +kernel
theorem dX6_weighs_94 : decode cX6_weighs 94 = .ok (.iload 4, 2) := by decide +kernel
theorem dX6_weighs_96 : decode cX6_weighs 96 = .ok (.aload_n 0, 1) := by decide +kernel
theorem dX6_weighs_97 : decode cX6_weighs 97 = .ok (.getfield 7, 3) := by decide +kernel
theorem dX6_weighs_100 : decode cX6_weighs 100 = .ok (.iconst 1, 1) := by decide +kernel
theorem dX6_weighs_101 : decode cX6_weighs 101 = .ok (.iaload, 1) := by decide +kernel
theorem dX6_weighs_102 : decode cX6_weighs 102 = .ok (.if_icmp .ge 112, 3) := by decide +kernel
theorem dX6_weighs_105 : decode cX6_weighs 105 = .ok (.bipush 20, 2) := by decide +kernel
theorem dX6_weighs_107 : decode cX6_weighs 107 = .ok (.iconst 4, 1) := by decide +kernel
theorem dX6_weighs_108 : decode cX6_weighs 108 = .ok (.iload 4, 2) := by decide +kernel
theorem dX6_weighs_110 : decode cX6_weighs 110 = .ok (.imul, 1) := by decide +kernel
theorem dX6_weighs_111 : decode cX6_weighs 111 = .ok (.iadd, 1) := by decide +kernel
theorem dX6_weighs_112 : decode cX6_weighs 112 = .ok (.istore 5, 2) := by decide +kernel
theorem dX6_weighs_114 : decode cX6_weighs 114 = .ok (.aload_n 0, 1) := by decide +kernel
theorem dX6_weighs_115 : decode cX6_weighs 115 = .ok (.getfield 7, 3) := by decide +kernel
theorem dX6_weighs_118 : decode cX6_weighs 118 = .ok (.iload 5, 2) := by decide +kernel
theorem dX6_weighs_120 : decode cX6_weighs 120 = .ok (.iaload, 1) := by decide +kernel
theorem dX6_weighs_121 : decode cX6_weighs 121 = .ok (.aload_n 0, 1) := by decide +kernel
theorem dX6_weighs_122 : decode cX6_weighs 122 = .ok (.getfield 150, 3) := by decide +kernel
theorem dX6_weighs_125 : decode cX6_weighs 125 = .ok (.if_icmp .ge 83, 3) := by decide +kernel
theorem dX6_weighs_128 : decode cX6_weighs 128 = .ok (.aload_n 0, 1) := by decide +kernel
theorem dX6_weighs_129 : decode cX6_weighs 129 = .ok (.aload_n 0, 1) := by decide +kernel
theorem dX6_weighs_130 : decode cX6_weighs 130 = .ok (.getfield 7, 3) := by decide +kernel
theorem dX6_weighs_133 : decode cX6_weighs 133 = .ok (.iload 5, 2) := by decide +kernel
theorem dX6_weighs_135 : decode cX6_weighs 135 = .ok (.iaload, 1) := by decide +kernel
theorem dX6_weighs_136 : decode cX6_weighs 136 = .ok (.aload_n 0, 1) := by decide +kernel
theorem dX6_weighs_137 : decode cX6_weighs 137 = .ok (.getfield 7, 3) := by decide +kernel
theorem dX6_weighs_140 : decode cX6_weighs 140 = .ok (.iload 5, 2) := by decide +kernel
theorem dX6_weighs_142 : decode cX6_weighs 142 = .ok (.iconst 1, 1) := by decide +kernel
theorem dX6_weighs_143 : decode cX6_weighs 143 = .ok (.iadd, 1) := by decide +kernel
theorem dX6_weighs_144 : decode cX6_weighs 144 = .ok (.iaload, 1) := by decide +kernel
theorem dX6_weighs_145 : decode cX6_weighs 145 = .ok (.aload_n 0, 1) := by decide +kernel
theorem dX6_weighs_146 : decode cX6_weighs 146 = .ok (.getfield 7, 3) := by decide +kernel
theorem dX6_weighs_149 : decode cX6_weighs 149 = .ok (.iload 5, 2) := by decide +kernel
theorem dX6_weighs_151 : decode cX6_weighs 151 = .ok (.iconst 2, 1) := by decide +kernel
theorem dX6_weighs_152 : decode cX6_weighs 152 = .ok (.iadd, 1) := by decide +kernel
theorem dX6_weighs_153 : decode cX6_weighs 153 = .ok (.iaload, 1) := by decide +kernel
theorem dX6_weighs_154 : decode cX6_weighs 154 = .ok (.invokevirtual 230, 3) := by decide +kernel
theorem dX6_weighs_157 : decode cX6_weighs 157 = .ok (.aload_n 0, 1) := by decide +kernel
theorem dX6_weighs_158 : decode cX6_weighs 158 = .ok (.getfield 7, 3) := by decide +kernel
theorem dX6_weighs_161 : decode cX6_weighs 161 = .ok (.iload 5, 2) := by decide +kernel
theorem dX6_weighs_163 : decode cX6_weighs 163 = .ok (.iconst 3, 1) := by decide +kernel
theorem dX6_weighs_164 : decode cX6_weighs 164 = .ok (.iadd, 1) := by decide +kernel
theorem dX6_weighs_165 : decode cX6_weighs 165 = .ok (.iaload, 1) := by decide +kernel
theorem dX6_weighs_166 : decode cX6_weighs 166 = .ok (.if_icmp .ne 7, 3) := by decide +kernel
theorem dX6_weighs_169 : decode cX6_weighs 169 = .ok (.iconst 1, 1) := by decide +kernel
theorem dX6_weighs_170 : decode cX6_weighs 170 = .ok (.goto 4, 3) := by decide +kernel
theorem dX6_weighs_173 : decode cX6_weighs 173 = .ok (.iconst 0, 1) := by decide +kernel
theorem dX6_weighs_174 : decode cX6_weighs 174 = .ok (.istore 6, 2) := by decide +kernel
theorem dX6_weighs_176 : decode cX6_weighs 176 = .ok (.lload_n 2, 1) := by decide +kernel
theorem dX6_weighs_177 : decode cX6_weighs 177 = .ok (.iload 6, 2) := by decide +kernel
theorem dX6_weighs_179 : decode cX6_weighs 179 = .ok (.ifCond .eq 16, 3) := by decide +kernel
theorem dX6_weighs_182 : decode cX6_weighs 182 = .ok (.iconst 2, 1) := by decide +kernel
theorem dX6_weighs_183 : decode cX6_weighs 183 = .ok (.aload_n 0, 1) := by decide +kernel
theorem dX6_weighs_184 : decode cX6_weighs 184 = .ok (.getfield 7, 3) := by decide +kernel
theorem dX6_weighs_187 : decode cX6_weighs 187 = .ok (.bipush 6, 2) := by decide +kernel
theorem dX6_weighs_189 : decode cX6_weighs 189 = .ok (.iaload, 1) := by decide +kernel
theorem dX6_weighs_190 : decode cX6_weighs 190 = .ok (.imul, 1) := by decide +kernel
theorem dX6_weighs_191 : decode cX6_weighs 191 = .ok (.i2l, 1) := by decide +kernel
theorem dX6_weighs_192 : decode cX6_weighs 192 = .ok (.goto 14, 3) := by decide +kernel
theorem dX6_weighs_195 : decode cX6_weighs 195 = .ok (.bipush 10, 2) := by decide +kernel
theorem dX6_weighs_197 : decode cX6_weighs 197 = .ok (.aload_n 0, 1) := by decide +kernel
theorem dX6_weighs_198 : decode cX6_weighs 198 = .ok (.getfield 7, 3) := by decide +kernel
theorem dX6_weighs_201 : decode cX6_weighs 201 = .ok (.bipush 6, 2) := by decide +kernel
theorem dX6_weighs_203 : decode cX6_weighs 203 = .ok (.iaload, 1) := by decide +kernel
theorem dX6_weighs_204 : decode cX6_weighs 204 = .ok (.isub, 1) := by decide +kernel
theorem dX6_weighs_205 : decode cX6_weighs 205 = .ok (.i2l, 1) := by decide +kernel
theorem dX6_weighs_206 : decode cX6_weighs 206 = .ok (.lmul, 1) := by decide +kernel
theorem dX6_weighs_207 : decode cX6_weighs 207 = .ok (.lstore_n 2, 1) := by decide +kernel
theorem dX6_weighs_208 : decode cX6_weighs 208 = .ok (.iinc 4 1, 3) := by decide +kernel
theorem dX6_weighs_211 : decode cX6_weighs 211 = .ok (.goto (-117), 3) := by decide +kernel
theorem dX6_weighs_214 : decode cX6_weighs 214 = .ok (.aload_n 0, 1) := by decide +kernel
theorem dX6_weighs_215 : decode cX6_weighs 215 = .ok (.getfield 41, 3) := by decide +kernel
theorem dX6_weighs_218 : decode cX6_weighs 218 = .ok (.iload_n 1, 1) := by decide +kernel
theorem dX6_weighs_219 : decode cX6_weighs 219 = .ok (.lload_n 2, 1) := by decide +kernel
theorem dX6_weighs_220 : decode cX6_weighs 220 = .ok (.lastore, 1) := by decide +kernel
theorem dX6_weighs_221 : decode cX6_weighs 221 = .ok (.aload_n 0, 1) := by decide +kernel
theorem dX6_weighs_222 : decode cX6_weighs 222 = .ok (.dup, 1) := by decide +kernel
theorem dX6_weighs_223 : decode cX6_weighs 223 = .ok (.getfield 220, 3) := by decide +kernel
theorem dX6_weighs_226 : decode cX6_weighs 226 = .ok (.lload_n 2, 1) := by decide +kernel
theorem dX6_weighs_227 : decode cX6_weighs 227 = .ok (.ladd, 1) := by decide +kernel
theorem dX6_weighs_228 : decode cX6_weighs 228 = .ok (.putfield 220, 3) := by decide +kernel
theorem dX6_weighs_231 : decode cX6_weighs 231 = .ok (.iinc 1 1, 3) := by decide +kernel
theorem dX6_weighs_234 : decode cX6_weighs 234 = .ok (.goto (-212), 3) := by decide +kernel
theorem dX6_weighs_237 : decode cX6_weighs 237 = .ok (.aload_n 0, 1) := by decide +kernel
theorem dX6_weighs_238 : decode cX6_weighs 238 = .ok (.getfield 220, 3) := by decide +kernel
theorem dX6_weighs_241 : decode cX6_weighs 241 = .ok (.lconst 0, 1) := by decide +kernel
theorem dX6_weighs_242 : decode cX6_weighs 242 = .ok (.lcmp, 1) := by decide +kernel
theorem dX6_weighs_243 : decode cX6_weighs 243 = .ok (.ifCond .le 7, 3) := by decide +kernel
theorem dX6_weighs_246 : decode cX6_weighs 246 = .ok (.iconst 1, 1) := by decide +kernel
theorem dX6_weighs_247 : decode cX6_weighs 247 = .ok (.goto 4, 3) := by decide +kernel
theorem dX6_weighs_250 : decode cX6_weighs 250 = .ok (.iconst 0, 1) := by decide +kernel
theorem dX6_weighs_251 : decode cX6_weighs 251 = .ok (.ireturn, 1) := by decide +kernel
theorem dX6_odds_0 : decode cX6_odds 0 = .ok (.iload_n 1, 1) := by decide +kernel
theorem dX6_odds_1 : decode cX6_odds 1 = .ok (.i2l, 1) := by decide +kernel
theorem dX6_odds_2 : decode cX6_odds 2 = .ok (.lconst 0, 1) := by decide +kernel
theorem dX6_odds_3 : decode cX6_odds 3 = .ok (.ldc2_w 175, 3) := by decide +kernel
theorem dX6_odds_6 : decode cX6_odds 6 = .ok (.invokestatic 100, 3) := by decide +kernel
theorem dX6_odds_9 : decode cX6_odds 9 = .ok (.ifCond .eq 15, 3) := by decide +kernel
theorem dX6_odds_12 : decode cX6_odds 12 = .ok (.iload_n 2, 1) := by decide +kernel
theorem dX6_odds_13 : decode cX6_odds 13 = .ok (.i2l, 1) := by decide +kernel
theorem dX6_odds_14 : decode cX6_odds 14 = .ok (.lconst 0, 1) := by decide +kernel
theorem dX6_odds_15 : decode cX6_odds 15 = .ok (.ldc2_w 233, 3) := by decide +kernel
theorem dX6_odds_18 : decode cX6_odds 18 = .ok (.invokestatic 100, 3) := by decide +kernel
theorem dX6_odds_21 : decode cX6_odds 21 = .ok (.ifCond .ne 8, 3) := by decide +kernel
theorem dX6_odds_24 : decode cX6_odds 24 = .ok (.aload_n 0, 1) := by decide +kernel
theorem dX6_odds_25 : decode cX6_odds 25 = .ok (.invokevirtual 97, 3) := by decide +kernel
theorem dX6_odds_28 : decode cX6_odds 28 = .ok (.ireturn, 1) := by decide +kernel
theorem dX6_odds_29 : decode cX6_odds 29 = .ok (.aload_n 0, 1) := by decide +kernel
theorem dX6_odds_30 : decode cX6_odds 30 = .ok (.invokevirtual 235, 3) := by decide +kernel
theorem dX6_odds_33 : decode cX6_odds 33 = .ok (.ifCond .ne 8, 3) := by decide +kernel
theorem dX6_odds_36 : decode cX6_odds 36 = .ok (.aload_n 0, 1) := by decide +kernel
theorem dX6_odds_37 : decode cX6_odds 37 = .ok (.invokevirtual 164, 3) := by decide +kernel
theorem dX6_odds_40 : decode cX6_odds 40 = .ok (.ireturn, 1) := by decide +kernel
theorem dX6_odds_41 : decode cX6_odds 41 = .ok (.lconst 0, 1) := by decide +kernel
theorem dX6_odds_42 : decode cX6_odds 42 = .ok (.lstore_n 3, 1) := by decide +kernel
theorem dX6_odds_43 : decode cX6_odds 43 = .ok (.iconst 0, 1) := by decide +kernel
theorem dX6_odds_44 : decode cX6_odds 44 = .ok (.istore 5, 2) := by decide +kernel
theorem dX6_odds_46 : decode cX6_odds 46 = .ok (.iload 5, 2) := by decide +kernel
theorem dX6_odds_48 : decode cX6_odds 48 = .ok (.sipush 2731, 3) := by decide +kernel
theorem dX6_odds_51 : decode cX6_odds 51 = .ok (.if_icmp .ge 81, 3) := by decide +kernel
theorem dX6_odds_54 : decode cX6_odds 54 = .ok (.aload_n 0, 1) := by decide +kernel
theorem dX6_odds_55 : decode cX6_odds 55 = .ok (.iload 5, 2) := by decide +kernel
theorem dX6_odds_57 : decode cX6_odds 57 = .ok (.invokevirtual 224, 3) := by decide +kernel
theorem dX6_odds_60 : decode cX6_odds 60 = .ok (.aload_n 0, 1) := by decide +kernel
theorem dX6_odds_61 : decode cX6_odds 61 = .ok (.getfield 206, 3) := by decide +kernel
theorem dX6_odds_64 : decode cX6_odds 64 = .ok (.iload_n 1, 1) := by decide +kernel
theorem dX6_odds_65 : decode cX6_odds 65 = .ok (.if_icmp .ne 10, 3) := by decide +kernel
theorem dX6_odds_68 : decode cX6_odds 68 = .ok (.aload_n 0, 1) := by decide +kernel
theorem dX6_odds_69 : decode cX6_odds 69 = .ok (.getfield 212, 3) := by decide +kernel
theorem dX6_odds_72 : decode cX6_odds 72 = .ok (.goto 19, 3) := by decide +kernel
theorem dX6_odds_75 : decode cX6_odds 75 = .ok (.aload_n 0, 1) := by decide +kernel
theorem dX6_odds_76 : decode cX6_odds 76 = .ok (.getfield 209, 3) := by decide +kernel
theorem dX6_odds_79 : decode cX6_odds 79 = .ok (.iload_n 1, 1) := by decide +kernel
theorem dX6_odds_80 : decode cX6_odds 80 = .ok (.if_icmp .ne 10, 3) := by decide +kernel
theorem dX6_odds_83 : decode cX6_odds 83 = .ok (.aload_n 0, 1) := by decide +kernel
theorem dX6_odds_84 : decode cX6_odds 84 = .ok (.getfield 215, 3) := by decide +kernel
theorem dX6_odds_87 : decode cX6_odds 87 = .ok (.goto 4, 3) := by decide +kernel
theorem dX6_odds_90 : decode cX6_odds 90 = .ok (.iconst (-1), 1) := by decide +kernel
theorem dX6_odds_91 : decode cX6_odds 91 = .ok (.istore 6, 2) := by decide +kernel
theorem dX6_odds_93 : decode cX6_odds 93 = .ok (.lload_n 3, 1) := by decide +kernel
theorem dX6_odds_94 : decode cX6_odds 94 = .ok (.iload 6, 2) := by decide +kernel
theorem dX6_odds_96 : decode cX6_odds 96 = .ok (.iconst (-1), 1) := by decide +kernel
theorem dX6_odds_97 : decode cX6_odds 97 = .ok (.if_icmp .ne 8, 3) := by decide +kernel
theorem dX6_odds_100 : decode cX6_odds 100 = .ok (.bipush 7, 2) := by decide +kernel
theorem dX6_odds_102 : decode cX6_odds 102 = .ok (.goto 7, 3) := by decide +kernel
theorem dX6_odds_105 : decode cX6_odds 105 = .ok (.iload 6, 2) := by decide +kernel
theorem dX6_odds_107 : decode cX6_odds 107 = .ok (.iconst 3, 1) := by decide +kernel
theorem dX6_odds_108 : decode cX6_odds 108 = .ok (.idiv, 1) := by decide +kernel
theorem dX6_odds_109 : decode cX6_odds 109 = .ok (.iload_n 2, 1) := by decide +kernel
theorem dX6_odds_110 : decode cX6_odds 110 = .ok (.if_icmp .ne 13, 3) := by decide +kernel
theorem dX6_odds_113 : decode cX6_odds 113 = .ok (.aload_n 0, 1) := by decide +kernel
theorem dX6_odds_114 : decode cX6_odds 114 = .ok (.getfield 41, 3) := by decide +kernel
theorem dX6_odds_117 : decode cX6_odds 117 = .ok (.iload 5, 2) := by decide +kernel
theorem dX6_odds_119 : decode cX6_odds 119 = .ok (.laload, 1) := by decide +kernel
theorem dX6_odds_120 : decode cX6_odds 120 = .ok (.goto 4, 3) := by decide +kernel
theorem dX6_odds_123 : decode cX6_odds 123 = .ok (.lconst 0, 1) := by decide +kernel
theorem dX6_odds_124 : decode cX6_odds 124 = .ok (.ladd, 1) := by decide +kernel
theorem dX6_odds_125 : decode cX6_odds 125 = .ok (.lstore_n 3, 1) := by decide +kernel
theorem dX6_odds_126 : decode cX6_odds 126 = .ok (.iinc 5 1, 3) := by decide +kernel
theorem dX6_odds_129 : decode cX6_odds 129 = .ok (.goto (-83), 3) := by decide +kernel
theorem dX6_odds_132 : decode cX6_odds 132 = .ok (.aload_n 0, 1) := by decide +kernel
theorem dX6_odds_133 : decode cX6_odds 133 = .ok (.lload_n 3, 1) := by decide +kernel
theorem dX6_odds_134 : decode cX6_odds 134 = .ok (.aload_n 0, 1) := by decide +kernel
theorem dX6_odds_135 : decode cX6_odds 135 = .ok (.getfield 220, 3) := by decide +kernel
theorem dX6_odds_138 : decode cX6_odds 138 = .ok (.invokevirtual 238, 3) := by decide +kernel
theorem dX6_odds_141 : decode cX6_odds 141 = .ok (.ireturn, 1) := by decide +kernel
theorem dX6_two_0 : decode cX6_two 0 = .ok (.aload_n 0, 1) := by decide +kernel
theorem dX6_two_1 : decode cX6_two 1 = .ok (.invokevirtual 235, 3) := by decide +kernel
theorem dX6_two_4 : decode cX6_two 4 = .ok (.ifCond .ne 8, 3) := by decide +kernel
theorem dX6_two_7 : decode cX6_two 7 = .ok (.aload_n 0, 1) := by decide +kernel
theorem dX6_two_8 : decode cX6_two 8 = .ok (.invokevirtual 164, 3) := by decide +kernel
theorem dX6_two_11 : decode cX6_two 11 = .ok (.ireturn, 1) := by decide +kernel
theorem dX6_two_12 : decode cX6_two 12 = .ok (.lconst 0, 1) := by decide +kernel
theorem dX6_two_13 : decode cX6_two 13 = .ok (.lstore_n 1, 1) := by decide +kernel
theorem dX6_two_14 : decode cX6_two 14 = .ok (.bipush 85, 2) := by decide +kernel
theorem dX6_two_16 : decode cX6_two 16 = .ok (.istore_n 3, 1) := by decide +kernel
theorem dX6_two_17 : decode cX6_two 17 = .ok (.iload_n 3, 1) := by decide +kernel
theorem dX6_two_18 : decode cX6_two 18 = .ok (.sipush 2731, 3) := by decide +kernel
theorem dX6_two_21 : decode cX6_two 21 = .ok (.if_icmp .ge 18, 3) := by decide +kernel
theorem dX6_two_24 : decode cX6_two 24 = .ok (.lload_n 1, 1) := by decide +kernel
theorem dX6_two_25 : decode cX6_two 25 = .ok (.aload_n 0, 1) := by decide +kernel
theorem dX6_two_26 : decode cX6_two 26 = .ok (.getfield 41, 3) := by decide +kernel
theorem dX6_two_29 : decode cX6_two 29 = .ok (.iload_n 3, 1) := by decide +kernel
theorem dX6_two_30 : decode cX6_two 30 = .ok (.laload, 1) := by decide +kernel
theorem dX6_two_31 : decode cX6_two 31 = .ok (.ladd, 1) := by decide +kernel
theorem dX6_two_32 : decode cX6_two 32 = .ok (.lstore_n 1, 1) := by decide +kernel
theorem dX6_two_33 : decode cX6_two 33 = .ok (.iinc 3 1, 3) := by decide +kernel
theorem dX6_two_36 : decode cX6_two 36 = .ok (.goto (-19), 3) := by decide +kernel
theorem dX6_two_39 : decode cX6_two 39 = .ok (.aload_n 0, 1) := by decide +kernel
theorem dX6_two_40 : decode cX6_two 40 = .ok (.lload_n 1, 1) := by decide +kernel
theorem dX6_two_41 : decode cX6_two 41 = .ok (.aload_n 0, 1) := by decide +kernel
theorem dX6_two_42 : decode cX6_two 42 = .ok (.getfield 220, 3) := by decide +kernel
theorem dX6_two_45 : decode cX6_two 45 = .ok (.invokevirtual 238, 3) := by decide +kernel
theorem dX6_two_48 : decode cX6_two 48 = .ok (.ireturn, 1) := by decide +kernel
theorem dX6_likeliest_0 : decode cX6_likeliest 0 = .ok (.aload_n 0, 1) := by decide +kernel
theorem dX6_likeliest_1 : decode cX6_likeliest 1 = .ok (.invokevirtual 235, 3) := by decide +kernel
theorem dX6_likeliest_4 : decode cX6_likeliest 4 = .ok (.ifCond .ne 8, 3) := by decide +kernel
theorem dX6_likeliest_7 : decode cX6_likeliest 7 = .ok (.aload_n 0, 1) := by decide +kernel
theorem dX6_likeliest_8 : decode cX6_likeliest 8 = .ok (.invokevirtual 164, 3) := by decide +kernel
