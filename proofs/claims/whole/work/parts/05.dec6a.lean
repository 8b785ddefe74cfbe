theorem dX6_init_0 : decode cX6_init 0 = .ok (.aload_n 0, 1) := by decide +kernel
theorem dX6_init_1 : decode cX6_init 1 = .ok (.invokespecial 1, 3) := by decide +kernel
theorem dX6_init_4 : decode cX6_init 4 = .ok (.aload_n 0, 1) := by decide +kernel
theorem dX6_init_5 : decode cX6_init 5 = .ok (.sipush 200, 3) := by decide +kernel
theorem dX6_init_8 : decode cX6_init 8 = .ok (.newarray .int, 2) := by decide +kernel
theorem dX6_init_10 : decode cX6_init 10 = .ok (.putfield 7, 3) := by decide +kernel
theorem dX6_init_13 : decode cX6_init 13 = .ok (.aload_n 0, 1) := by decide +kernel
theorem dX6_init_14 : decode cX6_init 14 = .ok (.sipush 400, 3) := by decide +kernel
theorem dX6_init_17 : decode cX6_init 17 = .ok (.newarray .int, 2) := by decide +kernel
theorem dX6_init_19 : decode cX6_init 19 = .ok (.putfield 13, 3) := by decide +kernel
theorem dX6_init_22 : decode cX6_init 22 = .ok (.aload_n 0, 1) := by decide +kernel
theorem dX6_init_23 : decode cX6_init 23 = .ok (.iconst 2, 1) := by decide +kernel
theorem dX6_init_24 : decode cX6_init 24 = .ok (.newarray .boolean, 2) := by decide +kernel
theorem dX6_init_26 : decode cX6_init 26 = .ok (.putfield 16, 3) := by decide +kernel
theorem dX6_init_29 : decode cX6_init 29 = .ok (.aload_n 0, 1) := by decide +kernel
theorem dX6_init_30 : decode cX6_init 30 = .ok (.iconst 3, 1) := by decide +kernel
theorem dX6_init_31 : decode cX6_init 31 = .ok (.newarray .int, 2) := by decide +kernel
theorem dX6_init_33 : decode cX6_init 33 = .ok (.putfield 20, 3) := by decide +kernel
theorem dX6_init_36 : decode cX6_init 36 = .ok (.aload_n 0, 1) := by decide +kernel
theorem dX6_init_37 : decode cX6_init 37 = .ok (.bipush 84, 2) := by decide +kernel
theorem dX6_init_39 : decode cX6_init 39 = .ok (.newarray .int, 2) := by decide +kernel
theorem dX6_init_41 : decode cX6_init 41 = .ok (.putfield 23, 3) := by decide +kernel
theorem dX6_init_44 : decode cX6_init 44 = .ok (.aload_n 0, 1) := by decide +kernel
theorem dX6_init_45 : decode cX6_init 45 = .ok (.bipush 7, 2) := by decide +kernel
theorem dX6_init_47 : decode cX6_init 47 = .ok (.newarray .int, 2) := by decide +kernel
theorem dX6_init_49 : decode cX6_init 49 = .ok (.putfield 26, 3) := by decide +kernel
theorem dX6_init_52 : decode cX6_init 52 = .ok (.aload_n 0, 1) := by decide +kernel
theorem dX6_init_53 : decode cX6_init 53 = .ok (.bipush 120, 2) := by decide +kernel
theorem dX6_init_55 : decode cX6_init 55 = .ok (.newarray .int, 2) := by decide +kernel
theorem dX6_init_57 : decode cX6_init 57 = .ok (.putfield 29, 3) := by decide +kernel
theorem dX6_init_60 : decode cX6_init 60 = .ok (.aload_n 0, 1) := by decide +kernel
theorem dX6_init_61 : decode cX6_init 61 = .ok (.bipush 120, 2) := by decide +kernel
theorem dX6_init_63 : decode cX6_init 63 = .ok (.newarray .int, 2) := by decide +kernel
theorem dX6_init_65 : decode cX6_init 65 = .ok (.putfield 32, 3) := by decide +kernel
theorem dX6_init_68 : decode cX6_init 68 = .ok (.aload_n 0, 1) := by decide +kernel
theorem dX6_init_69 : decode cX6_init 69 = .ok (.bipush 121, 2) := by decide +kernel
theorem dX6_init_71 : decode cX6_init 71 = .ok (.newarray .int, 2) := by decide +kernel
theorem dX6_init_73 : decode cX6_init 73 = .ok (.putfield 35, 3) := by decide +kernel
theorem dX6_init_76 : decode cX6_init 76 = .ok (.aload_n 0, 1) := by decide +kernel
theorem dX6_init_77 : decode cX6_init 77 = .ok (.sipush 10080, 3) := by decide +kernel
theorem dX6_init_80 : decode cX6_init 80 = .ok (.newarray .int, 2) := by decide +kernel
theorem dX6_init_82 : decode cX6_init 82 = .ok (.putfield 38, 3) := by decide +kernel
theorem dX6_init_85 : decode cX6_init 85 = .ok (.aload_n 0, 1) := by decide +kernel
theorem dX6_init_86 : decode cX6_init 86 = .ok (.sipush 2731, 3) := by decide +kernel
theorem dX6_init_89 : decode cX6_init 89 = .ok (.newarray .long, 2) := by decide +kernel
theorem dX6_init_91 : decode cX6_init 91 = .ok (.putfield 41, 3) := by decide +kernel
theorem dX6_init_94 : decode cX6_init 94 = .ok (.aload_n 0, 1) := by decide +kernel
theorem dX6_init_95 : decode cX6_init 95 = .ok (.iconst 3, 1) := by decide +kernel
theorem dX6_init_96 : decode cX6_init 96 = .ok (.newarray .long, 2) := by decide +kernel
theorem dX6_init_98 : decode cX6_init 98 = .ok (.putfield 45, 3) := by decide +kernel
theorem dX6_init_101 : decode cX6_init 101 = .ok (.aload_n 0, 1) := by decide +kernel
theorem dX6_init_102 : decode cX6_init 102 = .ok (.bipush 21, 2) := by decide +kernel
theorem dX6_init_104 : decode cX6_init 104 = .ok (.newarray .int, 2) := by decide +kernel
theorem dX6_init_106 : decode cX6_init 106 = .ok (.putfield 48, 3) := by decide +kernel
theorem dX6_init_109 : decode cX6_init 109 = .ok (.aload_n 0, 1) := by decide +kernel
theorem dX6_init_110 : decode cX6_init 110 = .ok (.bipush 44, 2) := by decide +kernel
theorem dX6_init_112 : decode cX6_init 112 = .ok (.newarray .long, 2) := by decide +kernel
theorem dX6_init_114 : decode cX6_init 114 = .ok (.putfield 51, 3) := by decide +kernel
theorem dX6_init_117 : decode cX6_init 117 = .ok (.aload_n 0, 1) := by decide +kernel
theorem dX6_init_118 : decode cX6_init 118 = .ok (.getfield 7, 3) := by decide +kernel
theorem dX6_init_121 : decode cX6_init 121 = .ok (.iconst 5, 1) := by decide +kernel
theorem dX6_init_122 : decode cX6_init 122 = .ok (.iconst 5, 1) := by decide +kernel
theorem dX6_init_123 : decode cX6_init 123 = .ok (.iastore, 1) := by decide +kernel
theorem dX6_init_124 : decode cX6_init 124 = .ok (.aload_n 0, 1) := by decide +kernel
theorem dX6_init_125 : decode cX6_init 125 = .ok (.getfield 7, 3) := by decide +kernel
theorem dX6_init_128 : decode cX6_init 128 = .ok (.bipush 6, 2) := by decide +kernel
theorem dX6_init_130 : decode cX6_init 130 = .ok (.bipush 8, 2) := by decide +kernel
theorem dX6_init_132 : decode cX6_init 132 = .ok (.iastore, 1) := by decide +kernel
theorem dX6_init_133 : decode cX6_init 133 = .ok (.aload_n 0, 1) := by decide +kernel
theorem dX6_init_134 : decode cX6_init 134 = .ok (.getfield 7, 3) := by decide +kernel
theorem dX6_init_137 : decode cX6_init 137 = .ok (.bipush 7, 2) := by decide +kernel
theorem dX6_init_139 : decode cX6_init 139 = .ok (.bipush 9, 2) := by decide +kernel
theorem dX6_init_141 : decode cX6_init 141 = .ok (.iastore, 1) := by decide +kernel
theorem dX6_init_142 : decode cX6_init 142 = .ok (.iconst 0, 1) := by decide +kernel
theorem dX6_init_143 : decode cX6_init 143 = .ok (.istore_n 1, 1) := by decide +kernel
theorem dX6_init_144 : decode cX6_init 144 = .ok (.iload_n 1, 1) := by decide +kernel
theorem dX6_init_145 : decode cX6_init 145 = .ok (.bipush 7, 2) := by decide +kernel
theorem dX6_init_147 : decode cX6_init 147 = .ok (.if_icmp .ge 19, 3) := by decide +kernel
theorem dX6_init_150 : decode cX6_init 150 = .ok (.aload_n 0, 1) := by decide +kernel
theorem dX6_init_151 : decode cX6_init 151 = .ok (.getfield 7, 3) := by decide +kernel
theorem dX6_init_154 : decode cX6_init 154 = .ok (.bipush 8, 2) := by decide +kernel
theorem dX6_init_156 : decode cX6_init 156 = .ok (.iload_n 1, 1) := by decide +kernel
theorem dX6_init_157 : decode cX6_init 157 = .ok (.iadd, 1) := by decide +kernel
theorem dX6_init_158 : decode cX6_init 158 = .ok (.iconst 1, 1) := by decide +kernel
theorem dX6_init_159 : decode cX6_init 159 = .ok (.iastore, 1) := by decide +kernel
theorem dX6_init_160 : decode cX6_init 160 = .ok (.iinc 1 1, 3) := by decide +kernel
theorem dX6_init_163 : decode cX6_init 163 = .ok (.goto (-19), 3) := by decide +kernel
theorem dX6_init_166 : decode cX6_init 166 = .ok (.iconst 0, 1) := by decide +kernel
theorem dX6_init_167 : decode cX6_init 167 = .ok (.istore_n 1, 1) := by decide +kernel
theorem dX6_init_168 : decode cX6_init 168 = .ok (.iload_n 1, 1) := by decide +kernel
theorem dX6_init_169 : decode cX6_init 169 = .ok (.iconst 4, 1) := by decide +kernel
theorem dX6_init_170 : decode cX6_init 170 = .ok (.if_icmp .ge 19, 3) := by decide +kernel
theorem dX6_init_173 : decode cX6_init 173 = .ok (.aload_n 0, 1) := by decide +kernel
theorem dX6_init_174 : decode cX6_init 174 = .ok (.getfield 7, 3) := by decide +kernel
theorem dX6_init_177 : decode cX6_init 177 = .ok (.bipush 15, 2) := by decide +kernel
theorem dX6_init_179 : decode cX6_init 179 = .ok (.iload_n 1, 1) := by decide +kernel
theorem dX6_init_180 : decode cX6_init 180 = .ok (.iadd, 1) := by decide +kernel
theorem dX6_init_181 : decode cX6_init 181 = .ok (.iconst (-1), 1) := by decide +kernel
theorem dX6_init_182 : decode cX6_init 182 = .ok (.iastore, 1) := by decide +kernel
theorem dX6_init_183 : decode cX6_init 183 = .ok (.iinc 1 1, 3) := by decide +kernel
theorem dX6_init_186 : decode cX6_init 186 = .ok (.goto (-18), 3) := by decide +kernel
theorem dX6_init_189 : decode cX6_init 189 = .ok (.aload_n 0, 1) := by decide +kernel
theorem dX6_init_190 : decode cX6_init 190 = .ok (.iconst 1, 1) := by decide +kernel
theorem dX6_init_191 : decode cX6_init 191 = .ok (.lconst 1, 1) := by decide +kernel
theorem dX6_init_192 : decode cX6_init 192 = .ok (.invokevirtual 54, 3) := by decide +kernel
theorem dX6_init_195 : decode cX6_init 195 = .ok (.return_, 1) := by decide +kernel
theorem dX6_refuses_0 : decode cX6_refuses 0 = .ok (.aload_n 0, 1) := by decide +kernel
theorem dX6_refuses_1 : decode cX6_refuses 1 = .ok (.getfield 20, 3) := by decide +kernel
theorem dX6_refuses_4 : decode cX6_refuses 4 = .ok (.iload_n 1, 1) := by decide +kernel
theorem dX6_refuses_5 : decode cX6_refuses 5 = .ok (.dup2, 1) := by decide +kernel
theorem dX6_refuses_6 : decode cX6_refuses 6 = .ok (.iaload, 1) := by decide +kernel
theorem dX6_refuses_7 : decode cX6_refuses 7 = .ok (.iconst 1, 1) := by decide +kernel
theorem dX6_refuses_8 : decode cX6_refuses 8 = .ok (.iadd, 1) := by decide +kernel
theorem dX6_refuses_9 : decode cX6_refuses 9 = .ok (.iastore, 1) := by decide +kernel
theorem dX6_refuses_10 : decode cX6_refuses 10 = .ok (.iload_n 2, 1) := by decide +kernel
theorem dX6_refuses_11 : decode cX6_refuses 11 = .ok (.ireturn, 1) := by decide +kernel
set_option maxRecDepth 20000 in
theorem ggX6_bad_X6_refuses : GoodIn wsX6_bad wsX6_refuses := goodIn_r _ [5, 6, 7, 8, 9, 10, 11, 12, 13, 14, 15, 16, 17, 18, 19, 20, 21, 22, 23, 24, 25, 26, 27, 28, 29, 30, 31, 32] (by decide +kernel) (by decide +kernel)
set_option maxRecDepth 20000 in
theorem gX6_bad_X6_refuses : GoodIn wsX6_bad (wsV RX6 58 RX6 yX6_refuses wsX6_refuses) := goodIn_app (goodIn_of _ (by decide +kernel)) ggX6_bad_X6_refuses
theorem dX6_bad_0 : decode cX6_bad 0 = .ok (.aload_n 0, 1) := by decide +kernel
theorem dX6_bad_1 : decode cX6_bad 1 = .ok (.iconst 0, 1) := by decide +kernel
theorem dX6_bad_2 : decode cX6_bad 2 = .ok (.bipush (-2), 2) := by decide +kernel
theorem dX6_bad_4 : decode cX6_bad 4 = .ok (.invokevirtual 58, 3) := by decide +kernel
theorem dX6_bad_7 : decode cX6_bad 7 = .ok (.ireturn, 1) := by decide +kernel
set_option maxRecDepth 20000 in
theorem ggX6_no_X6_refuses : GoodIn wsX6_no wsX6_refuses := goodIn_r _ [5, 6, 7, 8, 9, 10, 11, 12, 13, 14, 15, 16, 17, 18, 19, 20, 21, 22, 23, 24, 25, 26, 27, 28, 29, 30, 31, 32] (by decide +kernel) (by decide +kernel)
set_option maxRecDepth 20000 in
theorem gX6_no_X6_refuses : GoodIn wsX6_no (wsV RX6 58 RX6 yX6_refuses wsX6_refuses) := goodIn_app (goodIn_of _ (by decide +kernel)) ggX6_no_X6_refuses
theorem dX6_no_0 : decode cX6_no 0 = .ok (.aload_n 0, 1) := by decide +kernel
theorem dX6_no_1 : decode cX6_no 1 = .ok (.iconst 1, 1) := by decide +kernel
theorem dX6_no_2 : decode cX6_no 2 = .ok (.bipush (-3), 2) := by decide +kernel
theorem dX6_no_4 : decode cX6_no 4 = .ok (.invokevirtual 58, 3) := by decide +kernel
theorem dX6_no_7 : decode cX6_no 7 = .ok (.ireturn, 1) := by decide +kernel
set_option maxRecDepth 20000 in
theorem ggX6_full_X6_refuses : GoodIn wsX6_full wsX6_refuses := goodIn_r _ [5, 6, 7, 8, 9, 10, 11, 12, 13, 14, 15, 16, 17, 18, 19, 20, 21, 22, 23, 24, 25, 26, 27, 28, 29, 30, 31, 32] (by decide +kernel) (by decide +kernel)
set_option maxRecDepth 20000 in
theorem gX6_full_X6_refuses : GoodIn wsX6_full (wsV RX6 58 RX6 yX6_refuses wsX6_refuses) := goodIn_app (goodIn_of _ (by decide +kernel)) ggX6_full_X6_refuses
theorem dX6_full_0 : decode cX6_full 0 = .ok (.aload_n 0, 1) := by decide +kernel
theorem dX6_full_1 : decode cX6_full 1 = .ok (.iconst 2, 1) := by decide +kernel
theorem dX6_full_2 : decode cX6_full 2 = .ok (.bipush (-4), 2) := by decide +kernel
theorem dX6_full_4 : decode cX6_full 4 = .ok (.invokevirtual 58, 3) := by decide +kernel
theorem dX6_full_7 : decode cX6_full 7 = .ok (.ireturn, 1) := by decide +kernel
theorem dX6_trims_0 : decode cX6_trims 0 = .ok (.aload_n 0, 1) := by decide +kernel
theorem dX6_trims_1 : decode cX6_trims 1 = .ok (.getfield 26, 3) := by decide +kernel
theorem dX6_trims_4 : decode cX6_trims 4 = .ok (.iload_n 1, 1) := by decide +kernel
theorem dX6_trims_5 : decode cX6_trims 5 = .ok (.iaload, 1) := by decide +kernel
theorem dX6_trims_6 : decode cX6_trims 6 = .ok (.ifCond .le 37, 3) := by decide +kernel
theorem dX6_trims_9 : decode cX6_trims 9 = .ok (.aload_n 0, 1) := by decide +kernel
theorem dX6_trims_10 : decode cX6_trims 10 = .ok (.getfield 23, 3) := by decide +kernel
theorem dX6_trims_13 : decode cX6_trims 13 = .ok (.bipush 12, 2) := by decide +kernel
theorem dX6_trims_15 : decode cX6_trims 15 = .ok (.iload_n 1, 1) := by decide +kernel
theorem dX6_trims_16 : decode cX6_trims 16 = .ok (.imul, 1) := by decide +kernel
theorem dX6_trims_17 : decode cX6_trims 17 = .ok (.aload_n 0, 1) := by decide +kernel
theorem dX6_trims_18 : decode cX6_trims 18 = .ok (.getfield 26, 3) := by decide +kernel
theorem dX6_trims_21 : decode cX6_trims 21 = .ok (.iload_n 1, 1) := by decide +kernel
theorem dX6_trims_22 : decode cX6_trims 22 = .ok (.iaload, 1) := by decide +kernel
theorem dX6_trims_23 : decode cX6_trims 23 = .ok (.iadd, 1) := by decide +kernel
theorem dX6_trims_24 : decode cX6_trims 24 = .ok (.iconst 1, 1) := by decide +kernel
theorem dX6_trims_25 : decode cX6_trims 25 = .ok (.isub, 1) := by decide +kernel
theorem dX6_trims_26 : decode cX6_trims 26 = .ok (.iaload, 1) := by decide +kernel
theorem dX6_trims_27 : decode cX6_trims 27 = .ok (.ifCond .ne 16, 3) := by decide +kernel
theorem dX6_trims_30 : decode cX6_trims 30 = .ok (.aload_n 0, 1) := by decide +kernel
theorem dX6_trims_31 : decode cX6_trims 31 = .ok (.getfield 26, 3) := by decide +kernel
theorem dX6_trims_34 : decode cX6_trims 34 = .ok (.iload_n 1, 1) := by decide +kernel
theorem dX6_trims_35 : decode cX6_trims 35 = .ok (.dup2, 1) := by decide +kernel
theorem dX6_trims_36 : decode cX6_trims 36 = .ok (.iaload, 1) := by decide +kernel
theorem dX6_trims_37 : decode cX6_trims 37 = .ok (.iconst 1, 1) := by decide +kernel
theorem dX6_trims_38 : decode cX6_trims 38 = .ok (.isub, 1) := by decide +kernel
theorem dX6_trims_39 : decode cX6_trims 39 = .ok (.iastore, 1) := by decide +kernel
theorem dX6_trims_40 : decode cX6_trims 40 = .ok (.goto (-40), 3) := by decide +kernel
theorem dX6_trims_43 : decode cX6_trims 43 = .ok (.return_, 1) := by decide +kernel
set_option maxRecDepth 20000 in
theorem ggX6_sets_X6_trims : GoodIn wsX6_sets wsX6_trims := goodIn_r _ [8, 3, 1, 9, 10, 11, 12, 13, 14, 15, 16, 17, 18, 19, 20, 21, 22, 23, 24, 25, 26, 27, 28, 29, 30, 31, 32, 33, 34] (by decide +kernel) (by decide +kernel)
set_option maxRecDepth 20000 in
theorem gX6_sets_X6_trims : GoodIn wsX6_sets (wsV RX6 64 RX6 yX6_trims wsX6_trims) := goodIn_app (goodIn_of _ (by decide +kernel)) ggX6_sets_X6_trims
theorem dX6_sets_0 : decode cX6_sets 0 = .ok (.iconst 0, 1) := by decide +kernel
theorem dX6_sets_1 : decode cX6_sets 1 = .ok (.istore 4, 2) := by decide +kernel
theorem dX6_sets_3 : decode cX6_sets 3 = .ok (.iload 4, 2) := by decide +kernel
theorem dX6_sets_5 : decode cX6_sets 5 = .ok (.bipush 12, 2) := by decide +kernel
theorem dX6_sets_7 : decode cX6_sets 7 = .ok (.if_icmp .ge 43, 3) := by decide +kernel
theorem dX6_sets_10 : decode cX6_sets 10 = .ok (.aload_n 0, 1) := by decide +kernel
theorem dX6_sets_11 : decode cX6_sets 11 = .ok (.getfield 23, 3) := by decide +kernel
theorem dX6_sets_14 : decode cX6_sets 14 = .ok (.bipush 12, 2) := by decide +kernel
theorem dX6_sets_16 : decode cX6_sets 16 = .ok (.iload_n 1, 1) := by decide +kernel
theorem dX6_sets_17 : decode cX6_sets 17 = .ok (.imul, 1) := by decide +kernel
theorem dX6_sets_18 : decode cX6_sets 18 = .ok (.iload 4, 2) := by decide +kernel
theorem dX6_sets_20 : decode cX6_sets 20 = .ok (.iadd, 1) := by decide +kernel
theorem dX6_sets_21 : decode cX6_sets 21 = .ok (.iload 4, 2) := by decide +kernel
theorem dX6_sets_23 : decode cX6_sets 23 = .ok (.iconst 3, 1) := by decide +kernel
theorem dX6_sets_24 : decode cX6_sets 24 = .ok (.if_icmp .ge 18, 3) := by decide +kernel
theorem dX6_sets_27 : decode cX6_sets 27 = .ok (.lload_n 2, 1) := by decide +kernel
theorem dX6_sets_28 : decode cX6_sets 28 = .ok (.bipush 30, 2) := by decide +kernel
theorem dX6_sets_30 : decode cX6_sets 30 = .ok (.iload 4, 2) := by decide +kernel
theorem dX6_sets_32 : decode cX6_sets 32 = .ok (.imul, 1) := by decide +kernel
theorem dX6_sets_33 : decode cX6_sets 33 = .ok (.lshr, 1) := by decide +kernel
theorem dX6_sets_34 : decode cX6_sets 34 = .ok (.ldc2_w 62, 3) := by decide +kernel
theorem dX6_sets_37 : decode cX6_sets 37 = .ok (.land, 1) := by decide +kernel
theorem dX6_sets_38 : decode cX6_sets 38 = .ok (.l2i, 1) := by decide +kernel
theorem dX6_sets_39 : decode cX6_sets 39 = .ok (.goto 4, 3) := by decide +kernel
theorem dX6_sets_42 : decode cX6_sets 42 = .ok (.iconst 0, 1) := by decide +kernel
theorem dX6_sets_43 : decode cX6_sets 43 = .ok (.iastore, 1) := by decide +kernel
theorem dX6_sets_44 : decode cX6_sets 44 = .ok (.iinc 4 1, 3) := by decide +kernel
theorem dX6_sets_47 : decode cX6_sets 47 = .ok (.goto (-44), 3) := by decide +kernel
theorem dX6_sets_50 : decode cX6_sets 50 = .ok (.aload_n 0, 1) := by decide +kernel
theorem dX6_sets_51 : decode cX6_sets 51 = .ok (.getfield 26, 3) := by decide +kernel
theorem dX6_sets_54 : decode cX6_sets 54 = .ok (.iload_n 1, 1) := by decide +kernel
theorem dX6_sets_55 : decode cX6_sets 55 = .ok (.iconst 3, 1) := by decide +kernel
theorem dX6_sets_56 : decode cX6_sets 56 = .ok (.iastore, 1) := by decide +kernel
theorem dX6_sets_57 : decode cX6_sets 57 = .ok (.aload_n 0, 1) := by decide +kernel
theorem dX6_sets_58 : decode cX6_sets 58 = .ok (.iload_n 1, 1) := by decide +kernel
theorem dX6_sets_59 : decode cX6_sets 59 = .ok (.invokevirtual 64, 3) := by decide +kernel
theorem dX6_sets_62 : decode cX6_sets 62 = .ok (.return_, 1) := by decide +kernel
theorem dX6_copies_0 : decode cX6_copies 0 = .ok (.iconst 0, 1) := by decide +kernel
theorem dX6_copies_1 : decode cX6_copies 1 = .ok (.istore_n 3, 1) := by decide +kernel
theorem dX6_copies_2 : decode cX6_copies 2 = .ok (.iload_n 3, 1) := by decide +kernel
theorem dX6_copies_3 : decode cX6_copies 3 = .ok (.bipush 12, 2) := by decide +kernel
theorem dX6_copies_5 : decode cX6_copies 5 = .ok (.if_icmp .ge 31, 3) := by decide +kernel
theorem dX6_copies_8 : decode cX6_copies 8 = .ok (.aload_n 0, 1) := by decide +kernel
theorem dX6_copies_9 : decode cX6_copies 9 = .ok (.getfield 23, 3) := by decide +kernel
theorem dX6_copies_12 : decode cX6_copies 12 = .ok (.bipush 12, 2) := by decide +kernel
theorem dX6_copies_14 : decode cX6_copies 14 = .ok (.iload_n 1, 1) := by decide +kernel
theorem dX6_copies_15 : decode cX6_copies 15 = .ok (.imul, 1) := by decide +kernel
theorem dX6_copies_16 : decode cX6_copies 16 = .ok (.iload_n 3, 1) := by decide +kernel
theorem dX6_copies_17 : decode cX6_copies 17 = .ok (.iadd, 1) := by decide +kernel
theorem dX6_copies_18 : decode cX6_copies 18 = .ok (.aload_n 0, 1) := by decide +kernel
theorem dX6_copies_19 : decode cX6_copies 19 = .ok (.getfield 23, 3) := by decide +kernel
theorem dX6_copies_22 : decode cX6_copies 22 = .ok (.bipush 12, 2) := by decide +kernel
theorem dX6_copies_24 : decode cX6_copies 24 = .ok (.iload_n 2, 1) := by decide +kernel
theorem dX6_copies_25 : decode cX6_copies 25 = .ok (.imul, 1) := by decide +kernel
theorem dX6_copies_26 : decode cX6_copies 26 = .ok (.iload_n 3, 1) := by decide +kernel
theorem dX6_copies_27 : decode cX6_copies 27 = .ok (.iadd, 1) := by decide +kernel
theorem dX6_copies_28 : decode cX6_copies 28 = .ok (.iaload, 1) := by decide +kernel
theorem dX6_copies_29 : decode cX6_copies 29 = .ok (.iastore, 1) := by decide +kernel
theorem dX6_copies_30 : decode cX6_copies 30 = .ok (.iinc 3 1, 3) := by decide +kernel
theorem dX6_copies_33 : decode cX6_copies 33 = .ok (.goto (-31), 3) := by decide +kernel
theorem dX6_copies_36 : decode cX6_copies 36 = .ok (.aload_n 0, 1) := by decide +kernel
theorem dX6_copies_37 : decode cX6_copies 37 = .ok (.getfield 26, 3) := by decide +kernel
theorem dX6_copies_40 : decode cX6_copies 40 = .ok (.iload_n 1, 1) := by decide +kernel
theorem dX6_copies_41 : decode cX6_copies 41 = .ok (.aload_n 0, 1) := by decide +kernel
theorem dX6_copies_42 : decode cX6_copies 42 = .ok (.getfield 26, 3) := by decide +kernel
theorem dX6_copies_45 : decode cX6_copies 45 = .ok (.iload_n 2, 1) := by decide +kernel
theorem dX6_copies_46 : decode cX6_copies 46 = .ok (.iaload, 1) := by decide +kernel
theorem dX6_copies_47 : decode cX6_copies 47 = .ok (.iastore, 1) := by decide +kernel
theorem dX6_copies_48 : decode cX6_copies 48 = .ok (.return_, 1) := by decide +kernel
set_option maxRecDepth 20000 in
theorem ggX6_times_X6_trims : GoodIn wsX6_times wsX6_trims := goodIn_r _ [8, 1, 2, 9, 10, 11, 12, 13, 14, 15, 16, 17, 18, 19, 20, 21, 22, 23, 24, 25, 26, 27, 28, 29, 30, 31, 32, 33, 34] (by decide +kernel) (by decide +kernel)
set_option maxRecDepth 20000 in
theorem gX6_times_X6_trims : GoodIn wsX6_times (wsV RX6 64 RX6 yX6_trims wsX6_trims) := goodIn_app (goodIn_of _ (by decide +kernel)) ggX6_times_X6_trims
theorem dX6_times_0 : decode cX6_times 0 = .ok (.lconst 0, 1) := by decide +kernel
theorem dX6_times_1 : decode cX6_times 1 = .ok (.lstore_n 3, 1) := by decide +kernel
theorem dX6_times_2 : decode cX6_times 2 = .ok (.iconst 0, 1) := by decide +kernel
theorem dX6_times_3 : decode cX6_times 3 = .ok (.istore 5, 2) := by decide +kernel
theorem dX6_times_5 : decode cX6_times 5 = .ok (.iload 5, 2) := by decide +kernel
theorem dX6_times_7 : decode cX6_times 7 = .ok (.aload_n 0, 1) := by decide +kernel
theorem dX6_times_8 : decode cX6_times 8 = .ok (.getfield 26, 3) := by decide +kernel
theorem dX6_times_11 : decode cX6_times 11 = .ok (.iload_n 1, 1) := by decide +kernel
theorem dX6_times_12 : decode cX6_times 12 = .ok (.iaload, 1) := by decide +kernel
theorem dX6_times_13 : decode cX6_times 13 = .ok (.if_icmp .ge 54, 3) := by decide +kernel
theorem dX6_times_16 : decode cX6_times 16 = .ok (.aload_n 0, 1) := by decide +kernel
theorem dX6_times_17 : decode cX6_times 17 = .ok (.getfield 23, 3) := by decide +kernel
theorem dX6_times_20 : decode cX6_times 20 = .ok (.bipush 12, 2) := by decide +kernel
theorem dX6_times_22 : decode cX6_times 22 = .ok (.iload_n 1, 1) := by decide +kernel
theorem dX6_times_23 : decode cX6_times 23 = .ok (.imul, 1) := by decide +kernel
theorem dX6_times_24 : decode cX6_times 24 = .ok (.iload 5, 2) := by decide +kernel
theorem dX6_times_26 : decode cX6_times 26 = .ok (.iadd, 1) := by decide +kernel
theorem dX6_times_27 : decode cX6_times 27 = .ok (.iaload, 1) := by decide +kernel
theorem dX6_times_28 : decode cX6_times 28 = .ok (.i2l, 1) := by decide +kernel
theorem dX6_times_29 : decode cX6_times 29 = .ok (.iload_n 2, 1) := by decide +kernel
theorem dX6_times_30 : decode cX6_times 30 = .ok (.i2l, 1) := by decide +kernel
theorem dX6_times_31 : decode cX6_times 31 = .ok (.lmul, 1) := by decide +kernel
theorem dX6_times_32 : decode cX6_times 32 = .ok (.lload_n 3, 1) := by decide +kernel
theorem dX6_times_33 : decode cX6_times 33 = .ok (.ladd, 1) := by decide +kernel
theorem dX6_times_34 : decode cX6_times 34 = .ok (.lstore 6, 2) := by decide +kernel
theorem dX6_times_36 : decode cX6_times 36 = .ok (.aload_n 0, 1) := by decide +kernel
theorem dX6_times_37 : decode cX6_times 37 = .ok (.getfield 23, 3) := by decide +kernel
theorem dX6_times_40 : decode cX6_times 40 = .ok (.bipush 12, 2) := by decide +kernel
theorem dX6_times_42 : decode cX6_times 42 = .ok (.iload_n 1, 1) := by decide +kernel
theorem dX6_times_43 : decode cX6_times 43 = .ok (.imul, 1) := by decide +kernel
theorem dX6_times_44 : decode cX6_times 44 = .ok (.iload 5, 2) := by decide +kernel
theorem dX6_times_46 : decode cX6_times 46 = .ok (.iadd, 1) := by decide +kernel
theorem dX6_times_47 : decode cX6_times 47 = .ok (.lload 6, 2) := by decide +kernel
theorem dX6_times_49 : decode cX6_times 49 = .ok (.ldc2_w 62, 3) := by decide +kernel
theorem dX6_times_52 : decode cX6_times 52 = .ok (.land, 1) := by decide +kernel
theorem dX6_times_53 : decode cX6_times 53 = .ok (.l2i, 1) := by decide +kernel
theorem dX6_times_54 : decode cX6_times 54 = .ok (.iastore, 1) := by decide +kernel
theorem dX6_times_55 : decode cX6_times 55 = .ok (.lload 6, 2) := by decide +kernel
theorem dX6_times_57 : decode cX6_times 57 = .ok (.bipush 30, 2) := by decide +kernel
theorem dX6_times_59 : decode cX6_times 59 = .ok (.lshr, 1) := by decide +kernel
theorem dX6_times_60 : decode cX6_times 60 = .ok (.lstore_n 3, 1) := by decide +kernel
theorem dX6_times_61 : decode cX6_times 61 = .ok (.iinc 5 1, 3) := by decide +kernel
theorem dX6_times_64 : decode cX6_times 64 = .ok (.goto (-59), 3) := by decide +kernel
theorem dX6_times_67 : decode cX6_times 67 = .ok (.lload_n 3, 1) := by decide +kernel
theorem dX6_times_68 : decode cX6_times 68 = .ok (.lconst 0, 1) := by decide +kernel
theorem dX6_times_69 : decode cX6_times 69 = .ok (.lcmp, 1) := by decide +kernel
theorem dX6_times_70 : decode cX6_times 70 = .ok (.ifCond .le 31, 3) := by decide +kernel
theorem dX6_times_73 : decode cX6_times 73 = .ok (.aload_n 0, 1) := by decide +kernel
theorem dX6_times_74 : decode cX6_times 74 = .ok (.getfield 23, 3) := by decide +kernel
theorem dX6_times_77 : decode cX6_times 77 = .ok (.bipush 12, 2) := by decide +kernel
theorem dX6_times_79 : decode cX6_times 79 = .ok (.iload_n 1, 1) := by decide +kernel
theorem dX6_times_80 : decode cX6_times 80 = .ok (.imul, 1) := by decide +kernel
theorem dX6_times_81 : decode cX6_times 81 = .ok (.aload_n 0, 1) := by decide +kernel
theorem dX6_times_82 : decode cX6_times 82 = .ok (.getfield 26, 3) := by decide +kernel
theorem dX6_times_85 : decode cX6_times 85 = .ok (.iload_n 1, 1) := by decide +kernel
theorem dX6_times_86 : decode cX6_times 86 = .ok (.iaload, 1) := by decide +kernel
theorem dX6_times_87 : decode cX6_times 87 = .ok (.iadd, 1) := by decide +kernel
theorem dX6_times_88 : decode cX6_times 88 = .ok (.lload_n 3, 1) := by decide +kernel
theorem dX6_times_89 : decode cX6_times 89 = .ok (.l2i, 1) := by decide +kernel
theorem dX6_times_90 : decode cX6_times 90 = .ok (.iastore, 1) := by decide +kernel
theorem dX6_times_91 : decode cX6_times 91 = .ok (.aload_n 0, 1) := by decide +kernel
theorem dX6_times_92 : decode cX6_times 92 = .ok (.getfield 26, 3) := by decide +kernel
theorem dX6_times_95 : decode cX6_times 95 = .ok (.iload_n 1, 1) := by decide +kernel
theorem dX6_times_96 : decode cX6_times 96 = .ok (.dup2, 1) := by decide +kernel
theorem dX6_times_97 : decode cX6_times 97 = .ok (.iaload, 1) := by decide +kernel
theorem dX6_times_98 : decode cX6_times 98 = .ok (.iconst 1, 1) := by decide +kernel
theorem dX6_times_99 : decode cX6_times 99 = .ok (.iadd, 1) := by decide +kernel
theorem dX6_times_100 : decode cX6_times 100 = .ok (.iastore, 1) := by decide +kernel
theorem dX6_times_101 : decode cX6_times 101 = .ok (.aload_n 0, 1) := by decide +kernel
theorem dX6_times_102 : decode cX6_times 102 = .ok (.iload_n 1, 1) := by decide +kernel
theorem dX6_times_103 : decode cX6_times 103 = .ok (.invokevirtual 64, 3) := by decide +kernel
theorem dX6_times_106 : decode cX6_times 106 = .ok (.return_, 1) := by decide +kernel
set_option maxRecDepth 20000 in
theorem ggX6_adds_X6_trims : GoodIn wsX6_adds wsX6_trims := goodIn_r _ [8, 1, 2, 9, 10, 11, 12, 13, 14, 15, 16, 17, 18, 19, 20, 21, 22, 23, 24, 25, 26, 27, 28, 29, 30, 31, 32, 33, 34] (by decide +kernel) (by decide +kernel)
set_option maxRecDepth 20000 in
theorem gX6_adds_X6_trims : GoodIn wsX6_adds (wsV RX6 64 RX6 yX6_trims wsX6_trims) := goodIn_app (goodIn_of _ (by decide +kernel)) ggX6_adds_X6_trims
theorem dX6_adds_0 : decode cX6_adds 0 = .ok (.iconst 0, 1) := by decide +kernel
theorem dX6_adds_1 : decode cX6_adds 1 = .ok (.istore_n 3, 1) := by decide +kernel
theorem dX6_adds_2 : decode cX6_adds 2 = .ok (.aload_n 0, 1) := by decide +kernel
theorem dX6_adds_3 : decode cX6_adds 3 = .ok (.getfield 26, 3) := by decide +kernel
theorem dX6_adds_6 : decode cX6_adds 6 = .ok (.iload_n 1, 1) := by decide +kernel
theorem dX6_adds_7 : decode cX6_adds 7 = .ok (.iaload, 1) := by decide +kernel
theorem dX6_adds_8 : decode cX6_adds 8 = .ok (.aload_n 0, 1) := by decide +kernel
theorem dX6_adds_9 : decode cX6_adds 9 = .ok (.getfield 26, 3) := by decide +kernel
theorem dX6_adds_12 : decode cX6_adds 12 = .ok (.iload_n 2, 1) := by decide +kernel
theorem dX6_adds_13 : decode cX6_adds 13 = .ok (.iaload, 1) := by decide +kernel
theorem dX6_adds_14 : decode cX6_adds 14 = .ok (.if_icmp .le 12, 3) := by decide +kernel
theorem dX6_adds_17 : decode cX6_adds 17 = .ok (.aload_n 0, 1) := by decide +kernel
theorem dX6_adds_18 : decode cX6_adds 18 = .ok (.getfield 26, 3) := by decide +kernel
theorem dX6_adds_21 : decode cX6_adds 21 = .ok (.iload_n 1, 1) := by decide +kernel
theorem dX6_adds_22 : decode cX6_adds 22 = .ok (.iaload, 1) := by decide +kernel
theorem dX6_adds_23 : decode cX6_adds 23 = .ok (.goto 9, 3) := by decide +kernel
theorem dX6_adds_26 : decode cX6_adds 26 = .ok (.aload_n 0, 1) := by decide +kernel
theorem dX6_adds_27 : decode cX6_adds 27 = .ok (.getfield 26, 3) := by decide +kernel
theorem dX6_adds_30 : decode cX6_adds 30 = .ok (.iload_n 2, 1) := by decide +kernel
theorem dX6_adds_31 : decode cX6_adds 31 = .ok (.iaload, 1) := by decide +kernel
theorem dX6_adds_32 : decode cX6_adds 32 = .ok (.istore 4, 2) := by decide +kernel
theorem dX6_adds_34 : decode cX6_adds 34 = .ok (.iconst 0, 1) := by decide +kernel
theorem dX6_adds_35 : decode cX6_adds 35 = .ok (.istore 5, 2) := by decide +kernel
theorem dX6_adds_37 : decode cX6_adds 37 = .ok (.iload 5, 2) := by decide +kernel
theorem dX6_adds_39 : decode cX6_adds 39 = .ok (.iload 4, 2) := by decide +kernel
theorem dX6_adds_41 : decode cX6_adds 41 = .ok (.if_icmp .ge 61, 3) := by decide +kernel
theorem dX6_adds_44 : decode cX6_adds 44 = .ok (.aload_n 0, 1) := by decide +kernel
theorem dX6_adds_45 : decode cX6_adds 45 = .ok (.getfield 23, 3) := by decide +kernel
theorem dX6_adds_48 : decode cX6_adds 48 = .ok (.bipush 12, 2) := by decide +kernel
theorem dX6_adds_50 : decode cX6_adds 50 = .ok (.iload_n 1, 1) := by decide +kernel
theorem dX6_adds_51 : decode cX6_adds 51 = .ok (.imul, 1) := by decide +kernel
theorem dX6_adds_52 : decode cX6_adds 52 = .ok (.iload 5, 2) := by decide +kernel
theorem dX6_adds_54 : decode cX6_adds 54 = .ok (.iadd, 1) := by decide +kernel
theorem dX6_adds_55 : decode cX6_adds 55 = .ok (.iaload, 1) := by decide +kernel
theorem dX6_adds_56 : decode cX6_adds 56 = .ok (.aload_n 0, 1) := by decide +kernel
theorem dX6_adds_57 : decode cX6_adds 57 = .ok (.getfield 23, 3) := by decide +kernel
theorem dX6_adds_60 : decode cX6_adds 60 = .ok (.bipush 12, 2) := by decide +kernel
theorem dX6_adds_62 : decode cX6_adds 62 = .ok (.iload_n 2, 1) := by decide +kernel
theorem dX6_adds_63 : decode cX6_adds 63 = .ok (.imul, 1) := by decide +kernel
theorem dX6_adds_64 : decode cX6_adds 64 = .ok (.iload 5, 2) := by decide +kernel
theorem dX6_adds_66 : decode cX6_adds 66 = .ok (.iadd, 1) := by decide +kernel
theorem dX6_adds_67 : decode cX6_adds 67 = .ok (.iaload, 1) := by decide +kernel
theorem dX6_adds_68 : decode cX6_adds 68 = .ok (.iadd, 1) := by decide +kernel
theorem dX6_adds_69 : decode cX6_adds 69 = .ok (.iload_n 3, 1) := by decide +kernel
theorem dX6_adds_70 : decode cX6_adds 70 = .ok (.iadd, 1) := by decide +kernel
theorem dX6_adds_71 : decode cX6_adds 71 = .ok (.istore 6, 2) := by decide +kernel
theorem dX6_adds_73 : decode cX6_adds 73 = .ok (.aload_n 0, 1) := by decide +kernel
theorem dX6_adds_74 : decode cX6_adds 74 = .ok (.getfield 23, 3) := by decide +kernel
theorem dX6_adds_77 : decode cX6_adds 77 = .ok (.bipush 12, 2) := by decide +kernel
theorem dX6_adds_79 : decode cX6_adds 79 = .ok (.iload_n 1, 1) := by decide +kernel
theorem dX6_adds_80 : decode cX6_adds 80 = .ok (.imul, 1) := by decide +kernel
theorem dX6_adds_81 : decode cX6_adds 81 = .ok (.iload 5, 2) := by decide +kernel
theorem dX6_adds_83 : decode cX6_adds 83 = .ok (.iadd, 1) := by decide +kernel
theorem dX6_adds_84 : decode cX6_adds 84 = .ok (.iload 6, 2) := by decide +kernel
theorem dX6_adds_86 : decode cX6_adds 86 = .ok (.ldc 72, 2) := by decide +kernel
theorem dX6_adds_88 : decode cX6_adds 88 = .ok (.iand, 1) := by decide +kernel
theorem dX6_adds_89 : decode cX6_adds 89 = .ok (.iastore, 1) := by decide +kernel
theorem dX6_adds_90 : decode cX6_adds 90 = .ok (.iload 6, 2) := by decide +kernel
theorem dX6_adds_92 : decode cX6_adds 92 = .ok (.bipush 30, 2) := by decide +kernel
theorem dX6_adds_94 : decode cX6_adds 94 = .ok (.iushr, 1) := by decide +kernel
theorem dX6_adds_95 : decode cX6_adds 95 = .ok (.istore_n 3, 1) := by decide +kernel
theorem dX6_adds_96 : decode cX6_adds 96 = .ok (.iinc 5 1, 3) := by decide +kernel
theorem dX6_adds_99 : decode cX6_adds 99 = .ok (.goto (-62), 3) := by decide +kernel
theorem dX6_adds_102 : decode cX6_adds 102 = .ok (.aload_n 0, 1) := by decide +kernel
theorem dX6_adds_103 : decode cX6_adds 103 = .ok (.getfield 23, 3) := by decide +kernel
theorem dX6_adds_106 : decode cX6_adds 106 = .ok (.bipush 12, 2) := by decide +kernel
theorem dX6_adds_108 : decode cX6_adds 108 = .ok (.iload_n 1, 1) := by decide +kernel
theorem dX6_adds_109 : decode cX6_adds 109 = .ok (.imul, 1) := by decide +kernel
theorem dX6_adds_110 : decode cX6_adds 110 = .ok (.iload 4, 2) := by decide +kernel
theorem dX6_adds_112 : decode cX6_adds 112 = .ok (.iadd, 1) := by decide +kernel
theorem dX6_adds_113 : decode cX6_adds 113 = .ok (.iload_n 3, 1) := by decide +kernel
theorem dX6_adds_114 : decode cX6_adds 114 = .ok (.iastore, 1) := by decide +kernel
theorem dX6_adds_115 : decode cX6_adds 115 = .ok (.aload_n 0, 1) := by decide +kernel
theorem dX6_adds_116 : decode cX6_adds 116 = .ok (.getfield 26, 3) := by decide +kernel
theorem dX6_adds_119 : decode cX6_adds 119 = .ok (.iload_n 1, 1) := by decide +kernel
theorem dX6_adds_120 : decode cX6_adds 120 = .ok (.iload 4, 2) := by decide +kernel
theorem dX6_adds_122 : decode cX6_adds 122 = .ok (.iload_n 3, 1) := by decide +kernel
theorem dX6_adds_123 : decode cX6_adds 123 = .ok (.iadd, 1) := by decide +kernel
theorem dX6_adds_124 : decode cX6_adds 124 = .ok (.iastore, 1) := by decide +kernel
theorem dX6_adds_125 : decode cX6_adds 125 = .ok (.aload_n 0, 1) := by decide +kernel
theorem dX6_adds_126 : decode cX6_adds 126 = .ok (.iload_n 1, 1) := by decide +kernel
theorem dX6_adds_127 : decode cX6_adds 127 = .ok (.invokevirtual 64, 3) := by decide +kernel
theorem dX6_adds_130 : decode cX6_adds 130 = .ok (.return_, 1) := by decide +kernel
set_option maxRecDepth 20000 in
theorem ggX6_lessens_X6_trims : GoodIn wsX6_lessens wsX6_trims := goodIn_r _ [8, 1, 2, 9, 10, 11, 12, 13, 14, 15, 16, 17, 18, 19, 20, 21, 22, 23, 24, 25, 26, 27, 28, 29, 30, 31, 32, 33, 34] (by decide +kernel) (by decide +kernel)
set_option maxRecDepth 20000 in
theorem gX6_lessens_X6_trims : GoodIn wsX6_lessens (wsV RX6 64 RX6 yX6_trims wsX6_trims) := goodIn_app (goodIn_of _ (by decide +kernel)) ggX6_lessens_X6_trims
theorem dX6_lessens_0 : decode cX6_lessens 0 = .ok (.iconst 0, 1) := by decide +kernel
theorem dX6_lessens_1 : decode cX6_lessens 1 = .ok (.istore_n 3, 1) := by decide +kernel
theorem dX6_lessens_2 : decode cX6_lessens 2 = .ok (.iconst 0, 1) := by decide +kernel
theorem dX6_lessens_3 : decode cX6_lessens 3 = .ok (.istore 4, 2) := by decide +kernel
theorem dX6_lessens_5 : decode cX6_lessens 5 = .ok (.iload 4, 2) := by decide +kernel
theorem dX6_lessens_7 : decode cX6_lessens 7 = .ok (.aload_n 0, 1) := by decide +kernel
theorem dX6_lessens_8 : decode cX6_lessens 8 = .ok (.getfield 26, 3) := by decide +kernel
theorem dX6_lessens_11 : decode cX6_lessens 11 = .ok (.iload_n 1, 1) := by decide +kernel
theorem dX6_lessens_12 : decode cX6_lessens 12 = .ok (.iaload, 1) := by decide +kernel
theorem dX6_lessens_13 : decode cX6_lessens 13 = .ok (.if_icmp .ge 66, 3) := by decide +kernel
theorem dX6_lessens_16 : decode cX6_lessens 16 = .ok (.aload_n 0, 1) := by decide +kernel
theorem dX6_lessens_17 : decode cX6_lessens 17 = .ok (.getfield 23, 3) := by decide +kernel
theorem dX6_lessens_20 : decode cX6_lessens 20 = .ok (.bipush 12, 2) := by decide +kernel
theorem dX6_lessens_22 : decode cX6_lessens 22 = .ok (.iload_n 1, 1) := by decide +kernel
theorem dX6_lessens_23 : decode cX6_lessens 23 = .ok (.imul, 1) := by decide +kernel
theorem dX6_lessens_24 : decode cX6_lessens 24 = .ok (.iload 4, 2) := by decide +kernel
theorem dX6_lessens_26 : decode cX6_lessens 26 = .ok (.iadd, 1) := by decide +kernel
theorem dX6_lessens_27 : decode cX6_lessens 27 = .ok (.iaload, 1) := by decide +kernel
theorem dX6_lessens_28 : decode cX6_lessens 28 = .ok (.aload_n 0, 1) := by decide +kernel
theorem dX6_lessens_29 : decode cX6_lessens 29 = .ok (.getfield 23, 3) := by decide +kernel
theorem dX6_lessens_32 : decode cX6_lessens 32 = .ok (.bipush 12, 2) := by decide +kernel
theorem dX6_lessens_34 : decode cX6_lessens 34 = .ok (.iload_n 2, 1) := by decide +kernel
theorem dX6_lessens_35 : decode cX6_lessens 35 = .ok (.imul, 1) := by decide +kernel
theorem dX6_lessens_36 : decode cX6_lessens 36 = .ok (.iload 4, 2) := by decide +kernel
theorem dX6_lessens_38 : decode cX6_lessens 38 = .ok (.iadd, 1) := by decide +kernel
theorem dX6_lessens_39 : decode cX6_lessens 39 = .ok (.iaload, 1) := by decide +kernel
theorem dX6_lessens_40 : decode cX6_lessens 40 = .ok (.isub, 1) := by decide +kernel
theorem dX6_lessens_41 : decode cX6_lessens 41 = .ok (.iload_n 3, 1) := by decide +kernel
theorem dX6_lessens_42 : decode cX6_lessens 42 = .ok (.isub, 1) := by decide +kernel
theorem dX6_lessens_43 : decode cX6_lessens 43 = .ok (.istore 5, 2) := by decide +kernel
theorem dX6_lessens_45 : decode cX6_lessens 45 = .ok (.aload_n 0, 1) := by decide +kernel
theorem dX6_lessens_46 : decode cX6_lessens 46 = .ok (.getfield 23, 3) := by decide +kernel
theorem dX6_lessens_49 : decode cX6_lessens 49 = .ok (.bipush 12, 2) := by decide +kernel
theorem dX6_lessens_51 : decode cX6_lessens 51 = .ok (.iload_n 1, 1) := by decide +kernel
theorem dX6_lessens_52 : decode cX6_lessens 52 = .ok (.imul, 1) := by decide +kernel
theorem dX6_lessens_53 : decode cX6_lessens 53 = .ok (.iload 4, 2) := by decide +kernel
theorem dX6_lessens_55 : decode cX6_lessens 55 = .ok (.iadd, 1) := by decide +kernel
theorem dX6_lessens_56 : decode cX6_lessens 56 = .ok (.iload 5, 2) := by decide +kernel
theorem dX6_lessens_58 : decode cX6_lessens 58 = .ok (.ldc 72, 2) := by decide +kernel
theorem dX6_lessens_60 : decode cX6_lessens 60 = .ok (.iand, 1) := by decide +kernel
theorem dX6_lessens_61 : decode cX6_lessens 61 = .ok (.iastore, 1) := by decide +kernel
theorem dX6_lessens_62 : decode cX6_lessens 62 = .ok (.iload 5, 2) := by decide +kernel
theorem dX6_lessens_64 : decode cX6_lessens 64 = .ok (.ifCond .ge 7, 3) := by decide +kernel
theorem dX6_lessens_67 : decode cX6_lessens 67 = .ok (.iconst 1, 1) := by decide +kernel
theorem dX6_lessens_68 : decode cX6_lessens 68 = .ok (.goto 4, 3) := by decide +kernel
theorem dX6_lessens_71 : decode cX6_lessens 71 = .ok (.iconst 0, 1) := by decide +kernel
theorem dX6_lessens_72 : decode cX6_lessens 72 = .ok (.istore_n 3, 1) := by decide +kernel
theorem dX6_lessens_73 : decode cX6_lessens 73 = .ok (.iinc 4 1, 3) := by decide +kernel
theorem dX6_lessens_76 : decode cX6_lessens 76 = .ok (.goto (-71), 3) := by decide +kernel
theorem dX6_lessens_79 : decode cX6_lessens 79 = .ok (.aload_n 0, 1) := by decide +kernel
theorem dX6_lessens_80 : decode cX6_lessens 80 = .ok (.iload_n 1, 1) := by decide +kernel
theorem dX6_lessens_81 : decode cX6_lessens 81 = .ok (.invokevirtual 64, 3) := by decide +kernel
theorem dX6_lessens_84 : decode cX6_lessens 84 = .ok (.return_, 1) := by decide +kernel
theorem dX6_against_0 : decode cX6_against 0 = .ok (.aload_n 0, 1) := by decide +kernel
theorem dX6_against_1 : decode cX6_against 1 = .ok (.getfield 26, 3) := by decide +kernel
theorem dX6_against_4 : decode cX6_against 4 = .ok (.iload_n 1, 1) := by decide +kernel
theorem dX6_against_5 : decode cX6_against 5 = .ok (.iaload, 1) := by decide +kernel
theorem dX6_against_6 : decode cX6_against 6 = .ok (.aload_n 0, 1) := by decide +kernel
theorem dX6_against_7 : decode cX6_against 7 = .ok (.getfield 26, 3) := by decide +kernel
theorem dX6_against_10 : decode cX6_against 10 = .ok (.iload_n 2, 1) := by decide +kernel
theorem dX6_against_11 : decode cX6_against 11 = .ok (.iaload, 1) := by decide +kernel
theorem dX6_against_12 : decode cX6_against 12 = .ok (.if_icmp .eq 24, 3) := by decide +kernel
theorem dX6_against_15 : decode cX6_against 15 = .ok (.aload_n 0, 1) := by decide +kernel
theorem dX6_against_16 : decode cX6_against 16 = .ok (.getfield 26, 3) := by decide +kernel
theorem dX6_against_19 : decode cX6_against 19 = .ok (.iload_n 1, 1) := by decide +kernel
theorem dX6_against_20 : decode cX6_against 20 = .ok (.iaload, 1) := by decide +kernel
theorem dX6_against_21 : decode cX6_against 21 = .ok (.aload_n 0, 1) := by decide +kernel
theorem dX6_against_22 : decode cX6_against 22 = .ok (.getfield 26, 3) := by decide +kernel
theorem dX6_against_25 : decode cX6_against 25 = .ok (.iload_n 2, 1) := by decide +kernel
theorem dX6_against_26 : decode cX6_against 26 = .ok (.iaload, 1) := by decide +kernel
theorem dX6_against_27 : decode cX6_against 27 = .ok (.if_icmp .ge 7, 3) := by decide +kernel
theorem dX6_against_30 : decode cX6_against 30 = .ok (.iconst (-1), 1) := by decide +kernel
theorem dX6_against_31 : decode cX6_against 31 = .ok (.goto 4, 3) := by decide +kernel
theorem dX6_against_34 : decode cX6_against 34 = .ok (.iconst 1, 1) := by decide +kernel
theorem dX6_against_35 : decode cX6_against 35 = .ok (.ireturn, 1) := by decide +kernel
theorem dX6_against_36 : decode cX6_against 36 = .ok (.aload_n 0, 1) := by decide +kernel
theorem dX6_against_37 : decode cX6_against 37 = .ok (.getfield 26, 3) := by decide +kernel
theorem dX6_against_40 : decode cX6_against 40 = .ok (.iload_n 1, 1) := by decide +kernel
theorem dX6_against_41 : decode cX6_against 41 = .ok (.iaload, 1) := by decide +kernel
theorem dX6_against_42 : decode cX6_against 42 = .ok (.iconst 1, 1) := by decide +kernel
theorem dX6_against_43 : decode cX6_against 43 = .ok (.isub, 1) := by decide +kernel
theorem dX6_against_44 : decode cX6_against 44 = .ok (.istore_n 3, 1) := by decide +kernel
theorem dX6_against_45 : decode cX6_against 45 = .ok (.iload_n 3, 1) := by decide +kernel
theorem dX6_against_46 : decode cX6_against 46 = .ok (.ifCond .lt 65, 3) := by decide +kernel
theorem dX6_against_49 : decode cX6_against 49 = .ok (.aload_n 0, 1) := by decide +kernel
theorem dX6_against_50 : decode cX6_against 50 = .ok (.getfield 23, 3) := by decide +kernel
theorem dX6_against_53 : decode cX6_against 53 = .ok (.bipush 12, 2) := by decide +kernel
theorem dX6_against_55 : decode cX6_against 55 = .ok (.iload_n 1, 1) := by decide +kernel
theorem dX6_against_56 : decode cX6_against 56 = .ok (.imul, 1) := by decide +kernel
theorem dX6_against_57 : decode cX6_against 57 = .ok (.iload_n 3, 1) := by decide +kernel
theorem dX6_against_58 : decode cX6_against 58 = .ok (.iadd, 1) := by decide +kernel
theorem dX6_against_59 : decode cX6_against 59 = .ok (.iaload, 1) := by decide +kernel
theorem dX6_against_60 : decode cX6_against 60 = .ok (.aload_n 0, 1) := by decide +kernel
theorem dX6_against_61 : decode cX6_against 61 = .ok (.getfield 23, 3) := by decide +kernel
theorem dX6_against_64 : decode cX6_against 64 = .ok (.bipush 12, 2) := by decide +kernel
theorem dX6_against_66 : decode cX6_against 66 = .ok (.iload_n 2, 1) := by decide +kernel
theorem dX6_against_67 : decode cX6_against 67 = .ok (.imul, 1) := by decide +kernel
theorem dX6_against_68 : decode cX6_against 68 = .ok (.iload_n 3, 1) := by decide +kernel
theorem dX6_against_69 : decode cX6_against 69 = .ok (.iadd, 1) := by decide +kernel
theorem dX6_against_70 : decode cX6_against 70 = .ok (.iaload, 1) := by decide +kernel
theorem dX6_against_71 : decode cX6_against 71 = .ok (.if_icmp .eq 34, 3) := by decide +kernel
theorem dX6_against_74 : decode cX6_against 74 = .ok (.aload_n 0, 1) := by decide +kernel
theorem dX6_against_75 : decode cX6_against 75 = .ok (.getfield 23, 3) := by decide +kernel
theorem dX6_against_78 : decode cX6_against 78 = .ok (.bipush 12, 2) := by decide +kernel
theorem dX6_against_80 : decode cX6_against 80 = .ok (.iload_n 1, 1) := by decide +kernel
theorem dX6_against_81 : decode cX6_against 81 = .ok (.imul, 1) := by decide +kernel
theorem dX6_against_82 : decode cX6_against 82 = .ok (.iload_n 3, 1) := by decide +kernel
theorem dX6_against_83 : decode cX6_against 83 = .ok (.iadd, 1) := by decide +kernel
theorem dX6_against_84 : decode cX6_against 84 = .ok (.iaload, 1) := by decide +kernel
theorem dX6_against_85 : decode cX6_against 85 = .ok (.aload_n 0, 1) := by decide +kernel
theorem dX6_against_86 : decode cX6_against 86 = .ok (.getfield 23, 3) := by decide +kernel
theorem dX6_against_89 : decode cX6_against 89 = .ok (.bipush 12, 2) := by decide +kernel
theorem dX6_against_91 : decode cX6_against 91 = .ok (.iload_n 2, 1) := by decide +kernel
theorem dX6_against_92 : decode cX6_against 92 = .ok (.imul, 1) := by decide +kernel
theorem dX6_against_93 : decode cX6_against 93 = .ok (.iload_n 3, 1) := by decide +kernel
theorem dX6_against_94 : decode cX6_against 94 = .ok (.iadd, 1) := by decide +kernel
theorem dX6_against_95 : decode cX6_against 95 = .ok (.iaload, 1) := by decide +kernel
theorem dX6_against_96 : decode cX6_against 96 = .ok (.if_icmp .ge 7, 3) := by decide +kernel
theorem dX6_against_99 : decode cX6_against 99 = .ok (.iconst (-1), 1) := by decide +kernel
theorem dX6_against_100 : decode cX6_against 100 = .ok (.goto 4, 3) := by decide +kernel
theorem dX6_against_103 : decode cX6_against 103 = .ok (.iconst 1, 1) := by decide +kernel
theorem dX6_against_104 : decode cX6_against 104 = .ok (.ireturn, 1) := by decide +kernel
theorem dX6_against_105 : decode cX6_against 105 = .ok (.iinc 3 (-1), 3) := by decide +kernel
theorem dX6_against_108 : decode cX6_against 108 = .ok (.goto (-63), 3) := by decide +kernel
theorem dX6_against_111 : decode cX6_against 111 = .ok (.iconst 0, 1) := by decide +kernel
theorem dX6_against_112 : decode cX6_against 112 = .ok (.ireturn, 1) := by decide +kernel
theorem dX6_isEven_0 : decode cX6_isEven 0 = .ok (.aload_n 0, 1) := by decide +kernel
theorem dX6_isEven_1 : decode cX6_isEven 1 = .ok (.getfield 23, 3) := by decide +kernel
theorem dX6_isEven_4 : decode cX6_isEven 4 = .ok (.bipush 12, 2) := by decide +kernel
theorem dX6_isEven_6 : decode cX6_isEven 6 = .ok (.iload_n 1, 1) := by decide +kernel
theorem dX6_isEven_7 : decode cX6_isEven 7 = .ok (.imul, 1) := by decide +kernel
theorem dX6_isEven_8 : decode cX6_isEven 8 = .ok (.iaload, 1) := by decide +kernel
theorem dX6_isEven_9 : decode cX6_isEven 9 = .ok (.iconst 1, 1) := by decide +kernel
theorem dX6_isEven_10 : decode cX6_isEven 10 = .ok (.iand, 1) := by decide +kernel
theorem dX6_isEven_11 : decode cX6_isEven 11 = .ok (.ifCond .ne 7, 3) := by decide +kernel
theorem dX6_isEven_14 : decode cX6_isEven 14 = .ok (.iconst 1, 1) := by decide +kernel
theorem dX6_isEven_15 : decode cX6_isEven 15 = .ok (.goto 4, 3) := by decide +kernel
theorem dX6_isEven_18 : decode cX6_isEven 18 = .ok (.iconst 0, 1) := by decide +kernel
theorem dX6_isEven_19 : decode cX6_isEven 19 = .ok (.ireturn, 1) := by decide +kernel
set_option maxRecDepth 20000 in
theorem ggX6_halves_X6_trims : GoodIn wsX6_halves wsX6_trims := goodIn_r _ [7, 1, 2, 8, 9, 10, 11, 12, 13, 14, 15, 16, 17, 18, 19, 20, 21, 22, 23, 24, 25, 26, 27, 28, 29, 30, 31, 32, 33] (by decide +kernel) (by decide +kernel)
set_option maxRecDepth 20000 in
theorem gX6_halves_X6_trims : GoodIn wsX6_halves (wsV RX6 64 RX6 yX6_trims wsX6_trims) := goodIn_app (goodIn_of _ (by decide +kernel)) ggX6_halves_X6_trims
theorem dX6_halves_0 : decode cX6_halves 0 = .ok (.iconst 0, 1) := by decide +kernel
theorem dX6_halves_1 : decode cX6_halves 1 = .ok (.istore_n 2, 1) := by decide +kernel
theorem dX6_halves_2 : decode cX6_halves 2 = .ok (.iload_n 2, 1) := by decide +kernel
theorem dX6_halves_3 : decode cX6_halves 3 = .ok (.aload_n 0, 1) := by decide +kernel
theorem dX6_halves_4 : decode cX6_halves 4 = .ok (.getfield 26, 3) := by decide +kernel
theorem dX6_halves_7 : decode cX6_halves 7 = .ok (.iload_n 1, 1) := by decide +kernel
theorem dX6_halves_8 : decode cX6_halves 8 = .ok (.iaload, 1) := by decide +kernel
theorem dX6_halves_9 : decode cX6_halves 9 = .ok (.if_icmp .ge 70, 3) := by decide +kernel
theorem dX6_halves_12 : decode cX6_halves 12 = .ok (.iload_n 2, 1) := by decide +kernel
theorem dX6_halves_13 : decode cX6_halves 13 = .ok (.iconst 1, 1) := by decide +kernel
theorem dX6_halves_14 : decode cX6_halves 14 = .ok (.iadd, 1) := by decide +kernel
theorem dX6_halves_15 : decode cX6_halves 15 = .ok (.aload_n 0, 1) := by decide +kernel
theorem dX6_halves_16 : decode cX6_halves 16 = .ok (.getfield 26, 3) := by decide +kernel
theorem dX6_halves_19 : decode cX6_halves 19 = .ok (.iload_n 1, 1) := by decide +kernel
theorem dX6_halves_20 : decode cX6_halves 20 = .ok (.iaload, 1) := by decide +kernel
theorem dX6_halves_21 : decode cX6_halves 21 = .ok (.if_icmp .ge 21, 3) := by decide +kernel
theorem dX6_halves_24 : decode cX6_halves 24 = .ok (.aload_n 0, 1) := by decide +kernel
theorem dX6_halves_25 : decode cX6_halves 25 = .ok (.getfield 23, 3) := by decide +kernel
theorem dX6_halves_28 : decode cX6_halves 28 = .ok (.bipush 12, 2) := by decide +kernel
theorem dX6_halves_30 : decode cX6_halves 30 = .ok (.iload_n 1, 1) := by decide +kernel
theorem dX6_halves_31 : decode cX6_halves 31 = .ok (.imul, 1) := by decide +kernel
theorem dX6_halves_32 : decode cX6_halves 32 = .ok (.iload_n 2, 1) := by decide +kernel
theorem dX6_halves_33 : decode cX6_halves 33 = .ok (.iadd, 1) := by decide +kernel
theorem dX6_halves_34 : decode cX6_halves 34 = .ok (.iconst 1, 1) := by decide +kernel
theorem dX6_halves_35 : decode cX6_halves 35 = .ok (.iadd, 1) := by decide +kernel
theorem dX6_halves_36 : decode cX6_halves 36 = .ok (.iaload, 1) := by decide +kernel
theorem dX6_halves_37 : decode cX6_halves 37 = .ok (.iconst 1, 1) := by decide +kernel
theorem dX6_halves_38 : decode cX6_halves 38 = .ok (.iand, 1) := by decide +kernel
theorem dX6_halves_39 : decode cX6_halves 39 = .ok (.goto 4, 3) := by decide +kernel
theorem dX6_halves_42 : decode cX6_halves 42 = .ok (.iconst 0, 1) := by decide +kernel
theorem dX6_halves_43 : decode cX6_halves 43 = .ok (.istore_n 3, 1) := by decide +kernel
theorem dX6_halves_44 : decode cX6_halves 44 = .ok (.aload_n 0, 1) := by decide +kernel
theorem dX6_halves_45 : decode cX6_halves 45 = .ok (.getfield 23, 3) := by decide +kernel
theorem dX6_halves_48 : decode cX6_halves 48 = .ok (.bipush 12, 2) := by decide +kernel
theorem dX6_halves_50 : decode cX6_halves 50 = .ok (.iload_n 1, 1) := by decide +kernel
theorem dX6_halves_51 : decode cX6_halves 51 = .ok (.imul, 1) := by decide +kernel
theorem dX6_halves_52 : decode cX6_halves 52 = .ok (.iload_n 2, 1) := by decide +kernel
theorem dX6_halves_53 : decode cX6_halves 53 = .ok (.iadd, 1) := by decide +kernel
theorem dX6_halves_54 : decode cX6_halves 54 = .ok (.aload_n 0, 1) := by decide +kernel
theorem dX6_halves_55 : decode cX6_halves 55 = .ok (.getfield 23, 3) := by decide +kernel
theorem dX6_halves_58 : decode cX6_halves 58 = .ok (.bipush 12, 2) := by decide +kernel
theorem dX6_halves_60 : decode cX6_halves 60 = .ok (.iload_n 1, 1) := by decide +kernel
theorem dX6_halves_61 : decode cX6_halves 61 = .ok (.imul, 1) := by decide +kernel
theorem dX6_halves_62 : decode cX6_halves 62 = .ok (.iload_n 2, 1) := by decide +kernel
theorem dX6_halves_63 : decode cX6_halves 63 = .ok (.iadd, 1) := by decide +kernel
theorem dX6_halves_64 : decode cX6_halves 64 = .ok (.iaload, 1) := by decide +kernel
theorem dX6_halves_65 : decode cX6_halves 65 = .ok (.iconst 1, 1) := by decide +kernel
theorem dX6_halves_66 : decode cX6_halves 66 = .ok (.ishr, 1) := by decide +kernel
theorem dX6_halves_67 : decode cX6_halves 67 = .ok (.iload_n 3, 1) := by decide +kernel
theorem dX6_halves_68 : decode cX6_halves 68 = .ok (.bipush 29, 2) := by decide +kernel
theorem dX6_halves_70 : decode cX6_halves 70 = .ok (.ishl, 1) := by decide +kernel
theorem dX6_halves_71 : decode cX6_halves 71 = .ok (.ior, 1) := by decide +kernel
theorem dX6_halves_72 : decode cX6_halves 72 = .ok (.iastore, 1) := by decide +kernel
theorem dX6_halves_73 : decode cX6_halves 73 = .ok (.iinc 2 1, 3) := by decide +kernel
theorem dX6_halves_76 : decode cX6_halves 76 = .ok (.goto (-74), 3) := by decide +kernel
theorem dX6_halves_79 : decode cX6_halves 79 = .ok (.aload_n 0, 1) := by decide +kernel
theorem dX6_halves_80 : decode cX6_halves 80 = .ok (.iload_n 1, 1) := by decide +kernel
theorem dX6_halves_81 : decode cX6_halves 81 = .ok (.invokevirtual 64, 3) := by decide +kernel
theorem dX6_halves_84 : decode cX6_halves 84 = .ok (.return_, 1) := by decide +kernel
set_option maxRecDepth 20000 in
theorem ggX6_lowers_X6_sets : GoodIn wsX6_lowers wsX6_sets := goodIn_r _ [6, 7, 8, 1, 9, 10, 11, 5, 12, 38, 39, 40, 41, 42, 43, 44, 45, 46, 47, 48, 49, 50, 51, 52, 53, 54, 55, 56, 57, 58, 59, 60, 61, 62, 63] (by decide +kernel) (by decide +kernel)
set_option maxRecDepth 20000 in
theorem gX6_lowers_X6_sets : GoodIn wsX6_lowers (wsV RX6 54 RX6 yX6_sets wsX6_sets) := goodIn_app (goodIn_of _ (by decide +kernel)) ggX6_lowers_X6_sets
set_option maxRecDepth 20000 in
theorem ggX6_lowers_X6_isEven : GoodIn wsX6_lowers wsX6_isEven := goodIn_r _ [16, 7, 38, 39, 40, 41, 42, 43, 44, 45, 46, 47, 48, 49, 50, 51, 52, 53, 54, 55, 56, 57, 58, 59, 60, 61, 62, 63] (by decide +kernel) (by decide +kernel)
set_option maxRecDepth 20000 in
theorem gX6_lowers_X6_isEven : GoodIn wsX6_lowers (wsV RX6 73 RX6 yX6_isEven wsX6_isEven) := goodIn_app (goodIn_of _ (by decide +kernel)) ggX6_lowers_X6_isEven
set_option maxRecDepth 20000 in
theorem ggX6_lowers_X6_halves : GoodIn wsX6_lowers wsX6_halves := goodIn_r _ [20, 1, 7, 9, 10, 11, 5, 12, 38, 39, 40, 41, 42, 43, 44, 45, 46, 47, 48, 49, 50, 51, 52, 53, 54, 55, 56, 57, 58, 59, 60, 61, 62, 63] (by decide +kernel) (by decide +kernel)
set_option maxRecDepth 20000 in
theorem gX6_lowers_X6_halves : GoodIn wsX6_lowers (wsV RX6 77 RX6 yX6_halves wsX6_halves) := goodIn_app (goodIn_of _ (by decide +kernel)) ggX6_lowers_X6_halves
set_option maxRecDepth 20000 in
theorem ggX6_lowers_X6_copies : GoodIn wsX6_lowers wsX6_copies := goodIn_r _ [24, 7, 1, 38, 39, 40, 41, 42, 43, 44, 45, 46, 47, 48, 49, 50, 51, 52, 53, 54, 55, 56, 57, 58, 59, 60, 61, 62, 63] (by decide +kernel) (by decide +kernel)
set_option maxRecDepth 20000 in
theorem gX6_lowers_X6_copies : GoodIn wsX6_lowers (wsV RX6 68 RX6 yX6_copies wsX6_copies) := goodIn_app (goodIn_of _ (by decide +kernel)) ggX6_lowers_X6_copies
set_option maxRecDepth 20000 in
theorem ggX6_lowers_X6_against : GoodIn wsX6_lowers wsX6_against := goodIn_r _ [28, 1, 7, 38, 39, 40, 41, 42, 43, 44, 45, 46, 47, 48, 49, 50, 51, 52, 53, 54, 55, 56, 57, 58, 59, 60, 61, 62, 63] (by decide +kernel) (by decide +kernel)
set_option maxRecDepth 20000 in
theorem gX6_lowers_X6_against : GoodIn wsX6_lowers (wsV RX6 80 RX6 yX6_against wsX6_against) := goodIn_app (goodIn_of _ (by decide +kernel)) ggX6_lowers_X6_against
set_option maxRecDepth 20000 in
theorem ggX6_lowers_X6_lessens : GoodIn wsX6_lowers wsX6_lessens := goodIn_r _ [32, 1, 7, 33, 9, 10, 11, 5, 12, 38, 39, 40, 41, 42, 43, 44, 45, 46, 47, 48, 49, 50, 51, 52, 53, 54, 55, 56, 57, 58, 59, 60, 61, 62, 63] (by decide +kernel) (by decide +kernel)
set_option maxRecDepth 20000 in
theorem gX6_lowers_X6_lessens : GoodIn wsX6_lowers (wsV RX6 83 RX6 yX6_lessens wsX6_lessens) := goodIn_app (goodIn_of _ (by decide +kernel)) ggX6_lowers_X6_lessens
set_option maxRecDepth 20000 in
theorem ggX6_lowers_X6_parts : GoodIn wsX6_lowers wsX6_parts := goodIn_r _ [37, 7, 1, 33, 8, 9, 10, 11, 5, 12, 38, 39, 40, 41, 42, 43, 44, 45, 46, 47, 48, 49, 50, 51, 52, 53, 54, 55, 56, 57, 58, 59, 60, 61, 62, 63] (by decide +kernel) (by decide +kernel)
set_option maxRecDepth 20000 in
theorem gX6_lowers_X6_parts : GoodIn wsX6_lowers (wsV RX6 86 RX6 yX6_parts wsX6_parts) := goodIn_app (goodIn_of _ (by decide +kernel)) ggX6_lowers_X6_parts
theorem dX6_lowers_0 : decode cX6_lowers 0 = .ok (.aload_n 0, 1) := by decide +kernel
theorem dX6_lowers_1 : decode cX6_lowers 1 = .ok (.getfield 26, 3) := by decide +kernel
theorem dX6_lowers_4 : decode cX6_lowers 4 = .ok (.iconst 0, 1) := by decide +kernel
theorem dX6_lowers_5 : decode cX6_lowers 5 = .ok (.iaload, 1) := by decide +kernel
theorem dX6_lowers_6 : decode cX6_lowers 6 = .ok (.ifCond .ne 10, 3) := by decide +kernel
theorem dX6_lowers_9 : decode cX6_lowers 9 = .ok (.aload_n 0, 1) := by decide +kernel
theorem dX6_lowers_10 : decode cX6_lowers 10 = .ok (.iconst 1, 1) := by decide +kernel
theorem dX6_lowers_11 : decode cX6_lowers 11 = .ok (.lconst 1, 1) := by decide +kernel
theorem dX6_lowers_12 : decode cX6_lowers 12 = .ok (.invokevirtual 54, 3) := by decide +kernel
theorem dX6_lowers_15 : decode cX6_lowers 15 = .ok (.return_, 1) := by decide +kernel
theorem dX6_lowers_16 : decode cX6_lowers 16 = .ok (.aload_n 0, 1) := by decide +kernel
theorem dX6_lowers_17 : decode cX6_lowers 17 = .ok (.iconst 0, 1) := by decide +kernel
theorem dX6_lowers_18 : decode cX6_lowers 18 = .ok (.invokevirtual 73, 3) := by decide +kernel
theorem dX6_lowers_21 : decode cX6_lowers 21 = .ok (.ifCond .eq 24, 3) := by decide +kernel
theorem dX6_lowers_24 : decode cX6_lowers 24 = .ok (.aload_n 0, 1) := by decide +kernel
theorem dX6_lowers_25 : decode cX6_lowers 25 = .ok (.iconst 1, 1) := by decide +kernel
theorem dX6_lowers_26 : decode cX6_lowers 26 = .ok (.invokevirtual 73, 3) := by decide +kernel
theorem dX6_lowers_29 : decode cX6_lowers 29 = .ok (.ifCond .eq 16, 3) := by decide +kernel
theorem dX6_lowers_32 : decode cX6_lowers 32 = .ok (.aload_n 0, 1) := by decide +kernel
theorem dX6_lowers_33 : decode cX6_lowers 33 = .ok (.iconst 0, 1) := by decide +kernel
theorem dX6_lowers_34 : decode cX6_lowers 34 = .ok (.invokevirtual 77, 3) := by decide +kernel
theorem dX6_lowers_37 : decode cX6_lowers 37 = .ok (.aload_n 0, 1) := by decide +kernel
theorem dX6_lowers_38 : decode cX6_lowers 38 = .ok (.iconst 1, 1) := by decide +kernel
theorem dX6_lowers_39 : decode cX6_lowers 39 = .ok (.invokevirtual 77, 3) := by decide +kernel
theorem dX6_lowers_42 : decode cX6_lowers 42 = .ok (.goto (-26), 3) := by decide +kernel
theorem dX6_lowers_45 : decode cX6_lowers 45 = .ok (.aload_n 0, 1) := by decide +kernel
theorem dX6_lowers_46 : decode cX6_lowers 46 = .ok (.iconst 2, 1) := by decide +kernel
theorem dX6_lowers_47 : decode cX6_lowers 47 = .ok (.iconst 0, 1) := by decide +kernel
theorem dX6_lowers_48 : decode cX6_lowers 48 = .ok (.invokevirtual 68, 3) := by decide +kernel
theorem dX6_lowers_51 : decode cX6_lowers 51 = .ok (.aload_n 0, 1) := by decide +kernel
theorem dX6_lowers_52 : decode cX6_lowers 52 = .ok (.iconst 3, 1) := by decide +kernel
theorem dX6_lowers_53 : decode cX6_lowers 53 = .ok (.iconst 1, 1) := by decide +kernel
theorem dX6_lowers_54 : decode cX6_lowers 54 = .ok (.invokevirtual 68, 3) := by decide +kernel
theorem dX6_lowers_57 : decode cX6_lowers 57 = .ok (.aload_n 0, 1) := by decide +kernel
theorem dX6_lowers_58 : decode cX6_lowers 58 = .ok (.getfield 26, 3) := by decide +kernel
theorem dX6_lowers_61 : decode cX6_lowers 61 = .ok (.iconst 2, 1) := by decide +kernel
theorem dX6_lowers_62 : decode cX6_lowers 62 = .ok (.iaload, 1) := by decide +kernel
theorem dX6_lowers_63 : decode cX6_lowers 63 = .ok (.ifCond .le 82, 3) := by decide +kernel
theorem dX6_lowers_66 : decode cX6_lowers 66 = .ok (.aload_n 0, 1) := by decide +kernel
theorem dX6_lowers_67 : decode cX6_lowers 67 = .ok (.iconst 2, 1) := by decide +kernel
theorem dX6_lowers_68 : decode cX6_lowers 68 = .ok (.invokevirtual 73, 3) := by decide +kernel
theorem dX6_lowers_71 : decode cX6_lowers 71 = .ok (.ifCond .eq 11, 3) := by decide +kernel
theorem dX6_lowers_74 : decode cX6_lowers 74 = .ok (.aload_n 0, 1) := by decide +kernel
theorem dX6_lowers_75 : decode cX6_lowers 75 = .ok (.iconst 2, 1) := by decide +kernel
theorem dX6_lowers_76 : decode cX6_lowers 76 = .ok (.invokevirtual 77, 3) := by decide +kernel
theorem dX6_lowers_79 : decode cX6_lowers 79 = .ok (.goto (-13), 3) := by decide +kernel
theorem dX6_lowers_82 : decode cX6_lowers 82 = .ok (.aload_n 0, 1) := by decide +kernel
theorem dX6_lowers_83 : decode cX6_lowers 83 = .ok (.iconst 3, 1) := by decide +kernel
theorem dX6_lowers_84 : decode cX6_lowers 84 = .ok (.invokevirtual 73, 3) := by decide +kernel
theorem dX6_lowers_87 : decode cX6_lowers 87 = .ok (.ifCond .eq 11, 3) := by decide +kernel
theorem dX6_lowers_90 : decode cX6_lowers 90 = .ok (.aload_n 0, 1) := by decide +kernel
theorem dX6_lowers_91 : decode cX6_lowers 91 = .ok (.iconst 3, 1) := by decide +kernel
theorem dX6_lowers_92 : decode cX6_lowers 92 = .ok (.invokevirtual 77, 3) := by decide +kernel
theorem dX6_lowers_95 : decode cX6_lowers 95 = .ok (.goto (-13), 3) := by decide +kernel
theorem dX6_lowers_98 : decode cX6_lowers 98 = .ok (.aload_n 0, 1) := by decide +kernel
theorem dX6_lowers_99 : decode cX6_lowers 99 = .ok (.iconst 2, 1) := by decide +kernel
theorem dX6_lowers_100 : decode cX6_lowers 100 = .ok (.iconst 3, 1) := by decide +kernel
theorem dX6_lowers_101 : decode cX6_lowers 101 = .ok (.invokevirtual 80, 3) := by decide +kernel
theorem dX6_lowers_104 : decode cX6_lowers 104 = .ok (.ifCond .lt 7, 3) := by decide +kernel
theorem dX6_lowers_107 : decode cX6_lowers 107 = .ok (.iconst 2, 1) := by decide +kernel
theorem dX6_lowers_108 : decode cX6_lowers 108 = .ok (.goto 4, 3) := by decide +kernel
theorem dX6_lowers_111 : decode cX6_lowers 111 = .ok (.iconst 3, 1) := by decide +kernel
theorem dX6_lowers_112 : decode cX6_lowers 112 = .ok (.istore_n 1, 1) := by decide +kernel
theorem dX6_lowers_113 : decode cX6_lowers 113 = .ok (.aload_n 0, 1) := by decide +kernel
theorem dX6_lowers_114 : decode cX6_lowers 114 = .ok (.iload_n 1, 1) := by decide +kernel
theorem dX6_lowers_115 : decode cX6_lowers 115 = .ok (.iconst 5, 1) := by decide +kernel
theorem dX6_lowers_116 : decode cX6_lowers 116 = .ok (.iload_n 1, 1) := by decide +kernel
theorem dX6_lowers_117 : decode cX6_lowers 117 = .ok (.isub, 1) := by decide +kernel
theorem dX6_lowers_118 : decode cX6_lowers 118 = .ok (.invokevirtual 83, 3) := by decide +kernel
theorem dX6_lowers_121 : decode cX6_lowers 121 = .ok (.aload_n 0, 1) := by decide +kernel
theorem dX6_lowers_122 : decode cX6_lowers 122 = .ok (.getfield 26, 3) := by decide +kernel
theorem dX6_lowers_125 : decode cX6_lowers 125 = .ok (.iconst 3, 1) := by decide +kernel
theorem dX6_lowers_126 : decode cX6_lowers 126 = .ok (.iaload, 1) := by decide +kernel
theorem dX6_lowers_127 : decode cX6_lowers 127 = .ok (.ifCond .ne 15, 3) := by decide +kernel
theorem dX6_lowers_130 : decode cX6_lowers 130 = .ok (.aload_n 0, 1) := by decide +kernel
theorem dX6_lowers_131 : decode cX6_lowers 131 = .ok (.iconst 3, 1) := by decide +kernel
theorem dX6_lowers_132 : decode cX6_lowers 132 = .ok (.iconst 2, 1) := by decide +kernel
theorem dX6_lowers_133 : decode cX6_lowers 133 = .ok (.invokevirtual 68, 3) := by decide +kernel
theorem dX6_lowers_136 : decode cX6_lowers 136 = .ok (.aload_n 0, 1) := by decide +kernel
theorem dX6_lowers_137 : decode cX6_lowers 137 = .ok (.iconst 2, 1) := by decide +kernel
theorem dX6_lowers_138 : decode cX6_lowers 138 = .ok (.lconst 0, 1) := by decide +kernel
theorem dX6_lowers_139 : decode cX6_lowers 139 = .ok (.invokevirtual 54, 3) := by decide +kernel
theorem dX6_lowers_142 : decode cX6_lowers 142 = .ok (.goto (-85), 3) := by decide +kernel
theorem dX6_lowers_145 : decode cX6_lowers 145 = .ok (.aload_n 0, 1) := by decide +kernel
theorem dX6_lowers_146 : decode cX6_lowers 146 = .ok (.iconst 0, 1) := by decide +kernel
theorem dX6_lowers_147 : decode cX6_lowers 147 = .ok (.invokevirtual 86, 3) := by decide +kernel
theorem dX6_lowers_150 : decode cX6_lowers 150 = .ok (.aload_n 0, 1) := by decide +kernel
theorem dX6_lowers_151 : decode cX6_lowers 151 = .ok (.iconst 1, 1) := by decide +kernel
theorem dX6_lowers_152 : decode cX6_lowers 152 = .ok (.invokevirtual 86, 3) := by decide +kernel
theorem dX6_lowers_155 : decode cX6_lowers 155 = .ok (.return_, 1) := by decide +kernel
set_option maxRecDepth 20000 in
theorem ggX6_parts_X6_trims : GoodIn wsX6_parts wsX6_trims := goodIn_r _ [9, 2, 1, 10, 11, 12, 13, 14, 15, 16, 17, 18, 19, 20, 21, 22, 23, 24, 25, 26, 27, 28, 29, 30, 31, 32, 33, 34, 35] (by decide +kernel) (by decide +kernel)
set_option maxRecDepth 20000 in
theorem gX6_parts_X6_trims : GoodIn wsX6_parts (wsV RX6 64 RX6 yX6_trims wsX6_trims) := goodIn_app (goodIn_of _ (by decide +kernel)) ggX6_parts_X6_trims
theorem dX6_parts_0 : decode cX6_parts 0 = .ok (.iconst 1, 1) := by decide +kernel
theorem dX6_parts_1 : decode cX6_parts 1 = .ok (.istore_n 2, 1) := by decide +kernel
theorem dX6_parts_2 : decode cX6_parts 2 = .ok (.iconst 0, 1) := by decide +kernel
theorem dX6_parts_3 : decode cX6_parts 3 = .ok (.istore_n 3, 1) := by decide +kernel
theorem dX6_parts_4 : decode cX6_parts 4 = .ok (.iload_n 3, 1) := by decide +kernel
theorem dX6_parts_5 : decode cX6_parts 5 = .ok (.iconst 5, 1) := by decide +kernel
theorem dX6_parts_6 : decode cX6_parts 6 = .ok (.if_icmp .ge 23, 3) := by decide +kernel
theorem dX6_parts_9 : decode cX6_parts 9 = .ok (.iload_n 2, 1) := by decide +kernel
theorem dX6_parts_10 : decode cX6_parts 10 = .ok (.iconst 2, 1) := by decide +kernel
theorem dX6_parts_11 : decode cX6_parts 11 = .ok (.aload_n 0, 1) := by decide +kernel
theorem dX6_parts_12 : decode cX6_parts 12 = .ok (.getfield 23, 3) := by decide +kernel
theorem dX6_parts_15 : decode cX6_parts 15 = .ok (.bipush 36, 2) := by decide +kernel
theorem dX6_parts_17 : decode cX6_parts 17 = .ok (.iaload, 1) := by decide +kernel
theorem dX6_parts_18 : decode cX6_parts 18 = .ok (.iload_n 2, 1) := by decide +kernel
theorem dX6_parts_19 : decode cX6_parts 19 = .ok (.imul, 1) := by decide +kernel
theorem dX6_parts_20 : decode cX6_parts 20 = .ok (.isub, 1) := by decide +kernel
theorem dX6_parts_21 : decode cX6_parts 21 = .ok (.imul, 1) := by decide +kernel
theorem dX6_parts_22 : decode cX6_parts 22 = .ok (.istore_n 2, 1) := by decide +kernel
theorem dX6_parts_23 : decode cX6_parts 23 = .ok (.iinc 3 1, 3) := by decide +kernel
theorem dX6_parts_26 : decode cX6_parts 26 = .ok (.goto (-22), 3) := by decide +kernel
theorem dX6_parts_29 : decode cX6_parts 29 = .ok (.aload_n 0, 1) := by decide +kernel
theorem dX6_parts_30 : decode cX6_parts 30 = .ok (.getfield 26, 3) := by decide +kernel
theorem dX6_parts_33 : decode cX6_parts 33 = .ok (.iload_n 1, 1) := by decide +kernel
theorem dX6_parts_34 : decode cX6_parts 34 = .ok (.iaload, 1) := by decide +kernel
theorem dX6_parts_35 : decode cX6_parts 35 = .ok (.istore_n 3, 1) := by decide +kernel
theorem dX6_parts_36 : decode cX6_parts 36 = .ok (.iconst 0, 1) := by decide +kernel
theorem dX6_parts_37 : decode cX6_parts 37 = .ok (.istore 4, 2) := by decide +kernel
theorem dX6_parts_39 : decode cX6_parts 39 = .ok (.iload 4, 2) := by decide +kernel
theorem dX6_parts_41 : decode cX6_parts 41 = .ok (.iload_n 3, 1) := by decide +kernel
theorem dX6_parts_42 : decode cX6_parts 42 = .ok (.if_icmp .ge 147, 3) := by decide +kernel
theorem dX6_parts_45 : decode cX6_parts 45 = .ok (.aload_n 0, 1) := by decide +kernel
theorem dX6_parts_46 : decode cX6_parts 46 = .ok (.getfield 23, 3) := by decide +kernel
theorem dX6_parts_49 : decode cX6_parts 49 = .ok (.bipush 12, 2) := by decide +kernel
theorem dX6_parts_51 : decode cX6_parts 51 = .ok (.iload_n 1, 1) := by decide +kernel
theorem dX6_parts_52 : decode cX6_parts 52 = .ok (.imul, 1) := by decide +kernel
theorem dX6_parts_53 : decode cX6_parts 53 = .ok (.iload 4, 2) := by decide +kernel
theorem dX6_parts_55 : decode cX6_parts 55 = .ok (.iadd, 1) := by decide +kernel
theorem dX6_parts_56 : decode cX6_parts 56 = .ok (.iaload, 1) := by decide +kernel
theorem dX6_parts_57 : decode cX6_parts 57 = .ok (.iload_n 2, 1) := by decide +kernel
theorem dX6_parts_58 : decode cX6_parts 58 = .ok (.imul, 1) := by decide +kernel
theorem dX6_parts_59 : decode cX6_parts 59 = .ok (.ldc 72, 2) := by decide +kernel
theorem dX6_parts_61 : decode cX6_parts 61 = .ok (.iand, 1) := by decide +kernel
theorem dX6_parts_62 : decode cX6_parts 62 = .ok (.istore 5, 2) := by decide +kernel
theorem dX6_parts_64 : decode cX6_parts 64 = .ok (.lconst 0, 1) := by decide +kernel
theorem dX6_parts_65 : decode cX6_parts 65 = .ok (.lstore 6, 2) := by decide +kernel
theorem dX6_parts_67 : decode cX6_parts 67 = .ok (.iconst 0, 1) := by decide +kernel
theorem dX6_parts_68 : decode cX6_parts 68 = .ok (.istore 8, 2) := by decide +kernel
theorem dX6_parts_70 : decode cX6_parts 70 = .ok (.iload 4, 2) := by decide +kernel
theorem dX6_parts_72 : decode cX6_parts 72 = .ok (.iload 8, 2) := by decide +kernel
theorem dX6_parts_74 : decode cX6_parts 74 = .ok (.iadd, 1) := by decide +kernel
theorem dX6_parts_75 : decode cX6_parts 75 = .ok (.iload_n 3, 1) := by decide +kernel
theorem dX6_parts_76 : decode cX6_parts 76 = .ok (.if_icmp .ge 95, 3) := by decide +kernel
theorem dX6_parts_79 : decode cX6_parts 79 = .ok (.iload 8, 2) := by decide +kernel
theorem dX6_parts_81 : decode cX6_parts 81 = .ok (.aload_n 0, 1) := by decide +kernel
theorem dX6_parts_82 : decode cX6_parts 82 = .ok (.getfield 26, 3) := by decide +kernel
theorem dX6_parts_85 : decode cX6_parts 85 = .ok (.iconst 3, 1) := by decide +kernel
theorem dX6_parts_86 : decode cX6_parts 86 = .ok (.iaload, 1) := by decide +kernel
theorem dX6_parts_87 : decode cX6_parts 87 = .ok (.if_icmp .ge 21, 3) := by decide +kernel
theorem dX6_parts_90 : decode cX6_parts 90 = .ok (.iload 5, 2) := by decide +kernel
theorem dX6_parts_92 : decode cX6_parts 92 = .ok (.i2l, 1) := by decide +kernel
theorem dX6_parts_93 : decode cX6_parts 93 = .ok (.aload_n 0, 1) := by decide +kernel
theorem dX6_parts_94 : decode cX6_parts 94 = .ok (.getfield 23, 3) := by decide +kernel
theorem dX6_parts_97 : decode cX6_parts 97 = .ok (.bipush 36, 2) := by decide +kernel
theorem dX6_parts_99 : decode cX6_parts 99 = .ok (.iload 8, 2) := by decide +kernel
theorem dX6_parts_101 : decode cX6_parts 101 = .ok (.iadd, 1) := by decide +kernel
theorem dX6_parts_102 : decode cX6_parts 102 = .ok (.iaload, 1) := by decide +kernel
theorem dX6_parts_103 : decode cX6_parts 103 = .ok (.i2l, 1) := by decide +kernel
theorem dX6_parts_104 : decode cX6_parts 104 = .ok (.lmul, 1) := by decide +kernel
theorem dX6_parts_105 : decode cX6_parts 105 = .ok (.goto 4, 3) := by decide +kernel
theorem dX6_parts_108 : decode cX6_parts 108 = .ok (.lconst 0, 1) := by decide +kernel
theorem dX6_parts_109 : decode cX6_parts 109 = .ok (.lstore 9, 2) := by decide +kernel
theorem dX6_parts_111 : decode cX6_parts 111 = .ok (.aload_n 0, 1) := by decide +kernel
theorem dX6_parts_112 : decode cX6_parts 112 = .ok (.getfield 23, 3) := by decide +kernel
theorem dX6_parts_115 : decode cX6_parts 115 = .ok (.bipush 12, 2) := by decide +kernel
theorem dX6_parts_117 : decode cX6_parts 117 = .ok (.iload_n 1, 1) := by decide +kernel
theorem dX6_parts_118 : decode cX6_parts 118 = .ok (.imul, 1) := by decide +kernel
theorem dX6_parts_119 : decode cX6_parts 119 = .ok (.iload 4, 2) := by decide +kernel
theorem dX6_parts_121 : decode cX6_parts 121 = .ok (.iadd, 1) := by decide +kernel
theorem dX6_parts_122 : decode cX6_parts 122 = .ok (.iload 8, 2) := by decide +kernel
theorem dX6_parts_124 : decode cX6_parts 124 = .ok (.iadd, 1) := by decide +kernel
theorem dX6_parts_125 : decode cX6_parts 125 = .ok (.iaload, 1) := by decide +kernel
theorem dX6_parts_126 : decode cX6_parts 126 = .ok (.i2l, 1) := by decide +kernel
theorem dX6_parts_127 : decode cX6_parts 127 = .ok (.lload 9, 2) := by decide +kernel
theorem dX6_parts_129 : decode cX6_parts 129 = .ok (.lsub, 1) := by decide +kernel
theorem dX6_parts_130 : decode cX6_parts 130 = .ok (.lload 6, 2) := by decide +kernel
theorem dX6_parts_132 : decode cX6_parts 132 = .ok (.lsub, 1) := by decide +kernel
theorem dX6_parts_133 : decode cX6_parts 133 = .ok (.lstore 11, 2) := by decide +kernel
theorem dX6_parts_135 : decode cX6_parts 135 = .ok (.aload_n 0, 1) := by decide +kernel
theorem dX6_parts_136 : decode cX6_parts 136 = .ok (.getfield 23, 3) := by decide +kernel
theorem dX6_parts_139 : decode cX6_parts 139 = .ok (.bipush 12, 2) := by decide +kernel
theorem dX6_parts_141 : decode cX6_parts 141 = .ok (.iload_n 1, 1) := by decide +kernel
theorem dX6_parts_142 : decode cX6_parts 142 = .ok (.imul, 1) := by decide +kernel
theorem dX6_parts_143 : decode cX6_parts 143 = .ok (.iload 4, 2) := by decide +kernel
theorem dX6_parts_145 : decode cX6_parts 145 = .ok (.iadd, 1) := by decide +kernel
theorem dX6_parts_146 : decode cX6_parts 146 = .ok (.iload 8, 2) := by decide +kernel
theorem dX6_parts_148 : decode cX6_parts 148 = .ok (.iadd, 1) := by decide +kernel
theorem dX6_parts_149 : decode cX6_parts 149 = .ok (.lload 11, 2) := by decide +kernel
theorem dX6_parts_151 : decode cX6_parts 151 = .ok (.ldc2_w 62, 3) := by decide +kernel
theorem dX6_parts_154 : decode cX6_parts 154 = .ok (.land, 1) := by decide +kernel
theorem dX6_parts_155 : decode cX6_parts 155 = .ok (.l2i, 1) := by decide +kernel
theorem dX6_parts_156 : decode cX6_parts 156 = .ok (.iastore, 1) := by decide +kernel
theorem dX6_parts_157 : decode cX6_parts 157 = .ok (.lload 11, 2) := by decide +kernel
theorem dX6_parts_159 : decode cX6_parts 159 = .ok (.bipush 30, 2) := by decide +kernel
theorem dX6_parts_161 : decode cX6_parts 161 = .ok (.lshr, 1) := by decide +kernel
theorem dX6_parts_162 : decode cX6_parts 162 = .ok (.lneg, 1) := by decide +kernel
theorem dX6_parts_163 : decode cX6_parts 163 = .ok (.lstore 6, 2) := by decide +kernel
theorem dX6_parts_165 : decode cX6_parts 165 = .ok (.iinc 8 1, 3) := by decide +kernel
theorem dX6_parts_168 : decode cX6_parts 168 = .ok (.goto (-98), 3) := by decide +kernel
theorem dX6_parts_171 : decode cX6_parts 171 = .ok (.aload_n 0, 1) := by decide +kernel
theorem dX6_parts_172 : decode cX6_parts 172 = .ok (.getfield 23, 3) := by decide +kernel
theorem dX6_parts_175 : decode cX6_parts 175 = .ok (.bipush 48, 2) := by decide +kernel
theorem dX6_parts_177 : decode cX6_parts 177 = .ok (.iload 4, 2) := by decide +kernel
theorem dX6_parts_179 : decode cX6_parts 179 = .ok (.iadd, 1) := by decide +kernel
theorem dX6_parts_180 : decode cX6_parts 180 = .ok (.iload 5, 2) := by decide +kernel
theorem dX6_parts_182 : decode cX6_parts 182 = .ok (.iastore, 1) := by decide +kernel
theorem dX6_parts_183 : decode cX6_parts 183 = .ok (.iinc 4 1, 3) := by decide +kernel
theorem dX6_parts_186 : decode cX6_parts 186 = .ok (.goto (-147), 3) := by decide +kernel
theorem dX6_parts_189 : decode cX6_parts 189 = .ok (.iconst 0, 1) := by decide +kernel
theorem dX6_parts_190 : decode cX6_parts 190 = .ok (.istore 4, 2) := by decide +kernel
theorem dX6_parts_192 : decode cX6_parts 192 = .ok (.iload 4, 2) := by decide +kernel
theorem dX6_parts_194 : decode cX6_parts 194 = .ok (.iload_n 3, 1) := by decide +kernel
theorem dX6_parts_195 : decode cX6_parts 195 = .ok (.if_icmp .ge 31, 3) := by decide +kernel
theorem dX6_parts_198 : decode cX6_parts 198 = .ok (.aload_n 0, 1) := by decide +kernel
theorem dX6_parts_199 : decode cX6_parts 199 = .ok (.getfield 23, 3) := by decide +kernel
theorem dX6_parts_202 : decode cX6_parts 202 = .ok (.bipush 12, 2) := by decide +kernel
theorem dX6_parts_204 : decode cX6_parts 204 = .ok (.iload_n 1, 1) := by decide +kernel
theorem dX6_parts_205 : decode cX6_parts 205 = .ok (.imul, 1) := by decide +kernel
theorem dX6_parts_206 : decode cX6_parts 206 = .ok (.iload 4, 2) := by decide +kernel
theorem dX6_parts_208 : decode cX6_parts 208 = .ok (.iadd, 1) := by decide +kernel
theorem dX6_parts_209 : decode cX6_parts 209 = .ok (.aload_n 0, 1) := by decide +kernel
theorem dX6_parts_210 : decode cX6_parts 210 = .ok (.getfield 23, 3) := by decide +kernel
theorem dX6_parts_213 : decode cX6_parts 213 = .ok (.bipush 48, 2) := by decide +kernel
theorem dX6_parts_215 : decode cX6_parts 215 = .ok (.iload 4, 2) := by decide +kernel
theorem dX6_parts_217 : decode cX6_parts 217 = .ok (.iadd, 1) := by decide +kernel
theorem dX6_parts_218 : decode cX6_parts 218 = .ok (.iaload, 1) := by decide +kernel
theorem dX6_parts_219 : decode cX6_parts 219 = .ok (.iastore, 1) := by decide +kernel
theorem dX6_parts_220 : decode cX6_parts 220 = .ok (.iinc 4 1, 3) := by decide +kernel
theorem dX6_parts_223 : decode cX6_parts 223 = .ok (.goto (-31), 3) := by decide +kernel
theorem dX6_parts_226 : decode cX6_parts 226 = .ok (.aload_n 0, 1) := by decide +kernel
theorem dX6_parts_227 : decode cX6_parts 227 = .ok (.iload_n 1, 1) := by decide +kernel
theorem dX6_parts_228 : decode cX6_parts 228 = .ok (.invokevirtual 64, 3) := by decide +kernel
theorem dX6_parts_231 : decode cX6_parts 231 = .ok (.return_, 1) := by decide +kernel
theorem dX6_signNow_0 : decode cX6_signNow 0 = .ok (.aload_n 0, 1) := by decide +kernel
theorem dX6_signNow_1 : decode cX6_signNow 1 = .ok (.getfield 26, 3) := by decide +kernel
theorem dX6_signNow_4 : decode cX6_signNow 4 = .ok (.iconst 0, 1) := by decide +kernel
theorem dX6_signNow_5 : decode cX6_signNow 5 = .ok (.iaload, 1) := by decide +kernel
theorem dX6_signNow_6 : decode cX6_signNow 6 = .ok (.ifCond .ne 7, 3) := by decide +kernel
theorem dX6_signNow_9 : decode cX6_signNow 9 = .ok (.iconst 0, 1) := by decide +kernel
theorem dX6_signNow_10 : decode cX6_signNow 10 = .ok (.goto 15, 3) := by decide +kernel
theorem dX6_signNow_13 : decode cX6_signNow 13 = .ok (.aload_n 0, 1) := by decide +kernel
theorem dX6_signNow_14 : decode cX6_signNow 14 = .ok (.getfield 89, 3) := by decide +kernel
theorem dX6_signNow_17 : decode cX6_signNow 17 = .ok (.ifCond .eq 7, 3) := by decide +kernel
theorem dX6_signNow_20 : decode cX6_signNow 20 = .ok (.iconst (-1), 1) := by decide +kernel
theorem dX6_signNow_21 : decode cX6_signNow 21 = .ok (.goto 4, 3) := by decide +kernel
theorem dX6_signNow_24 : decode cX6_signNow 24 = .ok (.iconst 1, 1) := by decide +kernel
theorem dX6_signNow_25 : decode cX6_signNow 25 = .ok (.ireturn, 1) := by decide +kernel
set_option maxRecDepth 20000 in
theorem ggX6_sign_X6_signNow : GoodIn wsX6_sign wsX6_signNow := goodIn_r _ [6, 1, 7, 17, 18, 19, 20, 21, 22, 23, 24, 25, 26, 27, 28, 29, 30, 31, 32, 33, 34, 35, 36, 37, 38, 39, 40, 41, 42] (by decide +kernel) (by decide +kernel)
set_option maxRecDepth 20000 in
theorem gX6_sign_X6_signNow : GoodIn wsX6_sign (wsV RX6 93 RX6 yX6_signNow wsX6_signNow) := goodIn_app (goodIn_of _ (by decide +kernel)) ggX6_sign_X6_signNow
set_option maxRecDepth 20000 in
theorem ggX6_sign_X6_bad : GoodIn wsX6_sign wsX6_bad := goodIn_r _ [11, 12, 13, 14, 5, 15, 16, 17, 18, 19, 20, 21, 22, 23, 24, 25, 26, 27, 28, 29, 30, 31, 32, 33, 34, 35, 36, 37, 38, 39, 40, 41, 42] (by decide +kernel) (by decide +kernel)
set_option maxRecDepth 20000 in
theorem gX6_sign_X6_bad : GoodIn wsX6_sign (wsV RX6 97 RX6 yX6_bad wsX6_bad) := goodIn_app (goodIn_of _ (by decide +kernel)) ggX6_sign_X6_bad
theorem dX6_sign_0 : decode cX6_sign 0 = .ok (.iload_n 1, 1) := by decide +kernel
theorem dX6_sign_1 : decode cX6_sign 1 = .ok (.ifCond .ne 10, 3) := by decide +kernel
theorem dX6_sign_4 : decode cX6_sign 4 = .ok (.aload_n 0, 1) := by decide +kernel
theorem dX6_sign_5 : decode cX6_sign 5 = .ok (.invokevirtual 93, 3) := by decide +kernel
theorem dX6_sign_8 : decode cX6_sign 8 = .ok (.goto 35, 3) := by decide +kernel
theorem dX6_sign_11 : decode cX6_sign 11 = .ok (.iload_n 1, 1) := by decide +kernel
theorem dX6_sign_12 : decode cX6_sign 12 = .ok (.iconst 1, 1) := by decide +kernel
theorem dX6_sign_13 : decode cX6_sign 13 = .ok (.if_icmp .ne 12, 3) := by decide +kernel
theorem dX6_sign_16 : decode cX6_sign 16 = .ok (.aload_n 0, 1) := by decide +kernel
theorem dX6_sign_17 : decode cX6_sign 17 = .ok (.getfield 26, 3) := by decide +kernel
theorem dX6_sign_20 : decode cX6_sign 20 = .ok (.iconst 0, 1) := by decide +kernel
theorem dX6_sign_21 : decode cX6_sign 21 = .ok (.iaload, 1) := by decide +kernel
theorem dX6_sign_22 : decode cX6_sign 22 = .ok (.goto 21, 3) := by decide +kernel
theorem dX6_sign_25 : decode cX6_sign 25 = .ok (.iload_n 1, 1) := by decide +kernel
theorem dX6_sign_26 : decode cX6_sign 26 = .ok (.iconst 2, 1) := by decide +kernel
theorem dX6_sign_27 : decode cX6_sign 27 = .ok (.if_icmp .ne 12, 3) := by decide +kernel
theorem dX6_sign_30 : decode cX6_sign 30 = .ok (.aload_n 0, 1) := by decide +kernel
theorem dX6_sign_31 : decode cX6_sign 31 = .ok (.getfield 26, 3) := by decide +kernel
theorem dX6_sign_34 : decode cX6_sign 34 = .ok (.iconst 1, 1) := by decide +kernel
theorem dX6_sign_35 : decode cX6_sign 35 = .ok (.iaload, 1) := by decide +kernel
theorem dX6_sign_36 : decode cX6_sign 36 = .ok (.goto 7, 3) := by decide +kernel
theorem dX6_sign_39 : decode cX6_sign 39 = .ok (.aload_n 0, 1) := by decide +kernel
theorem dX6_sign_40 : decode cX6_sign 40 = .ok (.invokevirtual 97, 3) := by decide +kernel
theorem dX6_sign_43 : decode cX6_sign 43 = .ok (.ireturn, 1) := by decide +kernel
set_option maxRecDepth 20000 in
theorem ggX6_limb_X6_in : GoodIn wsX6_limb wsX6_in := goodIn_r _ [6] (by decide +kernel) (by decide +kernel)
set_option maxRecDepth 20000 in
theorem gX6_limb_X6_in : GoodIn wsX6_limb (va_wsS RX6 100 yX6_in wsX6_in) := goodIn_app (goodIn_of _ (by decide +kernel)) ggX6_limb_X6_in
set_option maxRecDepth 20000 in
theorem ggX6_limb_X6_bad : GoodIn wsX6_limb wsX6_bad := goodIn_r _ [10, 11, 12, 13, 5, 14, 15, 16, 17, 18, 19, 20, 21, 22, 23, 24, 25, 26, 27, 28, 29, 30, 31, 32, 33, 34, 35, 36, 37, 38, 39, 40, 41] (by decide +kernel) (by decide +kernel)
set_option maxRecDepth 20000 in
theorem gX6_limb_X6_bad : GoodIn wsX6_limb (wsV RX6 97 RX6 yX6_bad wsX6_bad) := goodIn_app (goodIn_of _ (by decide +kernel)) ggX6_limb_X6_bad
theorem dX6_limb_0 : decode cX6_limb 0 = .ok (.iload_n 1, 1) := by decide +kernel
theorem dX6_limb_1 : decode cX6_limb 1 = .ok (.i2l, 1) := by decide +kernel
theorem dX6_limb_2 : decode cX6_limb 2 = .ok (.lconst 0, 1) := by decide +kernel
theorem dX6_limb_3 : decode cX6_limb 3 = .ok (.lconst 1, 1) := by decide +kernel
theorem dX6_limb_4 : decode cX6_limb 4 = .ok (.invokestatic 100, 3) := by decide +kernel
theorem dX6_limb_7 : decode cX6_limb 7 = .ok (.ifCond .eq 7, 3) := by decide +kernel
theorem dX6_limb_10 : decode cX6_limb 10 = .ok (.iload_n 2, 1) := by decide +kernel
theorem dX6_limb_11 : decode cX6_limb 11 = .ok (.ifCond .ge 8, 3) := by decide +kernel
theorem dX6_limb_14 : decode cX6_limb 14 = .ok (.aload_n 0, 1) := by decide +kernel
theorem dX6_limb_15 : decode cX6_limb 15 = .ok (.invokevirtual 97, 3) := by decide +kernel
theorem dX6_limb_18 : decode cX6_limb 18 = .ok (.ireturn, 1) := by decide +kernel
theorem dX6_limb_19 : decode cX6_limb 19 = .ok (.iload_n 2, 1) := by decide +kernel
theorem dX6_limb_20 : decode cX6_limb 20 = .ok (.aload_n 0, 1) := by decide +kernel
theorem dX6_limb_21 : decode cX6_limb 21 = .ok (.getfield 26, 3) := by decide +kernel
theorem dX6_limb_24 : decode cX6_limb 24 = .ok (.iload_n 1, 1) := by decide +kernel
theorem dX6_limb_25 : decode cX6_limb 25 = .ok (.iaload, 1) := by decide +kernel
theorem dX6_limb_26 : decode cX6_limb 26 = .ok (.if_icmp .ge 17, 3) := by decide +kernel
theorem dX6_limb_29 : decode cX6_limb 29 = .ok (.aload_n 0, 1) := by decide +kernel
theorem dX6_limb_30 : decode cX6_limb 30 = .ok (.getfield 23, 3) := by decide +kernel
theorem dX6_limb_33 : decode cX6_limb 33 = .ok (.bipush 12, 2) := by decide +kernel
theorem dX6_limb_35 : decode cX6_limb 35 = .ok (.iload_n 1, 1) := by decide +kernel
theorem dX6_limb_36 : decode cX6_limb 36 = .ok (.imul, 1) := by decide +kernel
theorem dX6_limb_37 : decode cX6_limb 37 = .ok (.iload_n 2, 1) := by decide +kernel
theorem dX6_limb_38 : decode cX6_limb 38 = .ok (.iadd, 1) := by decide +kernel
theorem dX6_limb_39 : decode cX6_limb 39 = .ok (.iaload, 1) := by decide +kernel
theorem dX6_limb_40 : decode cX6_limb 40 = .ok (.goto 4, 3) := by decide +kernel
theorem dX6_limb_43 : decode cX6_limb 43 = .ok (.iconst (-1), 1) := by decide +kernel
theorem dX6_limb_44 : decode cX6_limb 44 = .ok (.ireturn, 1) := by decide +kernel
set_option maxRecDepth 20000 in
theorem ggX6_tells_X6_sets : GoodIn wsX6_tells wsX6_sets := goodIn_r _ [6, 7, 8, 9, 10, 11, 12, 5, 13, 43, 44, 45, 46, 47, 48, 49, 50, 51, 52, 53, 54, 55, 56, 57, 58, 59, 60, 61, 62, 63, 64, 65, 66, 67, 68] (by decide +kernel) (by decide +kernel)
set_option maxRecDepth 20000 in
theorem gX6_tells_X6_sets : GoodIn wsX6_tells (wsV RX6 54 RX6 yX6_sets wsX6_sets) := goodIn_app (goodIn_of _ (by decide +kernel)) ggX6_tells_X6_sets
set_option maxRecDepth 20000 in
theorem ggX6_tells_X6_lowers : GoodIn wsX6_tells wsX6_lowers := goodIn_r _ [17, 9, 2, 3, 4, 5, 6, 7, 8, 10, 11, 12, 13, 18, 19, 20, 21, 22, 23, 24, 25, 26, 27, 28, 29, 30, 31, 32, 33, 34, 35, 36, 37, 38, 39, 40, 41, 42, 43, 44, 45, 46, 47, 48, 49, 50, 51, 52, 53, 54, 55, 56, 57, 58, 59, 60, 61, 62, 63, 64, 65, 66, 67, 68] (by decide +kernel) (by decide +kernel)
set_option maxRecDepth 20000 in
theorem gX6_tells_X6_lowers : GoodIn wsX6_tells (wsV RX6 104 RX6 yX6_lowers wsX6_lowers) := goodIn_app (goodIn_of _ (by decide +kernel)) ggX6_tells_X6_lowers
theorem dX6_tells_0 : decode cX6_tells 0 = .ok (.aload_n 0, 1) := by decide +kernel
theorem dX6_tells_1 : decode cX6_tells 1 = .ok (.iconst 0, 1) := by decide +kernel
theorem dX6_tells_2 : decode cX6_tells 2 = .ok (.lload_n 1, 1) := by decide +kernel
theorem dX6_tells_3 : decode cX6_tells 3 = .ok (.lconst 0, 1) := by decide +kernel
theorem dX6_tells_4 : decode cX6_tells 4 = .ok (.lcmp, 1) := by decide +kernel
theorem dX6_tells_5 : decode cX6_tells 5 = .ok (.ifCond .ge 8, 3) := by decide +kernel
theorem dX6_tells_8 : decode cX6_tells 8 = .ok (.lload_n 1, 1) := by decide +kernel
theorem dX6_tells_9 : decode cX6_tells 9 = .ok (.lneg, 1) := by decide +kernel
theorem dX6_tells_10 : decode cX6_tells 10 = .ok (.goto 4, 3) := by decide +kernel
theorem dX6_tells_13 : decode cX6_tells 13 = .ok (.lload_n 1, 1) := by decide +kernel
theorem dX6_tells_14 : decode cX6_tells 14 = .ok (.invokevirtual 54, 3) := by decide +kernel
theorem dX6_tells_17 : decode cX6_tells 17 = .ok (.aload_n 0, 1) := by decide +kernel
theorem dX6_tells_18 : decode cX6_tells 18 = .ok (.iconst 1, 1) := by decide +kernel
theorem dX6_tells_19 : decode cX6_tells 19 = .ok (.lload_n 3, 1) := by decide +kernel
theorem dX6_tells_20 : decode cX6_tells 20 = .ok (.invokevirtual 54, 3) := by decide +kernel
theorem dX6_tells_23 : decode cX6_tells 23 = .ok (.aload_n 0, 1) := by decide +kernel
theorem dX6_tells_24 : decode cX6_tells 24 = .ok (.invokevirtual 104, 3) := by decide +kernel
theorem dX6_tells_27 : decode cX6_tells 27 = .ok (.aload_n 0, 1) := by decide +kernel
theorem dX6_tells_28 : decode cX6_tells 28 = .ok (.lload_n 1, 1) := by decide +kernel
theorem dX6_tells_29 : decode cX6_tells 29 = .ok (.lconst 0, 1) := by decide +kernel
theorem dX6_tells_30 : decode cX6_tells 30 = .ok (.lcmp, 1) := by decide +kernel
theorem dX6_tells_31 : decode cX6_tells 31 = .ok (.ifCond .ge 7, 3) := by decide +kernel
theorem dX6_tells_34 : decode cX6_tells 34 = .ok (.iconst 1, 1) := by decide +kernel
theorem dX6_tells_35 : decode cX6_tells 35 = .ok (.goto 4, 3) := by decide +kernel
theorem dX6_tells_38 : decode cX6_tells 38 = .ok (.iconst 0, 1) := by decide +kernel
theorem dX6_tells_39 : decode cX6_tells 39 = .ok (.putfield 89, 3) := by decide +kernel
theorem dX6_tells_42 : decode cX6_tells 42 = .ok (.iconst 1, 1) := by decide +kernel
theorem dX6_tells_43 : decode cX6_tells 43 = .ok (.ireturn, 1) := by decide +kernel
theorem dX6_puts_0 : decode cX6_puts 0 = .ok (.aload_n 0, 1) := by decide +kernel
theorem dX6_puts_1 : decode cX6_puts 1 = .ok (.getfield 7, 3) := by decide +kernel
theorem dX6_puts_4 : decode cX6_puts 4 = .ok (.iload_n 1, 1) := by decide +kernel
theorem dX6_puts_5 : decode cX6_puts 5 = .ok (.iaload, 1) := by decide +kernel
theorem dX6_puts_6 : decode cX6_puts 6 = .ok (.istore_n 3, 1) := by decide +kernel
theorem dX6_puts_7 : decode cX6_puts 7 = .ok (.aload_n 0, 1) := by decide +kernel
theorem dX6_puts_8 : decode cX6_puts 8 = .ok (.getfield 7, 3) := by decide +kernel
theorem dX6_puts_11 : decode cX6_puts 11 = .ok (.iload_n 1, 1) := by decide +kernel
theorem dX6_puts_12 : decode cX6_puts 12 = .ok (.iload_n 2, 1) := by decide +kernel
theorem dX6_puts_13 : decode cX6_puts 13 = .ok (.iastore, 1) := by decide +kernel
theorem dX6_puts_14 : decode cX6_puts 14 = .ok (.iload_n 3, 1) := by decide +kernel
theorem dX6_puts_15 : decode cX6_puts 15 = .ok (.ireturn, 1) := by decide +kernel
set_option maxRecDepth 20000 in
theorem ggX6_type_X6_in : GoodIn wsX6_type wsX6_in := goodIn_r _ [7] (by decide +kernel) (by decide +kernel)
set_option maxRecDepth 20000 in
theorem gX6_type_X6_in : GoodIn wsX6_type (va_wsS RX6 100 yX6_in wsX6_in) := goodIn_app (goodIn_of _ (by decide +kernel)) ggX6_type_X6_in
set_option maxRecDepth 20000 in
theorem ggX6_type_X6_bad : GoodIn wsX6_type wsX6_bad := goodIn_r _ [11, 12, 13, 14, 6, 15, 16, 21, 22, 23, 24, 25, 26, 27, 28, 29, 30, 31, 32, 33, 34, 35, 36, 37, 38, 39, 40, 41, 42, 43, 44, 45, 46] (by decide +kernel) (by decide +kernel)
set_option maxRecDepth 20000 in
theorem gX6_type_X6_bad : GoodIn wsX6_type (wsV RX6 97 RX6 yX6_bad wsX6_bad) := goodIn_app (goodIn_of _ (by decide +kernel)) ggX6_type_X6_bad
set_option maxRecDepth 20000 in
theorem ggX6_type_X6_full : GoodIn wsX6_type wsX6_full := goodIn_r _ [20, 12, 13, 14, 6, 15, 16, 21, 22, 23, 24, 25, 26, 27, 28, 29, 30, 31, 32, 33, 34, 35, 36, 37, 38, 39, 40, 41, 42, 43, 44, 45, 46] (by decide +kernel) (by decide +kernel)
set_option maxRecDepth 20000 in
theorem gX6_type_X6_full : GoodIn wsX6_type (wsV RX6 109 RX6 yX6_full wsX6_full) := goodIn_app (goodIn_of _ (by decide +kernel)) ggX6_type_X6_full
theorem dX6_type_0 : decode cX6_type 0 = .ok (.iload_n 3, 1) := by decide +kernel
theorem dX6_type_1 : decode cX6_type 1 = .ok (.i2l, 1) := by decide +kernel
theorem dX6_type_2 : decode cX6_type 2 = .ok (.lconst 1, 1) := by decide +kernel
theorem dX6_type_3 : decode cX6_type 3 = .ok (.ldc2_w 107, 3) := by decide +kernel
theorem dX6_type_6 : decode cX6_type 6 = .ok (.invokestatic 100, 3) := by decide +kernel
theorem dX6_type_9 : decode cX6_type 9 = .ok (.ifCond .ne 8, 3) := by decide +kernel
theorem dX6_type_12 : decode cX6_type 12 = .ok (.aload_n 0, 1) := by decide +kernel
theorem dX6_type_13 : decode cX6_type 13 = .ok (.invokevirtual 97, 3) := by decide +kernel
theorem dX6_type_16 : decode cX6_type 16 = .ok (.ireturn, 1) := by decide +kernel
theorem dX6_type_17 : decode cX6_type 17 = .ok (.aload_n 0, 1) := by decide +kernel
theorem dX6_type_18 : decode cX6_type 18 = .ok (.getfield 7, 3) := by decide +kernel
theorem dX6_type_21 : decode cX6_type 21 = .ok (.iconst 0, 1) := by decide +kernel
theorem dX6_type_22 : decode cX6_type 22 = .ok (.iaload, 1) := by decide +kernel
theorem dX6_type_23 : decode cX6_type 23 = .ok (.iload_n 3, 1) := by decide +kernel
theorem dX6_type_24 : decode cX6_type 24 = .ok (.iadd, 1) := by decide +kernel
theorem dX6_type_25 : decode cX6_type 25 = .ok (.bipush 120, 2) := by decide +kernel
theorem dX6_type_27 : decode cX6_type 27 = .ok (.if_icmp .le 8, 3) := by decide +kernel
theorem dX6_type_30 : decode cX6_type 30 = .ok (.aload_n 0, 1) := by decide +kernel
theorem dX6_type_31 : decode cX6_type 31 = .ok (.invokevirtual 109, 3) := by decide +kernel
theorem dX6_type_34 : decode cX6_type 34 = .ok (.ireturn, 1) := by decide +kernel
theorem dX6_type_35 : decode cX6_type 35 = .ok (.iload_n 3, 1) := by decide +kernel
theorem dX6_type_36 : decode cX6_type 36 = .ok (.iconst 1, 1) := by decide +kernel
theorem dX6_type_37 : decode cX6_type 37 = .ok (.isub, 1) := by decide +kernel
theorem dX6_type_38 : decode cX6_type 38 = .ok (.istore 4, 2) := by decide +kernel
theorem dX6_type_40 : decode cX6_type 40 = .ok (.iload 4, 2) := by decide +kernel
theorem dX6_type_42 : decode cX6_type 42 = .ok (.ifCond .lt 45, 3) := by decide +kernel
theorem dX6_type_45 : decode cX6_type 45 = .ok (.aload_n 0, 1) := by decide +kernel
theorem dX6_type_46 : decode cX6_type 46 = .ok (.getfield 7, 3) := by decide +kernel
theorem dX6_type_49 : decode cX6_type 49 = .ok (.bipush 80, 2) := by decide +kernel
theorem dX6_type_51 : decode cX6_type 51 = .ok (.aload_n 0, 1) := by decide +kernel
theorem dX6_type_52 : decode cX6_type 52 = .ok (.getfield 7, 3) := by decide +kernel
theorem dX6_type_55 : decode cX6_type 55 = .ok (.iconst 0, 1) := by decide +kernel
theorem dX6_type_56 : decode cX6_type 56 = .ok (.iaload, 1) := by decide +kernel
theorem dX6_type_57 : decode cX6_type 57 = .ok (.iadd, 1) := by decide +kernel
theorem dX6_type_58 : decode cX6_type 58 = .ok (.lload_n 1, 1) := by decide +kernel
theorem dX6_type_59 : decode cX6_type 59 = .ok (.bipush 8, 2) := by decide +kernel
theorem dX6_type_61 : decode cX6_type 61 = .ok (.iload 4, 2) := by decide +kernel
theorem dX6_type_63 : decode cX6_type 63 = .ok (.imul, 1) := by decide +kernel
theorem dX6_type_64 : decode cX6_type 64 = .ok (.lshr, 1) := by decide +kernel
theorem dX6_type_65 : decode cX6_type 65 = .ok (.ldc2_w 112, 3) := by decide +kernel
theorem dX6_type_68 : decode cX6_type 68 = .ok (.land, 1) := by decide +kernel
theorem dX6_type_69 : decode cX6_type 69 = .ok (.l2i, 1) := by decide +kernel
theorem dX6_type_70 : decode cX6_type 70 = .ok (.iastore, 1) := by decide +kernel
theorem dX6_type_71 : decode cX6_type 71 = .ok (.aload_n 0, 1) := by decide +kernel
theorem dX6_type_72 : decode cX6_type 72 = .ok (.getfield 7, 3) := by decide +kernel
theorem dX6_type_75 : decode cX6_type 75 = .ok (.iconst 0, 1) := by decide +kernel
theorem dX6_type_76 : decode cX6_type 76 = .ok (.dup2, 1) := by decide +kernel
theorem dX6_type_77 : decode cX6_type 77 = .ok (.iaload, 1) := by decide +kernel
theorem dX6_type_78 : decode cX6_type 78 = .ok (.iconst 1, 1) := by decide +kernel
theorem dX6_type_79 : decode cX6_type 79 = .ok (.iadd, 1) := by decide +kernel
theorem dX6_type_80 : decode cX6_type 80 = .ok (.iastore, 1) := by decide +kernel
theorem dX6_type_81 : decode cX6_type 81 = .ok (.iinc 4 (-1), 3) := by decide +kernel
theorem dX6_type_84 : decode cX6_type 84 = .ok (.goto (-44), 3) := by decide +kernel
theorem dX6_type_87 : decode cX6_type 87 = .ok (.aload_n 0, 1) := by decide +kernel
theorem dX6_type_88 : decode cX6_type 88 = .ok (.getfield 7, 3) := by decide +kernel
theorem dX6_type_91 : decode cX6_type 91 = .ok (.iconst 0, 1) := by decide +kernel
theorem dX6_type_92 : decode cX6_type 92 = .ok (.iaload, 1) := by decide +kernel
theorem dX6_type_93 : decode cX6_type 93 = .ok (.ireturn, 1) := by decide +kernel
set_option maxRecDepth 20000 in
theorem ggX6_clear_X6_puts : GoodIn wsX6_clear wsX6_puts := goodIn_r _ [5, 6, 7, 8, 9, 10, 11, 12, 13, 14, 15, 16, 17, 18, 19, 20, 21, 22, 23, 24, 25, 26, 27, 28, 29, 30, 31, 32] (by decide +kernel) (by decide +kernel)
set_option maxRecDepth 20000 in
theorem gX6_clear_X6_puts : GoodIn wsX6_clear (wsV RX6 114 RX6 yX6_puts wsX6_puts) := goodIn_app (goodIn_of _ (by decide +kernel)) ggX6_clear_X6_puts
theorem dX6_clear_0 : decode cX6_clear 0 = .ok (.aload_n 0, 1) := by decide +kernel
theorem dX6_clear_1 : decode cX6_clear 1 = .ok (.iconst 0, 1) := by decide +kernel
theorem dX6_clear_2 : decode cX6_clear 2 = .ok (.iconst 0, 1) := by decide +kernel
theorem dX6_clear_3 : decode cX6_clear 3 = .ok (.invokevirtual 114, 3) := by decide +kernel
theorem dX6_clear_6 : decode cX6_clear 6 = .ok (.ireturn, 1) := by decide +kernel
set_option maxRecDepth 20000 in
theorem ggX6_isAt_X6_in : GoodIn wsX6_isAt wsX6_in := goodIn_r _ [6] (by decide +kernel) (by decide +kernel)
set_option maxRecDepth 20000 in
theorem gX6_isAt_X6_in : GoodIn wsX6_isAt (va_wsS RX6 100 yX6_in wsX6_in) := goodIn_app (goodIn_of _ (by decide +kernel)) ggX6_isAt_X6_in
theorem dX6_isAt_0 : decode cX6_isAt 0 = .ok (.aload_n 0, 1) := by decide +kernel
theorem dX6_isAt_1 : decode cX6_isAt 1 = .ok (.getfield 117, 3) := by decide +kernel
theorem dX6_isAt_4 : decode cX6_isAt 4 = .ok (.aload_n 0, 1) := by decide +kernel
theorem dX6_isAt_5 : decode cX6_isAt 5 = .ok (.getfield 7, 3) := by decide +kernel
theorem dX6_isAt_8 : decode cX6_isAt 8 = .ok (.iconst 0, 1) := by decide +kernel
theorem dX6_isAt_9 : decode cX6_isAt 9 = .ok (.iaload, 1) := by decide +kernel
theorem dX6_isAt_10 : decode cX6_isAt 10 = .ok (.if_icmp .ge 30, 3) := by decide +kernel
theorem dX6_isAt_13 : decode cX6_isAt 13 = .ok (.aload_n 0, 1) := by decide +kernel
theorem dX6_isAt_14 : decode cX6_isAt 14 = .ok (.getfield 7, 3) := by decide +kernel
theorem dX6_isAt_17 : decode cX6_isAt 17 = .ok (.bipush 80, 2) := by decide +kernel
theorem dX6_isAt_19 : decode cX6_isAt 19 = .ok (.aload_n 0, 1) := by decide +kernel
theorem dX6_isAt_20 : decode cX6_isAt 20 = .ok (.getfield 117, 3) := by decide +kernel
theorem dX6_isAt_23 : decode cX6_isAt 23 = .ok (.iadd, 1) := by decide +kernel
theorem dX6_isAt_24 : decode cX6_isAt 24 = .ok (.iaload, 1) := by decide +kernel
theorem dX6_isAt_25 : decode cX6_isAt 25 = .ok (.i2l, 1) := by decide +kernel
theorem dX6_isAt_26 : decode cX6_isAt 26 = .ok (.iload_n 1, 1) := by decide +kernel
theorem dX6_isAt_27 : decode cX6_isAt 27 = .ok (.i2l, 1) := by decide +kernel
theorem dX6_isAt_28 : decode cX6_isAt 28 = .ok (.iload_n 2, 1) := by decide +kernel
theorem dX6_isAt_29 : decode cX6_isAt 29 = .ok (.i2l, 1) := by decide +kernel
theorem dX6_isAt_30 : decode cX6_isAt 30 = .ok (.invokestatic 100, 3) := by decide +kernel
theorem dX6_isAt_33 : decode cX6_isAt 33 = .ok (.ifCond .eq 7, 3) := by decide +kernel
theorem dX6_isAt_36 : decode cX6_isAt 36 = .ok (.iconst 1, 1) := by decide +kernel
theorem dX6_isAt_37 : decode cX6_isAt 37 = .ok (.goto 4, 3) := by decide +kernel
theorem dX6_isAt_40 : decode cX6_isAt 40 = .ok (.iconst 0, 1) := by decide +kernel
theorem dX6_isAt_41 : decode cX6_isAt 41 = .ok (.ireturn, 1) := by decide +kernel
theorem dX6_wordOf_0 : decode cX6_wordOf 0 = .ok (.lload_n 0, 1) := by decide +kernel
theorem dX6_wordOf_1 : decode cX6_wordOf 1 = .ok (.ldc2_w 121, 3) := by decide +kernel
theorem dX6_wordOf_4 : decode cX6_wordOf 4 = .ok (.lcmp, 1) := by decide +kernel
theorem dX6_wordOf_5 : decode cX6_wordOf 5 = .ok (.ifCond .ne 7, 3) := by decide +kernel
theorem dX6_wordOf_8 : decode cX6_wordOf 8 = .ok (.iconst 4, 1) := by decide +kernel
theorem dX6_wordOf_9 : decode cX6_wordOf 9 = .ok (.goto 42, 3) := by decide +kernel
theorem dX6_wordOf_12 : decode cX6_wordOf 12 = .ok (.lload_n 0, 1) := by decide +kernel
theorem dX6_wordOf_13 : decode cX6_wordOf 13 = .ok (.ldc2_w 123, 3) := by decide +kernel
theorem dX6_wordOf_16 : decode cX6_wordOf 16 = .ok (.lcmp, 1) := by decide +kernel
theorem dX6_wordOf_17 : decode cX6_wordOf 17 = .ok (.ifCond .ne 7, 3) := by decide +kernel
theorem dX6_wordOf_20 : decode cX6_wordOf 20 = .ok (.iconst 5, 1) := by decide +kernel
theorem dX6_wordOf_21 : decode cX6_wordOf 21 = .ok (.goto 30, 3) := by decide +kernel
theorem dX6_wordOf_24 : decode cX6_wordOf 24 = .ok (.lload_n 0, 1) := by decide +kernel
theorem dX6_wordOf_25 : decode cX6_wordOf 25 = .ok (.ldc2_w 125, 3) := by decide +kernel
theorem dX6_wordOf_28 : decode cX6_wordOf 28 = .ok (.lcmp, 1) := by decide +kernel
theorem dX6_wordOf_29 : decode cX6_wordOf 29 = .ok (.ifCond .ne 8, 3) := by decide +kernel
theorem dX6_wordOf_32 : decode cX6_wordOf 32 = .ok (.bipush 6, 2) := by decide +kernel
theorem dX6_wordOf_34 : decode cX6_wordOf 34 = .ok (.goto 17, 3) := by decide +kernel
theorem dX6_wordOf_37 : decode cX6_wordOf 37 = .ok (.lload_n 0, 1) := by decide +kernel
theorem dX6_wordOf_38 : decode cX6_wordOf 38 = .ok (.ldc2_w 127, 3) := by decide +kernel
theorem dX6_wordOf_41 : decode cX6_wordOf 41 = .ok (.lcmp, 1) := by decide +kernel
theorem dX6_wordOf_42 : decode cX6_wordOf 42 = .ok (.ifCond .ne 8, 3) := by decide +kernel
theorem dX6_wordOf_45 : decode cX6_wordOf 45 = .ok (.bipush 7, 2) := by decide +kernel
theorem dX6_wordOf_47 : decode cX6_wordOf 47 = .ok (.goto 4, 3) := by decide +kernel
theorem dX6_wordOf_50 : decode cX6_wordOf 50 = .ok (.iconst 1, 1) := by decide +kernel
theorem dX6_wordOf_51 : decode cX6_wordOf 51 = .ok (.ireturn, 1) := by decide +kernel
set_option maxRecDepth 20000 in
theorem ggX6_scans_X6_isAt : GoodIn wsX6_scans wsX6_isAt := goodIn_r _ [12, 1, 3, 13, 14, 11, 15, 23, 24, 25, 26, 27, 28, 29, 30, 31, 32, 33, 34, 35, 36, 37, 38, 39, 40, 41, 42, 43, 44, 45, 46, 47, 48] (by decide +kernel) (by decide +kernel)
set_option maxRecDepth 20000 in
theorem gX6_scans_X6_isAt : GoodIn wsX6_scans (wsV RX6 129 RX6 yX6_isAt wsX6_isAt) := goodIn_app (goodIn_of _ (by decide +kernel)) ggX6_scans_X6_isAt
set_option maxRecDepth 20000 in
theorem ggX6_scans_X6_wordOf : GoodIn wsX6_scans wsX6_wordOf := goodIn_r _ [18, 19, 20, 21, 22] (by decide +kernel) (by decide +kernel)
set_option maxRecDepth 20000 in
theorem gX6_scans_X6_wordOf : GoodIn wsX6_scans (va_wsS RX6 143 yX6_wordOf wsX6_wordOf) := goodIn_app (goodIn_of _ (by decide +kernel)) ggX6_scans_X6_wordOf
theorem dX6_scans_0 : decode cX6_scans 0 = .ok (.aload_n 0, 1) := by decide +kernel
theorem dX6_scans_1 : decode cX6_scans 1 = .ok (.bipush 32, 2) := by decide +kernel
theorem dX6_scans_3 : decode cX6_scans 3 = .ok (.bipush 32, 2) := by decide +kernel
theorem dX6_scans_5 : decode cX6_scans 5 = .ok (.invokevirtual 129, 3) := by decide +kernel
theorem dX6_scans_8 : decode cX6_scans 8 = .ok (.ifCond .eq 16, 3) := by decide +kernel
theorem dX6_scans_11 : decode cX6_scans 11 = .ok (.aload_n 0, 1) := by decide +kernel
theorem dX6_scans_12 : decode cX6_scans 12 = .ok (.dup, 1) := by decide +kernel
theorem dX6_scans_13 : decode cX6_scans 13 = .ok (.getfield 117, 3) := by decide +kernel
theorem dX6_scans_16 : decode cX6_scans 16 = .ok (.iconst 1, 1) := by decide +kernel
theorem dX6_scans_17 : decode cX6_scans 17 = .ok (.iadd, 1) := by decide +kernel
theorem dX6_scans_18 : decode cX6_scans 18 = .ok (.putfield 117, 3) := by decide +kernel
theorem dX6_scans_21 : decode cX6_scans 21 = .ok (.goto (-21), 3) := by decide +kernel
theorem dX6_scans_24 : decode cX6_scans 24 = .ok (.aload_n 0, 1) := by decide +kernel
theorem dX6_scans_25 : decode cX6_scans 25 = .ok (.aload_n 0, 1) := by decide +kernel
theorem dX6_scans_26 : decode cX6_scans 26 = .ok (.getfield 117, 3) := by decide +kernel
theorem dX6_scans_29 : decode cX6_scans 29 = .ok (.putfield 133, 3) := by decide +kernel
theorem dX6_scans_32 : decode cX6_scans 32 = .ok (.aload_n 0, 1) := by decide +kernel
theorem dX6_scans_33 : decode cX6_scans 33 = .ok (.getfield 117, 3) := by decide +kernel
theorem dX6_scans_36 : decode cX6_scans 36 = .ok (.aload_n 0, 1) := by decide +kernel
theorem dX6_scans_37 : decode cX6_scans 37 = .ok (.getfield 7, 3) := by decide +kernel
theorem dX6_scans_40 : decode cX6_scans 40 = .ok (.iconst 0, 1) := by decide +kernel
theorem dX6_scans_41 : decode cX6_scans 41 = .ok (.iaload, 1) := by decide +kernel
theorem dX6_scans_42 : decode cX6_scans 42 = .ok (.if_icmp .ne 9, 3) := by decide +kernel
theorem dX6_scans_45 : decode cX6_scans 45 = .ok (.aload_n 0, 1) := by decide +kernel
theorem dX6_scans_46 : decode cX6_scans 46 = .ok (.iconst 0, 1) := by decide +kernel
theorem dX6_scans_47 : decode cX6_scans 47 = .ok (.putfield 136, 3) := by decide +kernel
theorem dX6_scans_50 : decode cX6_scans 50 = .ok (.return_, 1) := by decide +kernel
theorem dX6_scans_51 : decode cX6_scans 51 = .ok (.aload_n 0, 1) := by decide +kernel
theorem dX6_scans_52 : decode cX6_scans 52 = .ok (.bipush 97, 2) := by decide +kernel
theorem dX6_scans_54 : decode cX6_scans 54 = .ok (.bipush 122, 2) := by decide +kernel
theorem dX6_scans_56 : decode cX6_scans 56 = .ok (.invokevirtual 129, 3) := by decide +kernel
theorem dX6_scans_59 : decode cX6_scans 59 = .ok (.ifCond .eq 98, 3) := by decide +kernel
theorem dX6_scans_62 : decode cX6_scans 62 = .ok (.lconst 0, 1) := by decide +kernel
theorem dX6_scans_63 : decode cX6_scans 63 = .ok (.lstore_n 1, 1) := by decide +kernel
theorem dX6_scans_64 : decode cX6_scans 64 = .ok (.aload_n 0, 1) := by decide +kernel
theorem dX6_scans_65 : decode cX6_scans 65 = .ok (.bipush 97, 2) := by decide +kernel
theorem dX6_scans_67 : decode cX6_scans 67 = .ok (.bipush 122, 2) := by decide +kernel
theorem dX6_scans_69 : decode cX6_scans 69 = .ok (.invokevirtual 129, 3) := by decide +kernel
theorem dX6_scans_72 : decode cX6_scans 72 = .ok (.ifCond .eq 59, 3) := by decide +kernel
theorem dX6_scans_75 : decode cX6_scans 75 = .ok (.aload_n 0, 1) := by decide +kernel
theorem dX6_scans_76 : decode cX6_scans 76 = .ok (.getfield 117, 3) := by decide +kernel
theorem dX6_scans_79 : decode cX6_scans 79 = .ok (.aload_n 0, 1) := by decide +kernel
theorem dX6_scans_80 : decode cX6_scans 80 = .ok (.getfield 133, 3) := by decide +kernel
theorem dX6_scans_83 : decode cX6_scans 83 = .ok (.isub, 1) := by decide +kernel
theorem dX6_scans_84 : decode cX6_scans 84 = .ok (.iconst 5, 1) := by decide +kernel
theorem dX6_scans_85 : decode cX6_scans 85 = .ok (.if_icmp .le 7, 3) := by decide +kernel
theorem dX6_scans_88 : decode cX6_scans 88 = .ok (.lconst 0, 1) := by decide +kernel
theorem dX6_scans_89 : decode cX6_scans 89 = .ok (.goto 28, 3) := by decide +kernel
theorem dX6_scans_92 : decode cX6_scans 92 = .ok (.ldc2_w 139, 3) := by decide +kernel
theorem dX6_scans_95 : decode cX6_scans 95 = .ok (.lload_n 1, 1) := by decide +kernel
theorem dX6_scans_96 : decode cX6_scans 96 = .ok (.lmul, 1) := by decide +kernel
theorem dX6_scans_97 : decode cX6_scans 97 = .ok (.aload_n 0, 1) := by decide +kernel
theorem dX6_scans_98 : decode cX6_scans 98 = .ok (.getfield 7, 3) := by decide +kernel
theorem dX6_scans_101 : decode cX6_scans 101 = .ok (.bipush 80, 2) := by decide +kernel
theorem dX6_scans_103 : decode cX6_scans 103 = .ok (.aload_n 0, 1) := by decide +kernel
theorem dX6_scans_104 : decode cX6_scans 104 = .ok (.getfield 117, 3) := by decide +kernel
theorem dX6_scans_107 : decode cX6_scans 107 = .ok (.iadd, 1) := by decide +kernel
theorem dX6_scans_108 : decode cX6_scans 108 = .ok (.iaload, 1) := by decide +kernel
theorem dX6_scans_109 : decode cX6_scans 109 = .ok (.i2l, 1) := by decide +kernel
theorem dX6_scans_110 : decode cX6_scans 110 = .ok (.ladd, 1) := by decide +kernel
theorem dX6_scans_111 : decode cX6_scans 111 = .ok (.ldc2_w 141, 3) := by decide +kernel
theorem dX6_scans_114 : decode cX6_scans 114 = .ok (.lsub, 1) := by decide +kernel
theorem dX6_scans_115 : decode cX6_scans 115 = .ok (.lconst 1, 1) := by decide +kernel
theorem dX6_scans_116 : decode cX6_scans 116 = .ok (.ladd, 1) := by decide +kernel
theorem dX6_scans_117 : decode cX6_scans 117 = .ok (.lstore_n 1, 1) := by decide +kernel
theorem dX6_scans_118 : decode cX6_scans 118 = .ok (.aload_n 0, 1) := by decide +kernel
theorem dX6_scans_119 : decode cX6_scans 119 = .ok (.dup, 1) := by decide +kernel
theorem dX6_scans_120 : decode cX6_scans 120 = .ok (.getfield 117, 3) := by decide +kernel
theorem dX6_scans_123 : decode cX6_scans 123 = .ok (.iconst 1, 1) := by decide +kernel
theorem dX6_scans_124 : decode cX6_scans 124 = .ok (.iadd, 1) := by decide +kernel
theorem dX6_scans_125 : decode cX6_scans 125 = .ok (.putfield 117, 3) := by decide +kernel
theorem dX6_scans_128 : decode cX6_scans 128 = .ok (.goto (-64), 3) := by decide +kernel
theorem dX6_scans_131 : decode cX6_scans 131 = .ok (.aload_n 0, 1) := by decide +kernel
theorem dX6_scans_132 : decode cX6_scans 132 = .ok (.aload_n 0, 1) := by decide +kernel
theorem dX6_scans_133 : decode cX6_scans 133 = .ok (.getfield 117, 3) := by decide +kernel
theorem dX6_scans_136 : decode cX6_scans 136 = .ok (.aload_n 0, 1) := by decide +kernel
theorem dX6_scans_137 : decode cX6_scans 137 = .ok (.getfield 133, 3) := by decide +kernel
theorem dX6_scans_140 : decode cX6_scans 140 = .ok (.isub, 1) := by decide +kernel
theorem dX6_scans_141 : decode cX6_scans 141 = .ok (.iconst 5, 1) := by decide +kernel
theorem dX6_scans_142 : decode cX6_scans 142 = .ok (.if_icmp .le 7, 3) := by decide +kernel
theorem dX6_scans_145 : decode cX6_scans 145 = .ok (.iconst 1, 1) := by decide +kernel
theorem dX6_scans_146 : decode cX6_scans 146 = .ok (.goto 7, 3) := by decide +kernel
theorem dX6_scans_149 : decode cX6_scans 149 = .ok (.lload_n 1, 1) := by decide +kernel
theorem dX6_scans_150 : decode cX6_scans 150 = .ok (.invokestatic 143, 3) := by decide +kernel
theorem dX6_scans_153 : decode cX6_scans 153 = .ok (.putfield 136, 3) := by decide +kernel
theorem dX6_scans_156 : decode cX6_scans 156 = .ok (.return_, 1) := by decide +kernel
theorem dX6_scans_157 : decode cX6_scans 157 = .ok (.aload_n 0, 1) := by decide +kernel
theorem dX6_scans_158 : decode cX6_scans 158 = .ok (.bipush 48, 2) := by decide +kernel
theorem dX6_scans_160 : decode cX6_scans 160 = .ok (.bipush 57, 2) := by decide +kernel
theorem dX6_scans_162 : decode cX6_scans 162 = .ok (.invokevirtual 129, 3) := by decide +kernel
theorem dX6_scans_165 : decode cX6_scans 165 = .ok (.ifCond .eq 102, 3) := by decide +kernel
theorem dX6_scans_168 : decode cX6_scans 168 = .ok (.aload_n 0, 1) := by decide +kernel
theorem dX6_scans_169 : decode cX6_scans 169 = .ok (.iconst 0, 1) := by decide +kernel
theorem dX6_scans_170 : decode cX6_scans 170 = .ok (.putfield 147, 3) := by decide +kernel
theorem dX6_scans_173 : decode cX6_scans 173 = .ok (.aload_n 0, 1) := by decide +kernel
theorem dX6_scans_174 : decode cX6_scans 174 = .ok (.bipush 48, 2) := by decide +kernel
theorem dX6_scans_176 : decode cX6_scans 176 = .ok (.bipush 57, 2) := by decide +kernel
theorem dX6_scans_178 : decode cX6_scans 178 = .ok (.invokevirtual 129, 3) := by decide +kernel
theorem dX6_scans_181 : decode cX6_scans 181 = .ok (.ifCond .eq 63, 3) := by decide +kernel
theorem dX6_scans_184 : decode cX6_scans 184 = .ok (.aload_n 0, 1) := by decide +kernel
theorem dX6_scans_185 : decode cX6_scans 185 = .ok (.aload_n 0, 1) := by decide +kernel
theorem dX6_scans_186 : decode cX6_scans 186 = .ok (.getfield 117, 3) := by decide +kernel
theorem dX6_scans_189 : decode cX6_scans 189 = .ok (.aload_n 0, 1) := by decide +kernel
theorem dX6_scans_190 : decode cX6_scans 190 = .ok (.getfield 133, 3) := by decide +kernel
theorem dX6_scans_193 : decode cX6_scans 193 = .ok (.isub, 1) := by decide +kernel
theorem dX6_scans_194 : decode cX6_scans 194 = .ok (.iconst 2, 1) := by decide +kernel
theorem dX6_scans_195 : decode cX6_scans 195 = .ok (.if_icmp .ge 29, 3) := by decide +kernel
theorem dX6_scans_198 : decode cX6_scans 198 = .ok (.bipush 10, 2) := by decide +kernel
theorem dX6_scans_200 : decode cX6_scans 200 = .ok (.aload_n 0, 1) := by decide +kernel
theorem dX6_scans_201 : decode cX6_scans 201 = .ok (.getfield 147, 3) := by decide +kernel
theorem dX6_scans_204 : decode cX6_scans 204 = .ok (.imul, 1) := by decide +kernel
theorem dX6_scans_205 : decode cX6_scans 205 = .ok (.aload_n 0, 1) := by decide +kernel
theorem dX6_scans_206 : decode cX6_scans 206 = .ok (.getfield 7, 3) := by decide +kernel
theorem dX6_scans_209 : decode cX6_scans 209 = .ok (.bipush 80, 2) := by decide +kernel
theorem dX6_scans_211 : decode cX6_scans 211 = .ok (.aload_n 0, 1) := by decide +kernel
theorem dX6_scans_212 : decode cX6_scans 212 = .ok (.getfield 117, 3) := by decide +kernel
theorem dX6_scans_215 : decode cX6_scans 215 = .ok (.iadd, 1) := by decide +kernel
theorem dX6_scans_216 : decode cX6_scans 216 = .ok (.iaload, 1) := by decide +kernel
theorem dX6_scans_217 : decode cX6_scans 217 = .ok (.iadd, 1) := by decide +kernel
theorem dX6_scans_218 : decode cX6_scans 218 = .ok (.bipush 48, 2) := by decide +kernel
theorem dX6_scans_220 : decode cX6_scans 220 = .ok (.isub, 1) := by decide +kernel
theorem dX6_scans_221 : decode cX6_scans 221 = .ok (.goto 7, 3) := by decide +kernel
theorem dX6_scans_224 : decode cX6_scans 224 = .ok (.aload_n 0, 1) := by decide +kernel
theorem dX6_scans_225 : decode cX6_scans 225 = .ok (.getfield 147, 3) := by decide +kernel
theorem dX6_scans_228 : decode cX6_scans 228 = .ok (.putfield 147, 3) := by decide +kernel
theorem dX6_scans_231 : decode cX6_scans 231 = .ok (.aload_n 0, 1) := by decide +kernel
theorem dX6_scans_232 : decode cX6_scans 232 = .ok (.dup, 1) := by decide +kernel
theorem dX6_scans_233 : decode cX6_scans 233 = .ok (.getfield 117, 3) := by decide +kernel
theorem dX6_scans_236 : decode cX6_scans 236 = .ok (.iconst 1, 1) := by decide +kernel
theorem dX6_scans_237 : decode cX6_scans 237 = .ok (.iadd, 1) := by decide +kernel
theorem dX6_scans_238 : decode cX6_scans 238 = .ok (.putfield 117, 3) := by decide +kernel
theorem dX6_scans_241 : decode cX6_scans 241 = .ok (.goto (-68), 3) := by decide +kernel
theorem dX6_scans_244 : decode cX6_scans 244 = .ok (.aload_n 0, 1) := by decide +kernel
theorem dX6_scans_245 : decode cX6_scans 245 = .ok (.aload_n 0, 1) := by decide +kernel
theorem dX6_scans_246 : decode cX6_scans 246 = .ok (.getfield 117, 3) := by decide +kernel
theorem dX6_scans_249 : decode cX6_scans 249 = .ok (.aload_n 0, 1) := by decide +kernel
theorem dX6_scans_250 : decode cX6_scans 250 = .ok (.getfield 133, 3) := by decide +kernel
theorem dX6_scans_253 : decode cX6_scans 253 = .ok (.isub, 1) := by decide +kernel
theorem dX6_scans_254 : decode cX6_scans 254 = .ok (.iconst 2, 1) := by decide +kernel
theorem dX6_scans_255 : decode cX6_scans 255 = .ok (.if_icmp .le 7, 3) := by decide +kernel
theorem dX6_scans_258 : decode cX6_scans 258 = .ok (.iconst 1, 1) := by decide +kernel
theorem dX6_scans_259 : decode cX6_scans 259 = .ok (.goto 4, 3) := by decide +kernel
theorem dX6_scans_262 : decode cX6_scans 262 = .ok (.iconst 2, 1) := by decide +kernel
theorem dX6_scans_263 : decode cX6_scans 263 = .ok (.putfield 136, 3) := by decide +kernel
theorem dX6_scans_266 : decode cX6_scans 266 = .ok (.return_, 1) := by decide +kernel
theorem dX6_scans_267 : decode cX6_scans 267 = .ok (.aload_n 0, 1) := by decide +kernel
theorem dX6_scans_268 : decode cX6_scans 268 = .ok (.aload_n 0, 1) := by decide +kernel
theorem dX6_scans_269 : decode cX6_scans 269 = .ok (.bipush 59, 2) := by decide +kernel
theorem dX6_scans_271 : decode cX6_scans 271 = .ok (.bipush 59, 2) := by decide +kernel
theorem dX6_scans_273 : decode cX6_scans 273 = .ok (.invokevirtual 129, 3) := by decide +kernel
theorem dX6_scans_276 : decode cX6_scans 276 = .ok (.ifCond .eq 7, 3) := by decide +kernel
theorem dX6_scans_279 : decode cX6_scans 279 = .ok (.iconst 3, 1) := by decide +kernel
theorem dX6_scans_280 : decode cX6_scans 280 = .ok (.goto 4, 3) := by decide +kernel
theorem dX6_scans_283 : decode cX6_scans 283 = .ok (.iconst 1, 1) := by decide +kernel
theorem dX6_scans_284 : decode cX6_scans 284 = .ok (.putfield 136, 3) := by decide +kernel
theorem dX6_scans_287 : decode cX6_scans 287 = .ok (.aload_n 0, 1) := by decide +kernel
theorem dX6_scans_288 : decode cX6_scans 288 = .ok (.dup, 1) := by decide +kernel
theorem dX6_scans_289 : decode cX6_scans 289 = .ok (.getfield 117, 3) := by decide +kernel
theorem dX6_scans_292 : decode cX6_scans 292 = .ok (.iconst 1, 1) := by decide +kernel
theorem dX6_scans_293 : decode cX6_scans 293 = .ok (.iadd, 1) := by decide +kernel
theorem dX6_scans_294 : decode cX6_scans 294 = .ok (.putfield 117, 3) := by decide +kernel
theorem dX6_scans_297 : decode cX6_scans 297 = .ok (.return_, 1) := by decide +kernel
set_option maxRecDepth 20000 in
theorem ggX6_reads_X6_scans : GoodIn wsX6_reads wsX6_scans := goodIn_r _ [13, 1, 14, 15, 3, 16, 17, 4, 18, 19, 20, 12, 21, 22, 23, 24, 25, 26, 27, 28, 29, 30, 31, 32, 33, 34, 35, 36, 37, 38, 39, 40, 41, 42, 43, 44, 45, 46, 47, 48, 49, 50, 51, 52, 53, 54, 55, 56, 57] (by decide +kernel) (by decide +kernel)
set_option maxRecDepth 20000 in
theorem gX6_reads_X6_scans : GoodIn wsX6_reads (wsV RX6 153 RX6 yX6_scans wsX6_scans) := goodIn_app (goodIn_of _ (by decide +kernel)) ggX6_reads_X6_scans
set_option maxRecDepth 20000 in
theorem ggX6_reads_X6_in : GoodIn wsX6_reads wsX6_in := goodIn_r _ [24] (by decide +kernel) (by decide +kernel)
set_option maxRecDepth 20000 in
theorem gX6_reads_X6_in : GoodIn wsX6_reads (va_wsS RX6 100 yX6_in wsX6_in) := goodIn_app (goodIn_of _ (by decide +kernel)) ggX6_reads_X6_in
theorem dX6_reads_0 : decode cX6_reads 0 = .ok (.aload_n 0, 1) := by decide +kernel
theorem dX6_reads_1 : decode cX6_reads 1 = .ok (.iconst 0, 1) := by decide +kernel
theorem dX6_reads_2 : decode cX6_reads 2 = .ok (.putfield 117, 3) := by decide +kernel
theorem dX6_reads_5 : decode cX6_reads 5 = .ok (.aload_n 0, 1) := by decide +kernel
theorem dX6_reads_6 : decode cX6_reads 6 = .ok (.iconst 0, 1) := by decide +kernel
theorem dX6_reads_7 : decode cX6_reads 7 = .ok (.putfield 150, 3) := by decide +kernel
theorem dX6_reads_10 : decode cX6_reads 10 = .ok (.aload_n 0, 1) := by decide +kernel
theorem dX6_reads_11 : decode cX6_reads 11 = .ok (.invokevirtual 153, 3) := by decide +kernel
theorem dX6_reads_14 : decode cX6_reads 14 = .ok (.aload_n 0, 1) := by decide +kernel
theorem dX6_reads_15 : decode cX6_reads 15 = .ok (.getfield 136, 3) := by decide +kernel
theorem dX6_reads_18 : decode cX6_reads 18 = .ok (.ifCond .eq 167, 3) := by decide +kernel
theorem dX6_reads_21 : decode cX6_reads 21 = .ok (.aload_n 0, 1) := by decide +kernel
theorem dX6_reads_22 : decode cX6_reads 22 = .ok (.getfield 136, 3) := by decide +kernel
theorem dX6_reads_25 : decode cX6_reads 25 = .ok (.istore_n 1, 1) := by decide +kernel
theorem dX6_reads_26 : decode cX6_reads 26 = .ok (.iconst 0, 1) := by decide +kernel
theorem dX6_reads_27 : decode cX6_reads 27 = .ok (.istore_n 2, 1) := by decide +kernel
theorem dX6_reads_28 : decode cX6_reads 28 = .ok (.iload_n 1, 1) := by decide +kernel
theorem dX6_reads_29 : decode cX6_reads 29 = .ok (.iconst 4, 1) := by decide +kernel
theorem dX6_reads_30 : decode cX6_reads 30 = .ok (.if_icmp .ge 5, 3) := by decide +kernel
theorem dX6_reads_33 : decode cX6_reads 33 = .ok (.iconst 0, 1) := by decide +kernel
theorem dX6_reads_34 : decode cX6_reads 34 = .ok (.ireturn, 1) := by decide +kernel
theorem dX6_reads_35 : decode cX6_reads 35 = .ok (.aload_n 0, 1) := by decide +kernel
theorem dX6_reads_36 : decode cX6_reads 36 = .ok (.invokevirtual 153, 3) := by decide +kernel
theorem dX6_reads_39 : decode cX6_reads 39 = .ok (.iload_n 1, 1) := by decide +kernel
theorem dX6_reads_40 : decode cX6_reads 40 = .ok (.bipush 6, 2) := by decide +kernel
theorem dX6_reads_42 : decode cX6_reads 42 = .ok (.if_icmp .ne 37, 3) := by decide +kernel
theorem dX6_reads_45 : decode cX6_reads 45 = .ok (.aload_n 0, 1) := by decide +kernel
theorem dX6_reads_46 : decode cX6_reads 46 = .ok (.getfield 136, 3) := by decide +kernel
theorem dX6_reads_49 : decode cX6_reads 49 = .ok (.iconst 2, 1) := by decide +kernel
theorem dX6_reads_50 : decode cX6_reads 50 = .ok (.if_icmp .ne 18, 3) := by decide +kernel
theorem dX6_reads_53 : decode cX6_reads 53 = .ok (.aload_n 0, 1) := by decide +kernel
theorem dX6_reads_54 : decode cX6_reads 54 = .ok (.getfield 147, 3) := by decide +kernel
theorem dX6_reads_57 : decode cX6_reads 57 = .ok (.i2l, 1) := by decide +kernel
theorem dX6_reads_58 : decode cX6_reads 58 = .ok (.lconst 1, 1) := by decide +kernel
theorem dX6_reads_59 : decode cX6_reads 59 = .ok (.ldc2_w 156, 3) := by decide +kernel
theorem dX6_reads_62 : decode cX6_reads 62 = .ok (.invokestatic 100, 3) := by decide +kernel
theorem dX6_reads_65 : decode cX6_reads 65 = .ok (.ifCond .ne 5, 3) := by decide +kernel
theorem dX6_reads_68 : decode cX6_reads 68 = .ok (.iconst 0, 1) := by decide +kernel
theorem dX6_reads_69 : decode cX6_reads 69 = .ok (.ireturn, 1) := by decide +kernel
theorem dX6_reads_70 : decode cX6_reads 70 = .ok (.aload_n 0, 1) := by decide +kernel
theorem dX6_reads_71 : decode cX6_reads 71 = .ok (.getfield 147, 3) := by decide +kernel
theorem dX6_reads_74 : decode cX6_reads 74 = .ok (.istore_n 2, 1) := by decide +kernel
theorem dX6_reads_75 : decode cX6_reads 75 = .ok (.aload_n 0, 1) := by decide +kernel
theorem dX6_reads_76 : decode cX6_reads 76 = .ok (.invokevirtual 153, 3) := by decide +kernel
theorem dX6_reads_79 : decode cX6_reads 79 = .ok (.aload_n 0, 1) := by decide +kernel
theorem dX6_reads_80 : decode cX6_reads 80 = .ok (.getfield 136, 3) := by decide +kernel
theorem dX6_reads_83 : decode cX6_reads 83 = .ok (.iconst 2, 1) := by decide +kernel
theorem dX6_reads_84 : decode cX6_reads 84 = .ok (.if_icmp .ne 32, 3) := by decide +kernel
theorem dX6_reads_87 : decode cX6_reads 87 = .ok (.aload_n 0, 1) := by decide +kernel
theorem dX6_reads_88 : decode cX6_reads 88 = .ok (.getfield 147, 3) := by decide +kernel
theorem dX6_reads_91 : decode cX6_reads 91 = .ok (.i2l, 1) := by decide +kernel
theorem dX6_reads_92 : decode cX6_reads 92 = .ok (.lconst 1, 1) := by decide +kernel
theorem dX6_reads_93 : decode cX6_reads 93 = .ok (.ldc2_w 158, 3) := by decide +kernel
theorem dX6_reads_96 : decode cX6_reads 96 = .ok (.invokestatic 100, 3) := by decide +kernel
theorem dX6_reads_99 : decode cX6_reads 99 = .ok (.ifCond .eq 17, 3) := by decide +kernel
theorem dX6_reads_102 : decode cX6_reads 102 = .ok (.aload_n 0, 1) := by decide +kernel
theorem dX6_reads_103 : decode cX6_reads 103 = .ok (.getfield 150, 3) := by decide +kernel
theorem dX6_reads_106 : decode cX6_reads 106 = .ok (.aload_n 0, 1) := by decide +kernel
theorem dX6_reads_107 : decode cX6_reads 107 = .ok (.getfield 147, 3) := by decide +kernel
theorem dX6_reads_110 : decode cX6_reads 110 = .ok (.iadd, 1) := by decide +kernel
theorem dX6_reads_111 : decode cX6_reads 111 = .ok (.bipush 120, 2) := by decide +kernel
theorem dX6_reads_113 : decode cX6_reads 113 = .ok (.if_icmp .le 5, 3) := by decide +kernel
theorem dX6_reads_116 : decode cX6_reads 116 = .ok (.iconst 0, 1) := by decide +kernel
theorem dX6_reads_117 : decode cX6_reads 117 = .ok (.ireturn, 1) := by decide +kernel
theorem dX6_reads_118 : decode cX6_reads 118 = .ok (.iconst 0, 1) := by decide +kernel
theorem dX6_reads_119 : decode cX6_reads 119 = .ok (.istore_n 3, 1) := by decide +kernel
theorem dX6_reads_120 : decode cX6_reads 120 = .ok (.iload_n 3, 1) := by decide +kernel
theorem dX6_reads_121 : decode cX6_reads 121 = .ok (.aload_n 0, 1) := by decide +kernel
theorem dX6_reads_122 : decode cX6_reads 122 = .ok (.getfield 147, 3) := by decide +kernel
theorem dX6_reads_125 : decode cX6_reads 125 = .ok (.if_icmp .ge 39, 3) := by decide +kernel
theorem dX6_reads_128 : decode cX6_reads 128 = .ok (.aload_n 0, 1) := by decide +kernel
theorem dX6_reads_129 : decode cX6_reads 129 = .ok (.getfield 29, 3) := by decide +kernel
theorem dX6_reads_132 : decode cX6_reads 132 = .ok (.aload_n 0, 1) := by decide +kernel
theorem dX6_reads_133 : decode cX6_reads 133 = .ok (.getfield 150, 3) := by decide +kernel
theorem dX6_reads_136 : decode cX6_reads 136 = .ok (.iload_n 1, 1) := by decide +kernel
theorem dX6_reads_137 : decode cX6_reads 137 = .ok (.iastore, 1) := by decide +kernel
theorem dX6_reads_138 : decode cX6_reads 138 = .ok (.aload_n 0, 1) := by decide +kernel
theorem dX6_reads_139 : decode cX6_reads 139 = .ok (.getfield 32, 3) := by decide +kernel
theorem dX6_reads_142 : decode cX6_reads 142 = .ok (.aload_n 0, 1) := by decide +kernel
theorem dX6_reads_143 : decode cX6_reads 143 = .ok (.getfield 150, 3) := by decide +kernel
theorem dX6_reads_146 : decode cX6_reads 146 = .ok (.iload_n 2, 1) := by decide +kernel
theorem dX6_reads_147 : decode cX6_reads 147 = .ok (.iastore, 1) := by decide +kernel
theorem dX6_reads_148 : decode cX6_reads 148 = .ok (.aload_n 0, 1) := by decide +kernel
theorem dX6_reads_149 : decode cX6_reads 149 = .ok (.dup, 1) := by decide +kernel
theorem dX6_reads_150 : decode cX6_reads 150 = .ok (.getfield 150, 3) := by decide +kernel
theorem dX6_reads_153 : decode cX6_reads 153 = .ok (.iconst 1, 1) := by decide +kernel
theorem dX6_reads_154 : decode cX6_reads 154 = .ok (.iadd, 1) := by decide +kernel
theorem dX6_reads_155 : decode cX6_reads 155 = .ok (.putfield 150, 3) := by decide +kernel
theorem dX6_reads_158 : decode cX6_reads 158 = .ok (.iinc 3 1, 3) := by decide +kernel
theorem dX6_reads_161 : decode cX6_reads 161 = .ok (.goto (-41), 3) := by decide +kernel
theorem dX6_reads_164 : decode cX6_reads 164 = .ok (.aload_n 0, 1) := by decide +kernel
theorem dX6_reads_165 : decode cX6_reads 165 = .ok (.invokevirtual 153, 3) := by decide +kernel
theorem dX6_reads_168 : decode cX6_reads 168 = .ok (.aload_n 0, 1) := by decide +kernel
theorem dX6_reads_169 : decode cX6_reads 169 = .ok (.getfield 136, 3) := by decide +kernel
theorem dX6_reads_172 : decode cX6_reads 172 = .ok (.iconst 3, 1) := by decide +kernel
theorem dX6_reads_173 : decode cX6_reads 173 = .ok (.if_icmp .eq 5, 3) := by decide +kernel
theorem dX6_reads_176 : decode cX6_reads 176 = .ok (.iconst 0, 1) := by decide +kernel
theorem dX6_reads_177 : decode cX6_reads 177 = .ok (.ireturn, 1) := by decide +kernel
theorem dX6_reads_178 : decode cX6_reads 178 = .ok (.aload_n 0, 1) := by decide +kernel
theorem dX6_reads_179 : decode cX6_reads 179 = .ok (.invokevirtual 153, 3) := by decide +kernel
theorem dX6_reads_182 : decode cX6_reads 182 = .ok (.goto (-168), 3) := by decide +kernel
theorem dX6_reads_185 : decode cX6_reads 185 = .ok (.iconst 1, 1) := by decide +kernel
theorem dX6_reads_186 : decode cX6_reads 186 = .ok (.ireturn, 1) := by decide +kernel
set_option maxRecDepth 20000 in
theorem ggX6_faulty_X6_reads : GoodIn wsX6_faulty wsX6_reads := goodIn_r _ [6, 7, 8, 9, 10, 11, 12, 13, 14, 15, 16, 17, 5, 18, 1, 19, 20, 21, 22, 23, 24, 25, 26, 27, 28, 29, 30, 31, 32, 33, 34, 35, 36, 37, 38, 39, 40, 41, 42, 43, 44, 45, 46, 47, 48, 49, 50, 51, 52, 53, 54, 55, 56, 57, 58, 59, 60, 61] (by decide +kernel) (by decide +kernel)
set_option maxRecDepth 20000 in
theorem gX6_faulty_X6_reads : GoodIn wsX6_faulty (wsV RX6 160 RX6 yX6_reads wsX6_reads) := goodIn_app (goodIn_of _ (by decide +kernel)) ggX6_faulty_X6_reads
theorem dX6_faulty_0 : decode cX6_faulty 0 = .ok (.aload_n 0, 1) := by decide +kernel
theorem dX6_faulty_1 : decode cX6_faulty 1 = .ok (.invokevirtual 160, 3) := by decide +kernel
theorem dX6_faulty_4 : decode cX6_faulty 4 = .ok (.ifCond .eq 7, 3) := by decide +kernel
theorem dX6_faulty_7 : decode cX6_faulty 7 = .ok (.iconst (-1), 1) := by decide +kernel
theorem dX6_faulty_8 : decode cX6_faulty 8 = .ok (.goto 7, 3) := by decide +kernel
theorem dX6_faulty_11 : decode cX6_faulty 11 = .ok (.aload_n 0, 1) := by decide +kernel
theorem dX6_faulty_12 : decode cX6_faulty 12 = .ok (.getfield 133, 3) := by decide +kernel
theorem dX6_faulty_15 : decode cX6_faulty 15 = .ok (.ireturn, 1) := by decide +kernel
set_option maxRecDepth 20000 in
theorem ggX6_minutes_X6_reads : GoodIn wsX6_minutes wsX6_reads := goodIn_r _ [6, 7, 1, 8, 9, 10, 11, 12, 13, 14, 15, 16, 5, 17, 18, 19, 20, 21, 22, 23, 24, 25, 26, 27, 28, 29, 30, 31, 32, 33, 34, 35, 45, 46, 47, 48, 49, 50, 51, 52, 53, 54, 55, 56, 57, 58, 59, 60, 61, 62, 63, 64, 65, 66, 67, 68, 69, 70] (by decide +kernel) (by decide +kernel)
set_option maxRecDepth 20000 in
theorem gX6_minutes_X6_reads : GoodIn wsX6_minutes (wsV RX6 160 RX6 yX6_reads wsX6_reads) := goodIn_app (goodIn_of _ (by decide +kernel)) ggX6_minutes_X6_reads
set_option maxRecDepth 20000 in
theorem ggX6_minutes_X6_no : GoodIn wsX6_minutes wsX6_no := goodIn_r _ [39, 40, 41, 42, 5, 43, 44, 45, 46, 47, 48, 49, 50, 51, 52, 53, 54, 55, 56, 57, 58, 59, 60, 61, 62, 63, 64, 65, 66, 67, 68, 69, 70] (by decide +kernel) (by decide +kernel)
set_option maxRecDepth 20000 in
theorem gX6_minutes_X6_no : GoodIn wsX6_minutes (wsV RX6 164 RX6 yX6_no wsX6_no) := goodIn_app (goodIn_of _ (by decide +kernel)) ggX6_minutes_X6_no
theorem dX6_minutes_0 : decode cX6_minutes 0 = .ok (.aload_n 0, 1) := by decide +kernel
theorem dX6_minutes_1 : decode cX6_minutes 1 = .ok (.invokevirtual 160, 3) := by decide +kernel
theorem dX6_minutes_4 : decode cX6_minutes 4 = .ok (.ifCond .eq 10, 3) := by decide +kernel
theorem dX6_minutes_7 : decode cX6_minutes 7 = .ok (.aload_n 0, 1) := by decide +kernel
theorem dX6_minutes_8 : decode cX6_minutes 8 = .ok (.getfield 150, 3) := by decide +kernel
theorem dX6_minutes_11 : decode cX6_minutes 11 = .ok (.goto 7, 3) := by decide +kernel
theorem dX6_minutes_14 : decode cX6_minutes 14 = .ok (.aload_n 0, 1) := by decide +kernel
theorem dX6_minutes_15 : decode cX6_minutes 15 = .ok (.invokevirtual 164, 3) := by decide +kernel
theorem dX6_minutes_18 : decode cX6_minutes 18 = .ok (.ireturn, 1) := by decide +kernel
set_option maxRecDepth 20000 in
theorem ggX6_put_X6_in : GoodIn wsX6_put wsX6_in := goodIn_r _ [8] (by decide +kernel) (by decide +kernel)
set_option maxRecDepth 20000 in
theorem gX6_put_X6_in : GoodIn wsX6_put (va_wsS RX6 100 yX6_in wsX6_in) := goodIn_app (goodIn_of _ (by decide +kernel)) ggX6_put_X6_in
set_option maxRecDepth 20000 in
theorem ggX6_put_X6_puts : GoodIn wsX6_put wsX6_puts := goodIn_r _ [12, 13, 23, 24, 25, 26, 27, 28, 29, 30, 31, 32, 33, 34, 35, 36, 37, 38, 39, 40, 41, 42, 43, 44, 45, 46, 47, 48] (by decide +kernel) (by decide +kernel)
set_option maxRecDepth 20000 in
theorem gX6_put_X6_puts : GoodIn wsX6_put (wsV RX6 114 RX6 yX6_puts wsX6_puts) := goodIn_app (goodIn_of _ (by decide +kernel)) ggX6_put_X6_puts
set_option maxRecDepth 20000 in
theorem ggX6_put_X6_bad : GoodIn wsX6_put wsX6_bad := goodIn_r _ [17, 18, 19, 20, 7, 21, 22, 23, 24, 25, 26, 27, 28, 29, 30, 31, 32, 33, 34, 35, 36, 37, 38, 39, 40, 41, 42, 43, 44, 45, 46, 47, 48] (by decide +kernel) (by decide +kernel)
set_option maxRecDepth 20000 in
theorem gX6_put_X6_bad : GoodIn wsX6_put (wsV RX6 97 RX6 yX6_bad wsX6_bad) := goodIn_app (goodIn_of _ (by decide +kernel)) ggX6_put_X6_bad
theorem dX6_put_0 : decode cX6_put 0 = .ok (.iload_n 1, 1) := by decide +kernel
theorem dX6_put_1 : decode cX6_put 1 = .ok (.ifCond .ne 15, 3) := by decide +kernel
theorem dX6_put_4 : decode cX6_put 4 = .ok (.iload_n 2, 1) := by decide +kernel
theorem dX6_put_5 : decode cX6_put 5 = .ok (.i2l, 1) := by decide +kernel
theorem dX6_put_6 : decode cX6_put 6 = .ok (.lconst 0, 1) := by decide +kernel
theorem dX6_put_7 : decode cX6_put 7 = .ok (.ldc2_w 167, 3) := by decide +kernel
theorem dX6_put_10 : decode cX6_put 10 = .ok (.invokestatic 100, 3) := by decide +kernel
theorem dX6_put_13 : decode cX6_put 13 = .ok (.goto 59, 3) := by decide +kernel
theorem dX6_put_16 : decode cX6_put 16 = .ok (.iload_n 1, 1) := by decide +kernel
theorem dX6_put_17 : decode cX6_put 17 = .ok (.iconst 1, 1) := by decide +kernel
theorem dX6_put_18 : decode cX6_put 18 = .ok (.if_icmp .ne 15, 3) := by decide +kernel
theorem dX6_put_21 : decode cX6_put 21 = .ok (.iload_n 2, 1) := by decide +kernel
theorem dX6_put_22 : decode cX6_put 22 = .ok (.i2l, 1) := by decide +kernel
theorem dX6_put_23 : decode cX6_put 23 = .ok (.lconst 1, 1) := by decide +kernel
theorem dX6_put_24 : decode cX6_put 24 = .ok (.ldc2_w 169, 3) := by decide +kernel
theorem dX6_put_27 : decode cX6_put 27 = .ok (.invokestatic 100, 3) := by decide +kernel
theorem dX6_put_30 : decode cX6_put 30 = .ok (.goto 42, 3) := by decide +kernel
theorem dX6_put_33 : decode cX6_put 33 = .ok (.iload_n 1, 1) := by decide +kernel
theorem dX6_put_34 : decode cX6_put 34 = .ok (.iconst 2, 1) := by decide +kernel
theorem dX6_put_35 : decode cX6_put 35 = .ok (.if_icmp .ne 15, 3) := by decide +kernel
theorem dX6_put_38 : decode cX6_put 38 = .ok (.iload_n 2, 1) := by decide +kernel
theorem dX6_put_39 : decode cX6_put 39 = .ok (.i2l, 1) := by decide +kernel
theorem dX6_put_40 : decode cX6_put 40 = .ok (.lconst 1, 1) := by decide +kernel
theorem dX6_put_41 : decode cX6_put 41 = .ok (.ldc2_w 156, 3) := by decide +kernel
theorem dX6_put_44 : decode cX6_put 44 = .ok (.invokestatic 100, 3) := by decide +kernel
theorem dX6_put_47 : decode cX6_put 47 = .ok (.goto 25, 3) := by decide +kernel
theorem dX6_put_50 : decode cX6_put 50 = .ok (.iload_n 1, 1) := by decide +kernel
theorem dX6_put_51 : decode cX6_put 51 = .ok (.iconst 3, 1) := by decide +kernel
theorem dX6_put_52 : decode cX6_put 52 = .ok (.if_icmp .ne 19, 3) := by decide +kernel
theorem dX6_put_55 : decode cX6_put 55 = .ok (.iload_n 2, 1) := by decide +kernel
theorem dX6_put_56 : decode cX6_put 56 = .ok (.i2l, 1) := by decide +kernel
theorem dX6_put_57 : decode cX6_put 57 = .ok (.lconst 0, 1) := by decide +kernel
theorem dX6_put_58 : decode cX6_put 58 = .ok (.ldc2_w 171, 3) := by decide +kernel
theorem dX6_put_61 : decode cX6_put 61 = .ok (.invokestatic 100, 3) := by decide +kernel
theorem dX6_put_64 : decode cX6_put 64 = .ok (.ifCond .eq 7, 3) := by decide +kernel
theorem dX6_put_67 : decode cX6_put 67 = .ok (.iconst 1, 1) := by decide +kernel
theorem dX6_put_68 : decode cX6_put 68 = .ok (.goto 4, 3) := by decide +kernel
theorem dX6_put_71 : decode cX6_put 71 = .ok (.iconst 0, 1) := by decide +kernel
theorem dX6_put_72 : decode cX6_put 72 = .ok (.istore_n 3, 1) := by decide +kernel
theorem dX6_put_73 : decode cX6_put 73 = .ok (.iload_n 3, 1) := by decide +kernel
theorem dX6_put_74 : decode cX6_put 74 = .ok (.ifCond .eq 14, 3) := by decide +kernel
theorem dX6_put_77 : decode cX6_put 77 = .ok (.aload_n 0, 1) := by decide +kernel
theorem dX6_put_78 : decode cX6_put 78 = .ok (.iconst 4, 1) := by decide +kernel
theorem dX6_put_79 : decode cX6_put 79 = .ok (.iload_n 1, 1) := by decide +kernel
theorem dX6_put_80 : decode cX6_put 80 = .ok (.iadd, 1) := by decide +kernel
theorem dX6_put_81 : decode cX6_put 81 = .ok (.iload_n 2, 1) := by decide +kernel
theorem dX6_put_82 : decode cX6_put 82 = .ok (.invokevirtual 114, 3) := by decide +kernel
theorem dX6_put_85 : decode cX6_put 85 = .ok (.goto 7, 3) := by decide +kernel
theorem dX6_put_88 : decode cX6_put 88 = .ok (.aload_n 0, 1) := by decide +kernel
theorem dX6_put_89 : decode cX6_put 89 = .ok (.invokevirtual 97, 3) := by decide +kernel
theorem dX6_put_92 : decode cX6_put 92 = .ok (.ireturn, 1) := by decide +kernel
set_option maxRecDepth 20000 in
theorem ggX6_prior_X6_in : GoodIn wsX6_prior wsX6_in := goodIn_r _ [6] (by decide +kernel) (by decide +kernel)
set_option maxRecDepth 20000 in
theorem gX6_prior_X6_in : GoodIn wsX6_prior (va_wsS RX6 100 yX6_in wsX6_in) := goodIn_app (goodIn_of _ (by decide +kernel)) ggX6_prior_X6_in
set_option maxRecDepth 20000 in
theorem ggX6_prior_X6_puts : GoodIn wsX6_prior wsX6_puts := goodIn_r _ [10, 11, 21, 22, 23, 24, 25, 26, 27, 28, 29, 30, 31, 32, 33, 34, 35, 36, 37, 38, 39, 40, 41, 42, 43, 44, 45, 46] (by decide +kernel) (by decide +kernel)
set_option maxRecDepth 20000 in
theorem gX6_prior_X6_puts : GoodIn wsX6_prior (wsV RX6 114 RX6 yX6_puts wsX6_puts) := goodIn_app (goodIn_of _ (by decide +kernel)) ggX6_prior_X6_puts
set_option maxRecDepth 20000 in
theorem ggX6_prior_X6_bad : GoodIn wsX6_prior wsX6_bad := goodIn_r _ [15, 16, 17, 18, 5, 19, 20, 21, 22, 23, 24, 25, 26, 27, 28, 29, 30, 31, 32, 33, 34, 35, 36, 37, 38, 39, 40, 41, 42, 43, 44, 45, 46] (by decide +kernel) (by decide +kernel)
set_option maxRecDepth 20000 in
theorem gX6_prior_X6_bad : GoodIn wsX6_prior (wsV RX6 97 RX6 yX6_bad wsX6_bad) := goodIn_app (goodIn_of _ (by decide +kernel)) ggX6_prior_X6_bad
theorem dX6_prior_0 : decode cX6_prior 0 = .ok (.iload_n 1, 1) := by decide +kernel
theorem dX6_prior_1 : decode cX6_prior 1 = .ok (.i2l, 1) := by decide +kernel
theorem dX6_prior_2 : decode cX6_prior 2 = .ok (.lconst 0, 1) := by decide +kernel
theorem dX6_prior_3 : decode cX6_prior 3 = .ok (.ldc2_w 173, 3) := by decide +kernel
theorem dX6_prior_6 : decode cX6_prior 6 = .ok (.invokestatic 100, 3) := by decide +kernel
theorem dX6_prior_9 : decode cX6_prior 9 = .ok (.ifCond .eq 27, 3) := by decide +kernel
theorem dX6_prior_12 : decode cX6_prior 12 = .ok (.iload_n 2, 1) := by decide +kernel
theorem dX6_prior_13 : decode cX6_prior 13 = .ok (.i2l, 1) := by decide +kernel
theorem dX6_prior_14 : decode cX6_prior 14 = .ok (.lconst 0, 1) := by decide +kernel
theorem dX6_prior_15 : decode cX6_prior 15 = .ok (.ldc2_w 156, 3) := by decide +kernel
theorem dX6_prior_18 : decode cX6_prior 18 = .ok (.invokestatic 100, 3) := by decide +kernel
theorem dX6_prior_21 : decode cX6_prior 21 = .ok (.ifCond .eq 15, 3) := by decide +kernel
theorem dX6_prior_24 : decode cX6_prior 24 = .ok (.aload_n 0, 1) := by decide +kernel
theorem dX6_prior_25 : decode cX6_prior 25 = .ok (.bipush 8, 2) := by decide +kernel
theorem dX6_prior_27 : decode cX6_prior 27 = .ok (.iload_n 1, 1) := by decide +kernel
theorem dX6_prior_28 : decode cX6_prior 28 = .ok (.iadd, 1) := by decide +kernel
theorem dX6_prior_29 : decode cX6_prior 29 = .ok (.iload_n 2, 1) := by decide +kernel
theorem dX6_prior_30 : decode cX6_prior 30 = .ok (.invokevirtual 114, 3) := by decide +kernel
theorem dX6_prior_33 : decode cX6_prior 33 = .ok (.goto 7, 3) := by decide +kernel
theorem dX6_prior_36 : decode cX6_prior 36 = .ok (.aload_n 0, 1) := by decide +kernel
theorem dX6_prior_37 : decode cX6_prior 37 = .ok (.invokevirtual 97, 3) := by decide +kernel
theorem dX6_prior_40 : decode cX6_prior 40 = .ok (.ireturn, 1) := by decide +kernel
set_option maxRecDepth 20000 in
theorem ggX6_fault_X6_in : GoodIn wsX6_fault wsX6_in := goodIn_r _ [7] (by decide +kernel) (by decide +kernel)
set_option maxRecDepth 20000 in
theorem gX6_fault_X6_in : GoodIn wsX6_fault (va_wsS RX6 100 yX6_in wsX6_in) := goodIn_app (goodIn_of _ (by decide +kernel)) ggX6_fault_X6_in
set_option maxRecDepth 20000 in
theorem ggX6_fault_X6_bad : GoodIn wsX6_fault wsX6_bad := goodIn_r _ [11, 12, 13, 14, 6, 15, 16, 17, 18, 19, 20, 21, 22, 23, 24, 25, 26, 27, 28, 29, 30, 31, 32, 33, 34, 35, 36, 37, 38, 39, 40, 41, 42] (by decide +kernel) (by decide +kernel)
set_option maxRecDepth 20000 in
theorem gX6_fault_X6_bad : GoodIn wsX6_fault (wsV RX6 97 RX6 yX6_bad wsX6_bad) := goodIn_app (goodIn_of _ (by decide +kernel)) ggX6_fault_X6_bad
theorem dX6_fault_0 : decode cX6_fault 0 = .ok (.iload_n 2, 1) := by decide +kernel
theorem dX6_fault_1 : decode cX6_fault 1 = .ok (.iconst (-1), 1) := by decide +kernel
theorem dX6_fault_2 : decode cX6_fault 2 = .ok (.if_icmp .ne 11, 3) := by decide +kernel
theorem dX6_fault_5 : decode cX6_fault 5 = .ok (.iload_n 3, 1) := by decide +kernel
theorem dX6_fault_6 : decode cX6_fault 6 = .ok (.ifCond .ne 7, 3) := by decide +kernel
theorem dX6_fault_9 : decode cX6_fault 9 = .ok (.iconst 1, 1) := by decide +kernel
theorem dX6_fault_10 : decode cX6_fault 10 = .ok (.goto 4, 3) := by decide +kernel
theorem dX6_fault_13 : decode cX6_fault 13 = .ok (.iconst 0, 1) := by decide +kernel
theorem dX6_fault_14 : decode cX6_fault 14 = .ok (.istore 4, 2) := by decide +kernel
theorem dX6_fault_16 : decode cX6_fault 16 = .ok (.iload_n 1, 1) := by decide +kernel
theorem dX6_fault_17 : decode cX6_fault 17 = .ok (.i2l, 1) := by decide +kernel
theorem dX6_fault_18 : decode cX6_fault 18 = .ok (.lconst 0, 1) := by decide +kernel
theorem dX6_fault_19 : decode cX6_fault 19 = .ok (.ldc2_w 175, 3) := by decide +kernel
theorem dX6_fault_22 : decode cX6_fault 22 = .ok (.invokestatic 100, 3) := by decide +kernel
theorem dX6_fault_25 : decode cX6_fault 25 = .ok (.ifCond .eq 32, 3) := by decide +kernel
theorem dX6_fault_28 : decode cX6_fault 28 = .ok (.iload 4, 2) := by decide +kernel
theorem dX6_fault_30 : decode cX6_fault 30 = .ok (.ifCond .ne 32, 3) := by decide +kernel
theorem dX6_fault_33 : decode cX6_fault 33 = .ok (.iload_n 2, 1) := by decide +kernel
theorem dX6_fault_34 : decode cX6_fault 34 = .ok (.i2l, 1) := by decide +kernel
theorem dX6_fault_35 : decode cX6_fault 35 = .ok (.lconst 0, 1) := by decide +kernel
theorem dX6_fault_36 : decode cX6_fault 36 = .ok (.ldc2_w 173, 3) := by decide +kernel
theorem dX6_fault_39 : decode cX6_fault 39 = .ok (.invokestatic 100, 3) := by decide +kernel
theorem dX6_fault_42 : decode cX6_fault 42 = .ok (.ifCond .eq 15, 3) := by decide +kernel
theorem dX6_fault_45 : decode cX6_fault 45 = .ok (.iload_n 3, 1) := by decide +kernel
theorem dX6_fault_46 : decode cX6_fault 46 = .ok (.i2l, 1) := by decide +kernel
theorem dX6_fault_47 : decode cX6_fault 47 = .ok (.lconst 1, 1) := by decide +kernel
theorem dX6_fault_48 : decode cX6_fault 48 = .ok (.ldc2_w 175, 3) := by decide +kernel
theorem dX6_fault_51 : decode cX6_fault 51 = .ok (.invokestatic 100, 3) := by decide +kernel
theorem dX6_fault_54 : decode cX6_fault 54 = .ok (.ifCond .ne 8, 3) := by decide +kernel
theorem dX6_fault_57 : decode cX6_fault 57 = .ok (.aload_n 0, 1) := by decide +kernel
theorem dX6_fault_58 : decode cX6_fault 58 = .ok (.invokevirtual 97, 3) := by decide +kernel
theorem dX6_fault_61 : decode cX6_fault 61 = .ok (.ireturn, 1) := by decide +kernel
theorem dX6_fault_62 : decode cX6_fault 62 = .ok (.aload_n 0, 1) := by decide +kernel
theorem dX6_fault_63 : decode cX6_fault 63 = .ok (.getfield 7, 3) := by decide +kernel
theorem dX6_fault_66 : decode cX6_fault 66 = .ok (.bipush 15, 2) := by decide +kernel
theorem dX6_fault_68 : decode cX6_fault 68 = .ok (.iload_n 1, 1) := by decide +kernel
theorem dX6_fault_69 : decode cX6_fault 69 = .ok (.iadd, 1) := by decide +kernel
theorem dX6_fault_70 : decode cX6_fault 70 = .ok (.iload 4, 2) := by decide +kernel
theorem dX6_fault_72 : decode cX6_fault 72 = .ok (.ifCond .eq 7, 3) := by decide +kernel
theorem dX6_fault_75 : decode cX6_fault 75 = .ok (.iconst (-1), 1) := by decide +kernel
theorem dX6_fault_76 : decode cX6_fault 76 = .ok (.goto 10, 3) := by decide +kernel
theorem dX6_fault_79 : decode cX6_fault 79 = .ok (.iconst 3, 1) := by decide +kernel
theorem dX6_fault_80 : decode cX6_fault 80 = .ok (.iload_n 2, 1) := by decide +kernel
theorem dX6_fault_81 : decode cX6_fault 81 = .ok (.imul, 1) := by decide +kernel
theorem dX6_fault_82 : decode cX6_fault 82 = .ok (.iload_n 3, 1) := by decide +kernel
theorem dX6_fault_83 : decode cX6_fault 83 = .ok (.iadd, 1) := by decide +kernel
theorem dX6_fault_84 : decode cX6_fault 84 = .ok (.iconst 1, 1) := by decide +kernel
theorem dX6_fault_85 : decode cX6_fault 85 = .ok (.isub, 1) := by decide +kernel
theorem dX6_fault_86 : decode cX6_fault 86 = .ok (.iastore, 1) := by decide +kernel
theorem dX6_fault_87 : decode cX6_fault 87 = .ok (.iconst 1, 1) := by decide +kernel
theorem dX6_fault_88 : decode cX6_fault 88 = .ok (.ireturn, 1) := by decide +kernel
theorem dX6_above0_0 : decode cX6_above0 0 = .ok (.iload_n 0, 1) := by decide +kernel
theorem dX6_above0_1 : decode cX6_above0 1 = .ok (.ifCond .le 7, 3) := by decide +kernel
theorem dX6_above0_4 : decode cX6_above0 4 = .ok (.iload_n 0, 1) := by decide +kernel
theorem dX6_above0_5 : decode cX6_above0 5 = .ok (.goto 4, 3) := by decide +kernel
theorem dX6_above0_8 : decode cX6_above0 8 = .ok (.iconst 0, 1) := by decide +kernel
theorem dX6_above0_9 : decode cX6_above0 9 = .ok (.ireturn, 1) := by decide +kernel
set_option maxRecDepth 20000 in
theorem ggX6_lays_X6_above0 : GoodIn wsX6_lays wsX6_above0 := goodIn_r _ [7] (by decide +kernel) (by decide +kernel)
set_option maxRecDepth 20000 in
theorem gX6_lays_X6_above0 : GoodIn wsX6_lays (va_wsS RX6 177 yX6_above0 wsX6_above0) := goodIn_app (goodIn_of _ (by decide +kernel)) ggX6_lays_X6_above0
theorem dX6_lays_0 : decode cX6_lays 0 = .ok (.iload_n 1, 1) := by decide +kernel
theorem dX6_lays_1 : decode cX6_lays 1 = .ok (.iconst 3, 1) := by decide +kernel
theorem dX6_lays_2 : decode cX6_lays 2 = .ok (.idiv, 1) := by decide +kernel
theorem dX6_lays_3 : decode cX6_lays 3 = .ok (.istore_n 3, 1) := by decide +kernel
theorem dX6_lays_4 : decode cX6_lays 4 = .ok (.iload_n 1, 1) := by decide +kernel
theorem dX6_lays_5 : decode cX6_lays 5 = .ok (.iconst 3, 1) := by decide +kernel
theorem dX6_lays_6 : decode cX6_lays 6 = .ok (.irem, 1) := by decide +kernel
theorem dX6_lays_7 : decode cX6_lays 7 = .ok (.iconst 1, 1) := by decide +kernel
theorem dX6_lays_8 : decode cX6_lays 8 = .ok (.iadd, 1) := by decide +kernel
theorem dX6_lays_9 : decode cX6_lays 9 = .ok (.istore 4, 2) := by decide +kernel
theorem dX6_lays_11 : decode cX6_lays 11 = .ok (.sipush 480, 3) := by decide +kernel
theorem dX6_lays_14 : decode cX6_lays 14 = .ok (.iload_n 1, 1) := by decide +kernel
theorem dX6_lays_15 : decode cX6_lays 15 = .ok (.imul, 1) := by decide +kernel
theorem dX6_lays_16 : decode cX6_lays 16 = .ok (.iconst 4, 1) := by decide +kernel
theorem dX6_lays_17 : decode cX6_lays 17 = .ok (.iload_n 2, 1) := by decide +kernel
theorem dX6_lays_18 : decode cX6_lays 18 = .ok (.imul, 1) := by decide +kernel
theorem dX6_lays_19 : decode cX6_lays 19 = .ok (.iadd, 1) := by decide +kernel
theorem dX6_lays_20 : decode cX6_lays 20 = .ok (.istore 5, 2) := by decide +kernel
theorem dX6_lays_22 : decode cX6_lays 22 = .ok (.aload_n 0, 1) := by decide +kernel
theorem dX6_lays_23 : decode cX6_lays 23 = .ok (.getfield 32, 3) := by decide +kernel
theorem dX6_lays_26 : decode cX6_lays 26 = .ok (.iload_n 2, 1) := by decide +kernel
theorem dX6_lays_27 : decode cX6_lays 27 = .ok (.iaload, 1) := by decide +kernel
theorem dX6_lays_28 : decode cX6_lays 28 = .ok (.istore 6, 2) := by decide +kernel
theorem dX6_lays_30 : decode cX6_lays 30 = .ok (.iload 4, 2) := by decide +kernel
theorem dX6_lays_32 : decode cX6_lays 32 = .ok (.bipush 100, 2) := by decide +kernel
theorem dX6_lays_34 : decode cX6_lays 34 = .ok (.aload_n 0, 1) := by decide +kernel
theorem dX6_lays_35 : decode cX6_lays 35 = .ok (.getfield 35, 3) := by decide +kernel
theorem dX6_lays_38 : decode cX6_lays 38 = .ok (.iload_n 2, 1) := by decide +kernel
theorem dX6_lays_39 : decode cX6_lays 39 = .ok (.iaload, 1) := by decide +kernel
theorem dX6_lays_40 : decode cX6_lays 40 = .ok (.isub, 1) := by decide +kernel
theorem dX6_lays_41 : decode cX6_lays 41 = .ok (.imul, 1) := by decide +kernel
theorem dX6_lays_42 : decode cX6_lays 42 = .ok (.bipush 20, 2) := by decide +kernel
theorem dX6_lays_44 : decode cX6_lays 44 = .ok (.idiv, 1) := by decide +kernel
theorem dX6_lays_45 : decode cX6_lays 45 = .ok (.istore 7, 2) := by decide +kernel
theorem dX6_lays_47 : decode cX6_lays 47 = .ok (.iconst 0, 1) := by decide +kernel
theorem dX6_lays_48 : decode cX6_lays 48 = .ok (.istore 8, 2) := by decide +kernel
theorem dX6_lays_50 : decode cX6_lays 50 = .ok (.iload 8, 2) := by decide +kernel
theorem dX6_lays_52 : decode cX6_lays 52 = .ok (.iconst 4, 1) := by decide +kernel
theorem dX6_lays_53 : decode cX6_lays 53 = .ok (.if_icmp .ge 20, 3) := by decide +kernel
theorem dX6_lays_56 : decode cX6_lays 56 = .ok (.aload_n 0, 1) := by decide +kernel
theorem dX6_lays_57 : decode cX6_lays 57 = .ok (.getfield 38, 3) := by decide +kernel
theorem dX6_lays_60 : decode cX6_lays 60 = .ok (.iload 5, 2) := by decide +kernel
theorem dX6_lays_62 : decode cX6_lays 62 = .ok (.iload 8, 2) := by decide +kernel
theorem dX6_lays_64 : decode cX6_lays 64 = .ok (.iadd, 1) := by decide +kernel
theorem dX6_lays_65 : decode cX6_lays 65 = .ok (.iconst 0, 1) := by decide +kernel
theorem dX6_lays_66 : decode cX6_lays 66 = .ok (.iastore, 1) := by decide +kernel
theorem dX6_lays_67 : decode cX6_lays 67 = .ok (.iinc 8 1, 3) := by decide +kernel
theorem dX6_lays_70 : decode cX6_lays 70 = .ok (.goto (-20), 3) := by decide +kernel
theorem dX6_lays_73 : decode cX6_lays 73 = .ok (.iload_n 3, 1) := by decide +kernel
theorem dX6_lays_74 : decode cX6_lays 74 = .ok (.tableswitch 208 0 6 #[42, 208, 57, 71, 99, 121, 166], 42) := by decide +kernel
theorem dX6_lays_116 : decode cX6_lays 116 = .ok (.aload_n 0, 1) := by decide +kernel
theorem dX6_lays_117 : decode cX6_lays 117 = .ok (.getfield 38, 3) := by decide +kernel
theorem dX6_lays_120 : decode cX6_lays 120 = .ok (.iload 5, 2) := by decide +kernel
theorem dX6_lays_122 : decode cX6_lays 122 = .ok (.iload 4, 2) := by decide +kernel
theorem dX6_lays_124 : decode cX6_lays 124 = .ok (.iload 6, 2) := by decide +kernel
theorem dX6_lays_126 : decode cX6_lays 126 = .ok (.imul, 1) := by decide +kernel
theorem dX6_lays_127 : decode cX6_lays 127 = .ok (.iastore, 1) := by decide +kernel
theorem dX6_lays_128 : decode cX6_lays 128 = .ok (.goto 154, 3) := by decide +kernel
theorem dX6_lays_131 : decode cX6_lays 131 = .ok (.aload_n 0, 1) := by decide +kernel
theorem dX6_lays_132 : decode cX6_lays 132 = .ok (.getfield 38, 3) := by decide +kernel
theorem dX6_lays_135 : decode cX6_lays 135 = .ok (.iload 5, 2) := by decide +kernel
theorem dX6_lays_137 : decode cX6_lays 137 = .ok (.iconst 1, 1) := by decide +kernel
theorem dX6_lays_138 : decode cX6_lays 138 = .ok (.iadd, 1) := by decide +kernel
theorem dX6_lays_139 : decode cX6_lays 139 = .ok (.iload 7, 2) := by decide +kernel
theorem dX6_lays_141 : decode cX6_lays 141 = .ok (.iastore, 1) := by decide +kernel
theorem dX6_lays_142 : decode cX6_lays 142 = .ok (.goto 140, 3) := by decide +kernel
theorem dX6_lays_145 : decode cX6_lays 145 = .ok (.aload_n 0, 1) := by decide +kernel
theorem dX6_lays_146 : decode cX6_lays 146 = .ok (.getfield 38, 3) := by decide +kernel
theorem dX6_lays_149 : decode cX6_lays 149 = .ok (.iload 5, 2) := by decide +kernel
theorem dX6_lays_151 : decode cX6_lays 151 = .ok (.iconst 2, 1) := by decide +kernel
theorem dX6_lays_152 : decode cX6_lays 152 = .ok (.iadd, 1) := by decide +kernel
theorem dX6_lays_153 : decode cX6_lays 153 = .ok (.iload 7, 2) := by decide +kernel
theorem dX6_lays_155 : decode cX6_lays 155 = .ok (.iconst 2, 1) := by decide +kernel
theorem dX6_lays_156 : decode cX6_lays 156 = .ok (.idiv, 1) := by decide +kernel
theorem dX6_lays_157 : decode cX6_lays 157 = .ok (.iload 6, 2) := by decide +kernel
theorem dX6_lays_159 : decode cX6_lays 159 = .ok (.ifCond .ne 8, 3) := by decide +kernel
theorem dX6_lays_162 : decode cX6_lays 162 = .ok (.iload 4, 2) := by decide +kernel
theorem dX6_lays_164 : decode cX6_lays 164 = .ok (.goto 4, 3) := by decide +kernel
theorem dX6_lays_167 : decode cX6_lays 167 = .ok (.iconst 0, 1) := by decide +kernel
theorem dX6_lays_168 : decode cX6_lays 168 = .ok (.iadd, 1) := by decide +kernel
theorem dX6_lays_169 : decode cX6_lays 169 = .ok (.iastore, 1) := by decide +kernel
theorem dX6_lays_170 : decode cX6_lays 170 = .ok (.goto 112, 3) := by decide +kernel
theorem dX6_lays_173 : decode cX6_lays 173 = .ok (.aload_n 0, 1) := by decide +kernel
theorem dX6_lays_174 : decode cX6_lays 174 = .ok (.getfield 38, 3) := by decide +kernel
theorem dX6_lays_177 : decode cX6_lays 177 = .ok (.iload 5, 2) := by decide +kernel
theorem dX6_lays_179 : decode cX6_lays 179 = .ok (.iconst 3, 1) := by decide +kernel
theorem dX6_lays_180 : decode cX6_lays 180 = .ok (.iadd, 1) := by decide +kernel
theorem dX6_lays_181 : decode cX6_lays 181 = .ok (.iload 4, 2) := by decide +kernel
theorem dX6_lays_183 : decode cX6_lays 183 = .ok (.iload 6, 2) := by decide +kernel
theorem dX6_lays_185 : decode cX6_lays 185 = .ok (.iconst 4, 1) := by decide +kernel
theorem dX6_lays_186 : decode cX6_lays 186 = .ok (.isub, 1) := by decide +kernel
theorem dX6_lays_187 : decode cX6_lays 187 = .ok (.imul, 1) := by decide +kernel
theorem dX6_lays_188 : decode cX6_lays 188 = .ok (.invokestatic 177, 3) := by decide +kernel
theorem dX6_lays_191 : decode cX6_lays 191 = .ok (.iastore, 1) := by decide +kernel
theorem dX6_lays_192 : decode cX6_lays 192 = .ok (.goto 90, 3) := by decide +kernel
theorem dX6_lays_195 : decode cX6_lays 195 = .ok (.aload_n 0, 1) := by decide +kernel
theorem dX6_lays_196 : decode cX6_lays 196 = .ok (.getfield 38, 3) := by decide +kernel
theorem dX6_lays_199 : decode cX6_lays 199 = .ok (.iload 5, 2) := by decide +kernel
theorem dX6_lays_201 : decode cX6_lays 201 = .ok (.iconst 3, 1) := by decide +kernel
theorem dX6_lays_202 : decode cX6_lays 202 = .ok (.iadd, 1) := by decide +kernel
theorem dX6_lays_203 : decode cX6_lays 203 = .ok (.iload 6, 2) := by decide +kernel
theorem dX6_lays_205 : decode cX6_lays 205 = .ok (.ifCond .ne 7, 3) := by decide +kernel
theorem dX6_lays_208 : decode cX6_lays 208 = .ok (.iconst 0, 1) := by decide +kernel
theorem dX6_lays_209 : decode cX6_lays 209 = .ok (.goto 13, 3) := by decide +kernel
theorem dX6_lays_212 : decode cX6_lays 212 = .ok (.iload 4, 2) := by decide +kernel
theorem dX6_lays_214 : decode cX6_lays 214 = .ok (.iload 6, 2) := by decide +kernel
theorem dX6_lays_216 : decode cX6_lays 216 = .ok (.iconst 2, 1) := by decide +kernel
theorem dX6_lays_217 : decode cX6_lays 217 = .ok (.isub, 1) := by decide +kernel
theorem dX6_lays_218 : decode cX6_lays 218 = .ok (.imul, 1) := by decide +kernel
theorem dX6_lays_219 : decode cX6_lays 219 = .ok (.invokestatic 177, 3) := by decide +kernel
theorem dX6_lays_222 : decode cX6_lays 222 = .ok (.iload 6, 2) := by decide +kernel
theorem dX6_lays_224 : decode cX6_lays 224 = .ok (.bipush 6, 2) := by decide +kernel
theorem dX6_lays_226 : decode cX6_lays 226 = .ok (.if_icmp .le 8, 3) := by decide +kernel
theorem dX6_lays_229 : decode cX6_lays 229 = .ok (.iload 4, 2) := by decide +kernel
theorem dX6_lays_231 : decode cX6_lays 231 = .ok (.goto 4, 3) := by decide +kernel
theorem dX6_lays_234 : decode cX6_lays 234 = .ok (.iconst 0, 1) := by decide +kernel
theorem dX6_lays_235 : decode cX6_lays 235 = .ok (.iadd, 1) := by decide +kernel
theorem dX6_lays_236 : decode cX6_lays 236 = .ok (.iastore, 1) := by decide +kernel
theorem dX6_lays_237 : decode cX6_lays 237 = .ok (.goto 45, 3) := by decide +kernel
theorem dX6_lays_240 : decode cX6_lays 240 = .ok (.aload_n 0, 1) := by decide +kernel
theorem dX6_lays_241 : decode cX6_lays 241 = .ok (.getfield 38, 3) := by decide +kernel
theorem dX6_lays_244 : decode cX6_lays 244 = .ok (.iload 5, 2) := by decide +kernel
theorem dX6_lays_246 : decode cX6_lays 246 = .ok (.iload 4, 2) := by decide +kernel
theorem dX6_lays_248 : decode cX6_lays 248 = .ok (.iload 6, 2) := by decide +kernel
theorem dX6_lays_250 : decode cX6_lays 250 = .ok (.imul, 1) := by decide +kernel
theorem dX6_lays_251 : decode cX6_lays 251 = .ok (.iconst 2, 1) := by decide +kernel
theorem dX6_lays_252 : decode cX6_lays 252 = .ok (.idiv, 1) := by decide +kernel
theorem dX6_lays_253 : decode cX6_lays 253 = .ok (.iastore, 1) := by decide +kernel
theorem dX6_lays_254 : decode cX6_lays 254 = .ok (.aload_n 0, 1) := by decide +kernel
theorem dX6_lays_255 : decode cX6_lays 255 = .ok (.getfield 38, 3) := by decide +kernel
theorem dX6_lays_258 : decode cX6_lays 258 = .ok (.iload 5, 2) := by decide +kernel
theorem dX6_lays_260 : decode cX6_lays 260 = .ok (.iconst 1, 1) := by decide +kernel
theorem dX6_lays_261 : decode cX6_lays 261 = .ok (.iadd, 1) := by decide +kernel
theorem dX6_lays_262 : decode cX6_lays 262 = .ok (.aload_n 0, 1) := by decide +kernel
theorem dX6_lays_263 : decode cX6_lays 263 = .ok (.getfield 35, 3) := by decide +kernel
theorem dX6_lays_266 : decode cX6_lays 266 = .ok (.iload_n 2, 1) := by decide +kernel
theorem dX6_lays_267 : decode cX6_lays 267 = .ok (.iaload, 1) := by decide +kernel
theorem dX6_lays_268 : decode cX6_lays 268 = .ok (.bipush 30, 2) := by decide +kernel
theorem dX6_lays_270 : decode cX6_lays 270 = .ok (.if_icmp .ge 7, 3) := by decide +kernel
theorem dX6_lays_273 : decode cX6_lays 273 = .ok (.iconst 1, 1) := by decide +kernel
theorem dX6_lays_274 : decode cX6_lays 274 = .ok (.goto 4, 3) := by decide +kernel
theorem dX6_lays_277 : decode cX6_lays 277 = .ok (.iconst 0, 1) := by decide +kernel
theorem dX6_lays_278 : decode cX6_lays 278 = .ok (.iastore, 1) := by decide +kernel
theorem dX6_lays_279 : decode cX6_lays 279 = .ok (.goto 3, 3) := by decide +kernel
theorem dX6_lays_282 : decode cX6_lays 282 = .ok (.return_, 1) := by decide +kernel
theorem dX6_stems_0 : decode cX6_stems 0 = .ok (.iconst 3, 1) := by decide +kernel
theorem dX6_stems_1 : decode cX6_stems 1 = .ok (.iload_n 1, 1) := by decide +kernel
theorem dX6_stems_2 : decode cX6_stems 2 = .ok (.iadd, 1) := by decide +kernel
theorem dX6_stems_3 : decode cX6_stems 3 = .ok (.iconst 1, 1) := by decide +kernel
theorem dX6_stems_4 : decode cX6_stems 4 = .ok (.isub, 1) := by decide +kernel
theorem dX6_stems_5 : decode cX6_stems 5 = .ok (.istore_n 2, 1) := by decide +kernel
theorem dX6_stems_6 : decode cX6_stems 6 = .ok (.iconst 0, 1) := by decide +kernel
theorem dX6_stems_7 : decode cX6_stems 7 = .ok (.istore_n 3, 1) := by decide +kernel
theorem dX6_stems_8 : decode cX6_stems 8 = .ok (.iconst 0, 1) := by decide +kernel
theorem dX6_stems_9 : decode cX6_stems 9 = .ok (.istore 4, 2) := by decide +kernel
theorem dX6_stems_11 : decode cX6_stems 11 = .ok (.iload 4, 2) := by decide +kernel
theorem dX6_stems_13 : decode cX6_stems 13 = .ok (.aload_n 0, 1) := by decide +kernel
theorem dX6_stems_14 : decode cX6_stems 14 = .ok (.getfield 150, 3) := by decide +kernel
theorem dX6_stems_17 : decode cX6_stems 17 = .ok (.if_icmp .ge 126, 3) := by decide +kernel
theorem dX6_stems_20 : decode cX6_stems 20 = .ok (.aload_n 0, 1) := by decide +kernel
theorem dX6_stems_21 : decode cX6_stems 21 = .ok (.getfield 32, 3) := by decide +kernel
theorem dX6_stems_24 : decode cX6_stems 24 = .ok (.iload 4, 2) := by decide +kernel
theorem dX6_stems_26 : decode cX6_stems 26 = .ok (.iaload, 1) := by decide +kernel
theorem dX6_stems_27 : decode cX6_stems 27 = .ok (.ifCond .le 9, 3) := by decide +kernel
theorem dX6_stems_30 : decode cX6_stems 30 = .ok (.iconst 4, 1) := by decide +kernel
theorem dX6_stems_31 : decode cX6_stems 31 = .ok (.iload_n 1, 1) := by decide +kernel
theorem dX6_stems_32 : decode cX6_stems 32 = .ok (.imul, 1) := by decide +kernel
theorem dX6_stems_33 : decode cX6_stems 33 = .ok (.goto 19, 3) := by decide +kernel
theorem dX6_stems_36 : decode cX6_stems 36 = .ok (.aload_n 0, 1) := by decide +kernel
theorem dX6_stems_37 : decode cX6_stems 37 = .ok (.getfield 29, 3) := by decide +kernel
theorem dX6_stems_40 : decode cX6_stems 40 = .ok (.iload 4, 2) := by decide +kernel
theorem dX6_stems_42 : decode cX6_stems 42 = .ok (.iaload, 1) := by decide +kernel
theorem dX6_stems_43 : decode cX6_stems 43 = .ok (.iconst 5, 1) := by decide +kernel
theorem dX6_stems_44 : decode cX6_stems 44 = .ok (.if_icmp .ne 7, 3) := by decide +kernel
theorem dX6_stems_47 : decode cX6_stems 47 = .ok (.iconst 1, 1) := by decide +kernel
theorem dX6_stems_48 : decode cX6_stems 48 = .ok (.goto 4, 3) := by decide +kernel
theorem dX6_stems_51 : decode cX6_stems 51 = .ok (.iconst 0, 1) := by decide +kernel
theorem dX6_stems_52 : decode cX6_stems 52 = .ok (.istore 5, 2) := by decide +kernel
theorem dX6_stems_54 : decode cX6_stems 54 = .ok (.iload_n 3, 1) := by decide +kernel
theorem dX6_stems_55 : decode cX6_stems 55 = .ok (.iload 5, 2) := by decide +kernel
theorem dX6_stems_57 : decode cX6_stems 57 = .ok (.if_icmp .ge 7, 3) := by decide +kernel
theorem dX6_stems_60 : decode cX6_stems 60 = .ok (.iload_n 3, 1) := by decide +kernel
theorem dX6_stems_61 : decode cX6_stems 61 = .ok (.goto 5, 3) := by decide +kernel
theorem dX6_stems_64 : decode cX6_stems 64 = .ok (.iload 5, 2) := by decide +kernel
theorem dX6_stems_66 : decode cX6_stems 66 = .ok (.istore 6, 2) := by decide +kernel
theorem dX6_stems_68 : decode cX6_stems 68 = .ok (.aload_n 0, 1) := by decide +kernel
theorem dX6_stems_69 : decode cX6_stems 69 = .ok (.getfield 38, 3) := by decide +kernel
theorem dX6_stems_72 : decode cX6_stems 72 = .ok (.sipush 480, 3) := by decide +kernel
theorem dX6_stems_75 : decode cX6_stems 75 = .ok (.iload_n 2, 1) := by decide +kernel
theorem dX6_stems_76 : decode cX6_stems 76 = .ok (.imul, 1) := by decide +kernel
theorem dX6_stems_77 : decode cX6_stems 77 = .ok (.iconst 4, 1) := by decide +kernel
theorem dX6_stems_78 : decode cX6_stems 78 = .ok (.iload 4, 2) := by decide +kernel
theorem dX6_stems_80 : decode cX6_stems 80 = .ok (.imul, 1) := by decide +kernel
theorem dX6_stems_81 : decode cX6_stems 81 = .ok (.iadd, 1) := by decide +kernel
theorem dX6_stems_82 : decode cX6_stems 82 = .ok (.iload 6, 2) := by decide +kernel
theorem dX6_stems_84 : decode cX6_stems 84 = .ok (.iastore, 1) := by decide +kernel
theorem dX6_stems_85 : decode cX6_stems 85 = .ok (.iload_n 3, 1) := by decide +kernel
theorem dX6_stems_86 : decode cX6_stems 86 = .ok (.aload_n 0, 1) := by decide +kernel
theorem dX6_stems_87 : decode cX6_stems 87 = .ok (.getfield 29, 3) := by decide +kernel
theorem dX6_stems_90 : decode cX6_stems 90 = .ok (.iload 4, 2) := by decide +kernel
theorem dX6_stems_92 : decode cX6_stems 92 = .ok (.iaload, 1) := by decide +kernel
theorem dX6_stems_93 : decode cX6_stems 93 = .ok (.iconst 4, 1) := by decide +kernel
theorem dX6_stems_94 : decode cX6_stems 94 = .ok (.if_icmp .ne 7, 3) := by decide +kernel
theorem dX6_stems_97 : decode cX6_stems 97 = .ok (.iload_n 1, 1) := by decide +kernel
theorem dX6_stems_98 : decode cX6_stems 98 = .ok (.goto 24, 3) := by decide +kernel
theorem dX6_stems_101 : decode cX6_stems 101 = .ok (.aload_n 0, 1) := by decide +kernel
theorem dX6_stems_102 : decode cX6_stems 102 = .ok (.getfield 29, 3) := by decide +kernel
theorem dX6_stems_105 : decode cX6_stems 105 = .ok (.iload 4, 2) := by decide +kernel
theorem dX6_stems_107 : decode cX6_stems 107 = .ok (.iaload, 1) := by decide +kernel
theorem dX6_stems_108 : decode cX6_stems 108 = .ok (.bipush 7, 2) := by decide +kernel
theorem dX6_stems_110 : decode cX6_stems 110 = .ok (.if_icmp .ne 9, 3) := by decide +kernel
theorem dX6_stems_113 : decode cX6_stems 113 = .ok (.iconst 3, 1) := by decide +kernel
theorem dX6_stems_114 : decode cX6_stems 114 = .ok (.iload_n 1, 1) := by decide +kernel
theorem dX6_stems_115 : decode cX6_stems 115 = .ok (.imul, 1) := by decide +kernel
theorem dX6_stems_116 : decode cX6_stems 116 = .ok (.goto 6, 3) := by decide +kernel
theorem dX6_stems_119 : decode cX6_stems 119 = .ok (.iload 6, 2) := by decide +kernel
theorem dX6_stems_121 : decode cX6_stems 121 = .ok (.ineg, 1) := by decide +kernel
theorem dX6_stems_122 : decode cX6_stems 122 = .ok (.iadd, 1) := by decide +kernel
theorem dX6_stems_123 : decode cX6_stems 123 = .ok (.istore_n 3, 1) := by decide +kernel
theorem dX6_stems_124 : decode cX6_stems 124 = .ok (.iload_n 3, 1) := by decide +kernel
theorem dX6_stems_125 : decode cX6_stems 125 = .ok (.bipush 30, 2) := by decide +kernel
theorem dX6_stems_127 : decode cX6_stems 127 = .ok (.if_icmp .le 8, 3) := by decide +kernel
theorem dX6_stems_130 : decode cX6_stems 130 = .ok (.bipush 30, 2) := by decide +kernel
theorem dX6_stems_132 : decode cX6_stems 132 = .ok (.goto 4, 3) := by decide +kernel
theorem dX6_stems_135 : decode cX6_stems 135 = .ok (.iload_n 3, 1) := by decide +kernel
theorem dX6_stems_136 : decode cX6_stems 136 = .ok (.istore_n 3, 1) := by decide +kernel
theorem dX6_stems_137 : decode cX6_stems 137 = .ok (.iinc 4 1, 3) := by decide +kernel
theorem dX6_stems_140 : decode cX6_stems 140 = .ok (.goto (-129), 3) := by decide +kernel
theorem dX6_stems_143 : decode cX6_stems 143 = .ok (.return_, 1) := by decide +kernel
set_option maxRecDepth 20000 in
theorem ggX6_passes_X6_reads : GoodIn wsX6_passes wsX6_reads := goodIn_r _ [10, 11, 2, 12, 13, 14, 15, 3, 4, 16, 17, 18, 9, 19, 20, 21, 22, 23, 24, 25, 26, 27, 28, 29, 30, 31, 32, 33, 34, 35, 36, 37, 49, 50, 51, 52, 53, 54, 55, 56, 57, 58, 59, 60, 61, 62, 63, 64, 65, 66, 67, 68, 69, 70, 71, 72, 73, 74] (by decide +kernel) (by decide +kernel)
set_option maxRecDepth 20000 in
theorem gX6_passes_X6_reads : GoodIn wsX6_passes (wsV RX6 160 RX6 yX6_reads wsX6_reads) := goodIn_app (goodIn_of _ (by decide +kernel)) ggX6_passes_X6_reads
set_option maxRecDepth 20000 in
theorem ggX6_passes_X6_lays : GoodIn wsX6_passes wsX6_lays := goodIn_r _ [41, 4, 1, 5, 42, 43, 9, 44, 49, 50, 51, 52, 53, 54, 55, 56, 57, 58, 59, 60, 61, 62, 63, 64, 65, 66, 67, 68, 69, 70, 71, 72, 73, 74] (by decide +kernel) (by decide +kernel)
set_option maxRecDepth 20000 in
theorem gX6_passes_X6_lays : GoodIn wsX6_passes (wsV RX6 181 RX6 yX6_lays wsX6_lays) := goodIn_app (goodIn_of _ (by decide +kernel)) ggX6_passes_X6_lays
set_option maxRecDepth 20000 in
theorem ggX6_passes_X6_stems : GoodIn wsX6_passes wsX6_stems := goodIn_r _ [48, 2, 4, 3, 5, 49, 50, 51, 52, 53, 54, 55, 56, 57, 58, 59, 60, 61, 62, 63, 64, 65, 66, 67, 68, 69, 70, 71, 72, 73, 74] (by decide +kernel) (by decide +kernel)
set_option maxRecDepth 20000 in
theorem gX6_passes_X6_stems : GoodIn wsX6_passes (wsV RX6 184 RX6 yX6_stems wsX6_stems) := goodIn_app (goodIn_of _ (by decide +kernel)) ggX6_passes_X6_stems
theorem dX6_passes_0 : decode cX6_passes 0 = .ok (.aload_n 0, 1) := by decide +kernel
theorem dX6_passes_1 : decode cX6_passes 1 = .ok (.invokevirtual 160, 3) := by decide +kernel
theorem dX6_passes_4 : decode cX6_passes 4 = .ok (.ifCond .ne 5, 3) := by decide +kernel
theorem dX6_passes_7 : decode cX6_passes 7 = .ok (.iconst 0, 1) := by decide +kernel
theorem dX6_passes_8 : decode cX6_passes 8 = .ok (.ireturn, 1) := by decide +kernel
theorem dX6_passes_9 : decode cX6_passes 9 = .ok (.aload_n 0, 1) := by decide +kernel
theorem dX6_passes_10 : decode cX6_passes 10 = .ok (.getfield 35, 3) := by decide +kernel
theorem dX6_passes_13 : decode cX6_passes 13 = .ok (.iconst 0, 1) := by decide +kernel
theorem dX6_passes_14 : decode cX6_passes 14 = .ok (.iload_n 1, 1) := by decide +kernel
theorem dX6_passes_15 : decode cX6_passes 15 = .ok (.iastore, 1) := by decide +kernel
theorem dX6_passes_16 : decode cX6_passes 16 = .ok (.iconst 0, 1) := by decide +kernel
theorem dX6_passes_17 : decode cX6_passes 17 = .ok (.istore_n 2, 1) := by decide +kernel
theorem dX6_passes_18 : decode cX6_passes 18 = .ok (.iload_n 2, 1) := by decide +kernel
theorem dX6_passes_19 : decode cX6_passes 19 = .ok (.aload_n 0, 1) := by decide +kernel
theorem dX6_passes_20 : decode cX6_passes 20 = .ok (.getfield 150, 3) := by decide +kernel
theorem dX6_passes_23 : decode cX6_passes 23 = .ok (.if_icmp .ge 143, 3) := by decide +kernel
theorem dX6_passes_26 : decode cX6_passes 26 = .ok (.aload_n 0, 1) := by decide +kernel
theorem dX6_passes_27 : decode cX6_passes 27 = .ok (.getfield 29, 3) := by decide +kernel
theorem dX6_passes_30 : decode cX6_passes 30 = .ok (.iload_n 2, 1) := by decide +kernel
theorem dX6_passes_31 : decode cX6_passes 31 = .ok (.iaload, 1) := by decide +kernel
theorem dX6_passes_32 : decode cX6_passes 32 = .ok (.iconst 4, 1) := by decide +kernel
theorem dX6_passes_33 : decode cX6_passes 33 = .ok (.if_icmp .ne 14, 3) := by decide +kernel
theorem dX6_passes_36 : decode cX6_passes 36 = .ok (.aload_n 0, 1) := by decide +kernel
theorem dX6_passes_37 : decode cX6_passes 37 = .ok (.getfield 35, 3) := by decide +kernel
theorem dX6_passes_40 : decode cX6_passes 40 = .ok (.iload_n 2, 1) := by decide +kernel
theorem dX6_passes_41 : decode cX6_passes 41 = .ok (.iaload, 1) := by decide +kernel
theorem dX6_passes_42 : decode cX6_passes 42 = .ok (.iconst 1, 1) := by decide +kernel
theorem dX6_passes_43 : decode cX6_passes 43 = .ok (.isub, 1) := by decide +kernel
theorem dX6_passes_44 : decode cX6_passes 44 = .ok (.goto 20, 3) := by decide +kernel
theorem dX6_passes_47 : decode cX6_passes 47 = .ok (.aload_n 0, 1) := by decide +kernel
theorem dX6_passes_48 : decode cX6_passes 48 = .ok (.getfield 35, 3) := by decide +kernel
theorem dX6_passes_51 : decode cX6_passes 51 = .ok (.iload_n 2, 1) := by decide +kernel
theorem dX6_passes_52 : decode cX6_passes 52 = .ok (.iaload, 1) := by decide +kernel
theorem dX6_passes_53 : decode cX6_passes 53 = .ok (.iconst 2, 1) := by decide +kernel
theorem dX6_passes_54 : decode cX6_passes 54 = .ok (.iadd, 1) := by decide +kernel
theorem dX6_passes_55 : decode cX6_passes 55 = .ok (.aload_n 0, 1) := by decide +kernel
theorem dX6_passes_56 : decode cX6_passes 56 = .ok (.getfield 32, 3) := by decide +kernel
theorem dX6_passes_59 : decode cX6_passes 59 = .ok (.iload_n 2, 1) := by decide +kernel
theorem dX6_passes_60 : decode cX6_passes 60 = .ok (.iaload, 1) := by decide +kernel
theorem dX6_passes_61 : decode cX6_passes 61 = .ok (.iconst 3, 1) := by decide +kernel
theorem dX6_passes_62 : decode cX6_passes 62 = .ok (.idiv, 1) := by decide +kernel
theorem dX6_passes_63 : decode cX6_passes 63 = .ok (.iadd, 1) := by decide +kernel
theorem dX6_passes_64 : decode cX6_passes 64 = .ok (.istore_n 3, 1) := by decide +kernel
theorem dX6_passes_65 : decode cX6_passes 65 = .ok (.aload_n 0, 1) := by decide +kernel
theorem dX6_passes_66 : decode cX6_passes 66 = .ok (.getfield 35, 3) := by decide +kernel
theorem dX6_passes_69 : decode cX6_passes 69 = .ok (.iload_n 2, 1) := by decide +kernel
theorem dX6_passes_70 : decode cX6_passes 70 = .ok (.iconst 1, 1) := by decide +kernel
theorem dX6_passes_71 : decode cX6_passes 71 = .ok (.iadd, 1) := by decide +kernel
theorem dX6_passes_72 : decode cX6_passes 72 = .ok (.iload_n 3, 1) := by decide +kernel
theorem dX6_passes_73 : decode cX6_passes 73 = .ok (.ifCond .ge 7, 3) := by decide +kernel
theorem dX6_passes_76 : decode cX6_passes 76 = .ok (.iconst 0, 1) := by decide +kernel
theorem dX6_passes_77 : decode cX6_passes 77 = .ok (.goto 15, 3) := by decide +kernel
theorem dX6_passes_80 : decode cX6_passes 80 = .ok (.iload_n 3, 1) := by decide +kernel
theorem dX6_passes_81 : decode cX6_passes 81 = .ok (.bipush 100, 2) := by decide +kernel
theorem dX6_passes_83 : decode cX6_passes 83 = .ok (.if_icmp .le 8, 3) := by decide +kernel
theorem dX6_passes_86 : decode cX6_passes 86 = .ok (.bipush 100, 2) := by decide +kernel
theorem dX6_passes_88 : decode cX6_passes 88 = .ok (.goto 4, 3) := by decide +kernel
theorem dX6_passes_91 : decode cX6_passes 91 = .ok (.iload_n 3, 1) := by decide +kernel
theorem dX6_passes_92 : decode cX6_passes 92 = .ok (.iastore, 1) := by decide +kernel
theorem dX6_passes_93 : decode cX6_passes 93 = .ok (.iconst 0, 1) := by decide +kernel
theorem dX6_passes_94 : decode cX6_passes 94 = .ok (.istore 4, 2) := by decide +kernel
theorem dX6_passes_96 : decode cX6_passes 96 = .ok (.iload 4, 2) := by decide +kernel
theorem dX6_passes_98 : decode cX6_passes 98 = .ok (.bipush 21, 2) := by decide +kernel
theorem dX6_passes_100 : decode cX6_passes 100 = .ok (.if_icmp .ge 60, 3) := by decide +kernel
theorem dX6_passes_103 : decode cX6_passes 103 = .ok (.aload_n 0, 1) := by decide +kernel
theorem dX6_passes_104 : decode cX6_passes 104 = .ok (.iload 4, 2) := by decide +kernel
theorem dX6_passes_106 : decode cX6_passes 106 = .ok (.iload_n 2, 1) := by decide +kernel
theorem dX6_passes_107 : decode cX6_passes 107 = .ok (.invokevirtual 181, 3) := by decide +kernel
theorem dX6_passes_110 : decode cX6_passes 110 = .ok (.iconst 0, 1) := by decide +kernel
theorem dX6_passes_111 : decode cX6_passes 111 = .ok (.istore 5, 2) := by decide +kernel
theorem dX6_passes_113 : decode cX6_passes 113 = .ok (.iload 5, 2) := by decide +kernel
theorem dX6_passes_115 : decode cX6_passes 115 = .ok (.iconst 4, 1) := by decide +kernel
theorem dX6_passes_116 : decode cX6_passes 116 = .ok (.if_icmp .ge 38, 3) := by decide +kernel
theorem dX6_passes_119 : decode cX6_passes 119 = .ok (.aload_n 0, 1) := by decide +kernel
theorem dX6_passes_120 : decode cX6_passes 120 = .ok (.getfield 29, 3) := by decide +kernel
theorem dX6_passes_123 : decode cX6_passes 123 = .ok (.iload_n 2, 1) := by decide +kernel
theorem dX6_passes_124 : decode cX6_passes 124 = .ok (.iaload, 1) := by decide +kernel
theorem dX6_passes_125 : decode cX6_passes 125 = .ok (.iconst 4, 1) := by decide +kernel
theorem dX6_passes_126 : decode cX6_passes 126 = .ok (.if_icmp .ne 28, 3) := by decide +kernel
theorem dX6_passes_129 : decode cX6_passes 129 = .ok (.aload_n 0, 1) := by decide +kernel
theorem dX6_passes_130 : decode cX6_passes 130 = .ok (.getfield 38, 3) := by decide +kernel
theorem dX6_passes_133 : decode cX6_passes 133 = .ok (.sipush 480, 3) := by decide +kernel
theorem dX6_passes_136 : decode cX6_passes 136 = .ok (.iload 4, 2) := by decide +kernel
theorem dX6_passes_138 : decode cX6_passes 138 = .ok (.imul, 1) := by decide +kernel
theorem dX6_passes_139 : decode cX6_passes 139 = .ok (.iconst 4, 1) := by decide +kernel
theorem dX6_passes_140 : decode cX6_passes 140 = .ok (.iload_n 2, 1) := by decide +kernel
theorem dX6_passes_141 : decode cX6_passes 141 = .ok (.imul, 1) := by decide +kernel
theorem dX6_passes_142 : decode cX6_passes 142 = .ok (.iadd, 1) := by decide +kernel
theorem dX6_passes_143 : decode cX6_passes 143 = .ok (.iload 5, 2) := by decide +kernel
theorem dX6_passes_145 : decode cX6_passes 145 = .ok (.iadd, 1) := by decide +kernel
theorem dX6_passes_146 : decode cX6_passes 146 = .ok (.iconst 0, 1) := by decide +kernel
theorem dX6_passes_147 : decode cX6_passes 147 = .ok (.iastore, 1) := by decide +kernel
theorem dX6_passes_148 : decode cX6_passes 148 = .ok (.iinc 5 1, 3) := by decide +kernel
theorem dX6_passes_151 : decode cX6_passes 151 = .ok (.goto (-38), 3) := by decide +kernel
theorem dX6_passes_154 : decode cX6_passes 154 = .ok (.iinc 4 1, 3) := by decide +kernel
theorem dX6_passes_157 : decode cX6_passes 157 = .ok (.goto (-61), 3) := by decide +kernel
theorem dX6_passes_160 : decode cX6_passes 160 = .ok (.iinc 2 1, 3) := by decide +kernel
theorem dX6_passes_163 : decode cX6_passes 163 = .ok (.goto (-145), 3) := by decide +kernel
theorem dX6_passes_166 : decode cX6_passes 166 = .ok (.iconst 1, 1) := by decide +kernel
theorem dX6_passes_167 : decode cX6_passes 167 = .ok (.istore_n 2, 1) := by decide +kernel
theorem dX6_passes_168 : decode cX6_passes 168 = .ok (.iload_n 2, 1) := by decide +kernel
theorem dX6_passes_169 : decode cX6_passes 169 = .ok (.iconst 4, 1) := by decide +kernel
theorem dX6_passes_170 : decode cX6_passes 170 = .ok (.if_icmp .ge 14, 3) := by decide +kernel
theorem dX6_passes_173 : decode cX6_passes 173 = .ok (.aload_n 0, 1) := by decide +kernel
theorem dX6_passes_174 : decode cX6_passes 174 = .ok (.iload_n 2, 1) := by decide +kernel
theorem dX6_passes_175 : decode cX6_passes 175 = .ok (.invokevirtual 184, 3) := by decide +kernel
theorem dX6_passes_178 : decode cX6_passes 178 = .ok (.iinc 2 1, 3) := by decide +kernel
theorem dX6_passes_181 : decode cX6_passes 181 = .ok (.goto (-13), 3) := by decide +kernel
theorem dX6_passes_184 : decode cX6_passes 184 = .ok (.iconst 1, 1) := by decide +kernel
theorem dX6_passes_185 : decode cX6_passes 185 = .ok (.ireturn, 1) := by decide +kernel
theorem dX6_given_0 : decode cX6_given 0 = .ok (.iload_n 1, 1) := by decide +kernel
theorem dX6_given_1 : decode cX6_given 1 = .ok (.ifCond .ge 7, 3) := by decide +kernel
theorem dX6_given_4 : decode cX6_given 4 = .ok (.iconst 0, 1) := by decide +kernel
theorem dX6_given_5 : decode cX6_given 5 = .ok (.goto 19, 3) := by decide +kernel
theorem dX6_given_8 : decode cX6_given 8 = .ok (.aload_n 0, 1) := by decide +kernel
theorem dX6_given_9 : decode cX6_given 9 = .ok (.getfield 38, 3) := by decide +kernel
theorem dX6_given_12 : decode cX6_given 12 = .ok (.sipush 480, 3) := by decide +kernel
theorem dX6_given_15 : decode cX6_given 15 = .ok (.iload_n 1, 1) := by decide +kernel
theorem dX6_given_16 : decode cX6_given 16 = .ok (.imul, 1) := by decide +kernel
theorem dX6_given_17 : decode cX6_given 17 = .ok (.iconst 4, 1) := by decide +kernel
theorem dX6_given_18 : decode cX6_given 18 = .ok (.iload_n 2, 1) := by decide +kernel
theorem dX6_given_19 : decode cX6_given 19 = .ok (.imul, 1) := by decide +kernel
theorem dX6_given_20 : decode cX6_given 20 = .ok (.iadd, 1) := by decide +kernel
theorem dX6_given_21 : decode cX6_given 21 = .ok (.iload_n 3, 1) := by decide +kernel
theorem dX6_given_22 : decode cX6_given 22 = .ok (.iadd, 1) := by decide +kernel
theorem dX6_given_23 : decode cX6_given 23 = .ok (.iaload, 1) := by decide +kernel
theorem dX6_given_24 : decode cX6_given 24 = .ok (.ireturn, 1) := by decide +kernel
set_option maxRecDepth 20000 in
theorem ggX6_isMinute_X6_in : GoodIn wsX6_isMinute wsX6_in := goodIn_r _ [5] (by decide +kernel) (by decide +kernel)
set_option maxRecDepth 20000 in
theorem gX6_isMinute_X6_in : GoodIn wsX6_isMinute (va_wsS RX6 100 yX6_in wsX6_in) := goodIn_app (goodIn_of _ (by decide +kernel)) ggX6_isMinute_X6_in
theorem dX6_isMinute_0 : decode cX6_isMinute 0 = .ok (.iload_n 1, 1) := by decide +kernel
theorem dX6_isMinute_1 : decode cX6_isMinute 1 = .ok (.i2l, 1) := by decide +kernel
theorem dX6_isMinute_2 : decode cX6_isMinute 2 = .ok (.lconst 0, 1) := by decide +kernel
theorem dX6_isMinute_3 : decode cX6_isMinute 3 = .ok (.aload_n 0, 1) := by decide +kernel
theorem dX6_isMinute_4 : decode cX6_isMinute 4 = .ok (.getfield 150, 3) := by decide +kernel
theorem dX6_isMinute_7 : decode cX6_isMinute 7 = .ok (.iconst 1, 1) := by decide +kernel
theorem dX6_isMinute_8 : decode cX6_isMinute 8 = .ok (.isub, 1) := by decide +kernel
theorem dX6_isMinute_9 : decode cX6_isMinute 9 = .ok (.i2l, 1) := by decide +kernel
theorem dX6_isMinute_10 : decode cX6_isMinute 10 = .ok (.invokestatic 100, 3) := by decide +kernel
theorem dX6_isMinute_13 : decode cX6_isMinute 13 = .ok (.ireturn, 1) := by decide +kernel
set_option maxRecDepth 20000 in
theorem ggX6_warm_X6_passes : GoodIn wsX6_warm wsX6_passes := goodIn_r _ [8, 3, 2, 9, 10, 11, 12, 13, 14, 7, 15, 16, 17, 18, 19, 20, 21, 22, 23, 24, 25, 1, 26, 27, 28, 29, 30, 31, 32, 33, 34, 35, 36, 37, 38, 39, 40, 41, 42, 43, 44, 45, 46, 47, 48, 49, 50, 51, 52, 66, 67, 68, 69, 70, 71, 72, 73, 74, 75, 76, 77, 78, 79, 80, 81, 82, 83, 84, 85, 86, 87, 88, 89, 90, 91] (by decide +kernel) (by decide +kernel)
set_option maxRecDepth 20000 in
theorem gX6_warm_X6_passes : GoodIn wsX6_warm (wsV RX6 187 RX6 yX6_passes wsX6_passes) := goodIn_app (goodIn_of _ (by decide +kernel)) ggX6_warm_X6_passes
set_option maxRecDepth 20000 in
theorem ggX6_warm_X6_no : GoodIn wsX6_warm wsX6_no := goodIn_r _ [56, 57, 58, 59, 7, 60, 61, 66, 67, 68, 69, 70, 71, 72, 73, 74, 75, 76, 77, 78, 79, 80, 81, 82, 83, 84, 85, 86, 87, 88, 89, 90, 91] (by decide +kernel) (by decide +kernel)
set_option maxRecDepth 20000 in
theorem gX6_warm_X6_no : GoodIn wsX6_warm (wsV RX6 164 RX6 yX6_no wsX6_no) := goodIn_app (goodIn_of _ (by decide +kernel)) ggX6_warm_X6_no
set_option maxRecDepth 20000 in
theorem ggX6_warm_X6_in : GoodIn wsX6_warm wsX6_in := goodIn_r _ [34] (by decide +kernel) (by decide +kernel)
set_option maxRecDepth 20000 in
theorem gX6_warm_X6_in : GoodIn wsX6_warm (va_wsS RX6 100 yX6_in wsX6_in) := goodIn_app (goodIn_of _ (by decide +kernel)) ggX6_warm_X6_in
set_option maxRecDepth 20000 in
theorem ggX6_warm_X6_bad : GoodIn wsX6_warm wsX6_bad := goodIn_r _ [65, 57, 58, 59, 7, 60, 61, 66, 67, 68, 69, 70, 71, 72, 73, 74, 75, 76, 77, 78, 79, 80, 81, 82, 83, 84, 85, 86, 87, 88, 89, 90, 91] (by decide +kernel) (by decide +kernel)
set_option maxRecDepth 20000 in
theorem gX6_warm_X6_bad : GoodIn wsX6_warm (wsV RX6 97 RX6 yX6_bad wsX6_bad) := goodIn_app (goodIn_of _ (by decide +kernel)) ggX6_warm_X6_bad
theorem dX6_warm_0 : decode cX6_warm 0 = .ok (.aload_n 0, 1) := by decide +kernel
theorem dX6_warm_1 : decode cX6_warm 1 = .ok (.aload_n 0, 1) := by decide +kernel
theorem dX6_warm_2 : decode cX6_warm 2 = .ok (.getfield 7, 3) := by decide +kernel
theorem dX6_warm_5 : decode cX6_warm 5 = .ok (.iconst 4, 1) := by decide +kernel
theorem dX6_warm_6 : decode cX6_warm 6 = .ok (.iaload, 1) := by decide +kernel
theorem dX6_warm_7 : decode cX6_warm 7 = .ok (.invokevirtual 187, 3) := by decide +kernel
theorem dX6_warm_10 : decode cX6_warm 10 = .ok (.ifCond .ne 8, 3) := by decide +kernel
theorem dX6_warm_13 : decode cX6_warm 13 = .ok (.aload_n 0, 1) := by decide +kernel
theorem dX6_warm_14 : decode cX6_warm 14 = .ok (.invokevirtual 164, 3) := by decide +kernel
theorem dX6_warm_17 : decode cX6_warm 17 = .ok (.ireturn, 1) := by decide +kernel
theorem dX6_warm_18 : decode cX6_warm 18 = .ok (.iload_n 1, 1) := by decide +kernel
theorem dX6_warm_19 : decode cX6_warm 19 = .ok (.i2l, 1) := by decide +kernel
theorem dX6_warm_20 : decode cX6_warm 20 = .ok (.lconst 0, 1) := by decide +kernel
theorem dX6_warm_21 : decode cX6_warm 21 = .ok (.aload_n 0, 1) := by decide +kernel
theorem dX6_warm_22 : decode cX6_warm 22 = .ok (.getfield 150, 3) := by decide +kernel
theorem dX6_warm_25 : decode cX6_warm 25 = .ok (.i2l, 1) := by decide +kernel
theorem dX6_warm_26 : decode cX6_warm 26 = .ok (.invokestatic 100, 3) := by decide +kernel
theorem dX6_warm_29 : decode cX6_warm 29 = .ok (.ifCond .eq 12, 3) := by decide +kernel
theorem dX6_warm_32 : decode cX6_warm 32 = .ok (.aload_n 0, 1) := by decide +kernel
theorem dX6_warm_33 : decode cX6_warm 33 = .ok (.getfield 35, 3) := by decide +kernel
theorem dX6_warm_36 : decode cX6_warm 36 = .ok (.iload_n 1, 1) := by decide +kernel
theorem dX6_warm_37 : decode cX6_warm 37 = .ok (.iaload, 1) := by decide +kernel
theorem dX6_warm_38 : decode cX6_warm 38 = .ok (.goto 7, 3) := by decide +kernel
theorem dX6_warm_41 : decode cX6_warm 41 = .ok (.aload_n 0, 1) := by decide +kernel
theorem dX6_warm_42 : decode cX6_warm 42 = .ok (.invokevirtual 97, 3) := by decide +kernel
theorem dX6_warm_45 : decode cX6_warm 45 = .ok (.ireturn, 1) := by decide +kernel
set_option maxRecDepth 20000 in
theorem ggX6_gives_X6_passes : GoodIn wsX6_gives wsX6_passes := goodIn_r _ [8, 9, 10, 11, 12, 13, 14, 15, 16, 7, 17, 18, 19, 20, 21, 22, 23, 24, 25, 26, 27, 1, 28, 29, 30, 31, 32, 33, 34, 35, 36, 37, 38, 39, 40, 41, 42, 43, 44, 45, 46, 47, 48, 49, 50, 51, 52, 53, 54, 76, 77, 78, 79, 80, 81, 82, 83, 84, 85, 86, 87, 88, 89, 90, 91, 92, 93, 94, 95, 96, 97, 98, 99, 100, 101] (by decide +kernel) (by decide +kernel)
set_option maxRecDepth 20000 in
theorem gX6_gives_X6_passes : GoodIn wsX6_gives (wsV RX6 187 RX6 yX6_passes wsX6_passes) := goodIn_app (goodIn_of _ (by decide +kernel)) ggX6_gives_X6_passes
set_option maxRecDepth 20000 in
theorem ggX6_gives_X6_no : GoodIn wsX6_gives wsX6_no := goodIn_r _ [58, 59, 60, 61, 7, 62, 63, 76, 77, 78, 79, 80, 81, 82, 83, 84, 85, 86, 87, 88, 89, 90, 91, 92, 93, 94, 95, 96, 97, 98, 99, 100, 101] (by decide +kernel) (by decide +kernel)
set_option maxRecDepth 20000 in
theorem gX6_gives_X6_no : GoodIn wsX6_gives (wsV RX6 164 RX6 yX6_no wsX6_no) := goodIn_app (goodIn_of _ (by decide +kernel)) ggX6_gives_X6_no
set_option maxRecDepth 20000 in
theorem ggX6_gives_X6_in : GoodIn wsX6_gives wsX6_in := goodIn_r _ [36] (by decide +kernel) (by decide +kernel)
set_option maxRecDepth 20000 in
theorem gX6_gives_X6_in : GoodIn wsX6_gives (va_wsS RX6 100 yX6_in wsX6_in) := goodIn_app (goodIn_of _ (by decide +kernel)) ggX6_gives_X6_in
set_option maxRecDepth 20000 in
theorem ggX6_gives_X6_isMinute : GoodIn wsX6_gives wsX6_isMinute := goodIn_r _ [67, 10, 34, 35, 7, 36, 76, 77, 78, 79, 80, 81, 82, 83, 84, 85, 86, 87, 88, 89, 90, 91, 92, 93, 94, 95, 96, 97, 98, 99, 100, 101] (by decide +kernel) (by decide +kernel)
set_option maxRecDepth 20000 in
theorem gX6_gives_X6_isMinute : GoodIn wsX6_gives (wsV RX6 190 RX6 yX6_isMinute wsX6_isMinute) := goodIn_app (goodIn_of _ (by decide +kernel)) ggX6_gives_X6_isMinute
set_option maxRecDepth 20000 in
theorem ggX6_gives_X6_given : GoodIn wsX6_gives wsX6_given := goodIn_r _ [71, 13, 76, 77, 78, 79, 80, 81, 82, 83, 84, 85, 86, 87, 88, 89, 90, 91, 92, 93, 94, 95, 96, 97, 98, 99, 100, 101] (by decide +kernel) (by decide +kernel)
set_option maxRecDepth 20000 in
theorem gX6_gives_X6_given : GoodIn wsX6_gives (wsV RX6 193 RX6 yX6_given wsX6_given) := goodIn_app (goodIn_of _ (by decide +kernel)) ggX6_gives_X6_given
set_option maxRecDepth 20000 in
theorem ggX6_gives_X6_bad : GoodIn wsX6_gives wsX6_bad := goodIn_r _ [75, 59, 60, 61, 7, 62, 63, 76, 77, 78, 79, 80, 81, 82, 83, 84, 85, 86, 87, 88, 89, 90, 91, 92, 93, 94, 95, 96, 97, 98, 99, 100, 101] (by decide +kernel) (by decide +kernel)
set_option maxRecDepth 20000 in
theorem gX6_gives_X6_bad : GoodIn wsX6_gives (wsV RX6 97 RX6 yX6_bad wsX6_bad) := goodIn_app (goodIn_of _ (by decide +kernel)) ggX6_gives_X6_bad
theorem dX6_gives_0 : decode cX6_gives 0 = .ok (.aload_n 0, 1) := by decide +kernel
theorem dX6_gives_1 : decode cX6_gives 1 = .ok (.aload_n 0, 1) := by decide +kernel
theorem dX6_gives_2 : decode cX6_gives 2 = .ok (.getfield 7, 3) := by decide +kernel
theorem dX6_gives_5 : decode cX6_gives 5 = .ok (.iconst 4, 1) := by decide +kernel
theorem dX6_gives_6 : decode cX6_gives 6 = .ok (.iaload, 1) := by decide +kernel
theorem dX6_gives_7 : decode cX6_gives 7 = .ok (.invokevirtual 187, 3) := by decide +kernel
theorem dX6_gives_10 : decode cX6_gives 10 = .ok (.ifCond .ne 8, 3) := by decide +kernel
theorem dX6_gives_13 : decode cX6_gives 13 = .ok (.aload_n 0, 1) := by decide +kernel
theorem dX6_gives_14 : decode cX6_gives 14 = .ok (.invokevirtual 164, 3) := by decide +kernel
theorem dX6_gives_17 : decode cX6_gives 17 = .ok (.ireturn, 1) := by decide +kernel
theorem dX6_gives_18 : decode cX6_gives 18 = .ok (.iload_n 1, 1) := by decide +kernel
theorem dX6_gives_19 : decode cX6_gives 19 = .ok (.i2l, 1) := by decide +kernel
theorem dX6_gives_20 : decode cX6_gives 20 = .ok (.lconst 0, 1) := by decide +kernel
theorem dX6_gives_21 : decode cX6_gives 21 = .ok (.ldc2_w 173, 3) := by decide +kernel
theorem dX6_gives_24 : decode cX6_gives 24 = .ok (.invokestatic 100, 3) := by decide +kernel
theorem dX6_gives_27 : decode cX6_gives 27 = .ok (.ifCond .eq 40, 3) := by decide +kernel
theorem dX6_gives_30 : decode cX6_gives 30 = .ok (.iload_n 2, 1) := by decide +kernel
theorem dX6_gives_31 : decode cX6_gives 31 = .ok (.i2l, 1) := by decide +kernel
theorem dX6_gives_32 : decode cX6_gives 32 = .ok (.lconst 1, 1) := by decide +kernel
theorem dX6_gives_33 : decode cX6_gives 33 = .ok (.ldc2_w 175, 3) := by decide +kernel
theorem dX6_gives_36 : decode cX6_gives 36 = .ok (.invokestatic 100, 3) := by decide +kernel
theorem dX6_gives_39 : decode cX6_gives 39 = .ok (.ifCond .eq 28, 3) := by decide +kernel
theorem dX6_gives_42 : decode cX6_gives 42 = .ok (.iload 4, 2) := by decide +kernel
theorem dX6_gives_44 : decode cX6_gives 44 = .ok (.i2l, 1) := by decide +kernel
theorem dX6_gives_45 : decode cX6_gives 45 = .ok (.lconst 0, 1) := by decide +kernel
theorem dX6_gives_46 : decode cX6_gives 46 = .ok (.ldc2_w 175, 3) := by decide +kernel
theorem dX6_gives_49 : decode cX6_gives 49 = .ok (.invokestatic 100, 3) := by decide +kernel
theorem dX6_gives_52 : decode cX6_gives 52 = .ok (.ifCond .eq 15, 3) := by decide +kernel
theorem dX6_gives_55 : decode cX6_gives 55 = .ok (.aload_n 0, 1) := by decide +kernel
theorem dX6_gives_56 : decode cX6_gives 56 = .ok (.iload_n 3, 1) := by decide +kernel
theorem dX6_gives_57 : decode cX6_gives 57 = .ok (.invokevirtual 190, 3) := by decide +kernel
theorem dX6_gives_60 : decode cX6_gives 60 = .ok (.ifCond .eq 7, 3) := by decide +kernel
theorem dX6_gives_63 : decode cX6_gives 63 = .ok (.iconst 1, 1) := by decide +kernel
theorem dX6_gives_64 : decode cX6_gives 64 = .ok (.goto 4, 3) := by decide +kernel
theorem dX6_gives_67 : decode cX6_gives 67 = .ok (.iconst 0, 1) := by decide +kernel
theorem dX6_gives_68 : decode cX6_gives 68 = .ok (.istore 5, 2) := by decide +kernel
theorem dX6_gives_70 : decode cX6_gives 70 = .ok (.iload 5, 2) := by decide +kernel
theorem dX6_gives_72 : decode cX6_gives 72 = .ok (.ifCond .eq 20, 3) := by decide +kernel
theorem dX6_gives_75 : decode cX6_gives 75 = .ok (.aload_n 0, 1) := by decide +kernel
theorem dX6_gives_76 : decode cX6_gives 76 = .ok (.iconst 3, 1) := by decide +kernel
theorem dX6_gives_77 : decode cX6_gives 77 = .ok (.iload_n 1, 1) := by decide +kernel
theorem dX6_gives_78 : decode cX6_gives 78 = .ok (.imul, 1) := by decide +kernel
theorem dX6_gives_79 : decode cX6_gives 79 = .ok (.iload_n 2, 1) := by decide +kernel
theorem dX6_gives_80 : decode cX6_gives 80 = .ok (.iadd, 1) := by decide +kernel
theorem dX6_gives_81 : decode cX6_gives 81 = .ok (.iconst 1, 1) := by decide +kernel
theorem dX6_gives_82 : decode cX6_gives 82 = .ok (.isub, 1) := by decide +kernel
theorem dX6_gives_83 : decode cX6_gives 83 = .ok (.iload_n 3, 1) := by decide +kernel
theorem dX6_gives_84 : decode cX6_gives 84 = .ok (.iload 4, 2) := by decide +kernel
theorem dX6_gives_86 : decode cX6_gives 86 = .ok (.invokevirtual 193, 3) := by decide +kernel
theorem dX6_gives_89 : decode cX6_gives 89 = .ok (.goto 7, 3) := by decide +kernel
theorem dX6_gives_92 : decode cX6_gives 92 = .ok (.aload_n 0, 1) := by decide +kernel
theorem dX6_gives_93 : decode cX6_gives 93 = .ok (.invokevirtual 97, 3) := by decide +kernel
theorem dX6_gives_96 : decode cX6_gives 96 = .ok (.ireturn, 1) := by decide +kernel
set_option maxRecDepth 20000 in
theorem ggX6_smokeOf_X6_given : GoodIn wsX6_smokeOf wsX6_given := goodIn_r _ [6, 7, 8, 9, 10, 11, 12, 13, 14, 15, 16, 17, 18, 19, 20, 21, 22, 23, 24, 25, 26, 27, 28, 29, 30, 31, 32, 33] (by decide +kernel) (by decide +kernel)
set_option maxRecDepth 20000 in
theorem gX6_smokeOf_X6_given : GoodIn wsX6_smokeOf (wsV RX6 193 RX6 yX6_given wsX6_given) := goodIn_app (goodIn_of _ (by decide +kernel)) ggX6_smokeOf_X6_given
theorem dX6_smokeOf_0 : decode cX6_smokeOf 0 = .ok (.iconst 0, 1) := by decide +kernel
theorem dX6_smokeOf_1 : decode cX6_smokeOf 1 = .ok (.istore 4, 2) := by decide +kernel
theorem dX6_smokeOf_3 : decode cX6_smokeOf 3 = .ok (.iconst 0, 1) := by decide +kernel
theorem dX6_smokeOf_4 : decode cX6_smokeOf 4 = .ok (.istore 5, 2) := by decide +kernel
theorem dX6_smokeOf_6 : decode cX6_smokeOf 6 = .ok (.iload 5, 2) := by decide +kernel
theorem dX6_smokeOf_8 : decode cX6_smokeOf 8 = .ok (.iconst 4, 1) := by decide +kernel
theorem dX6_smokeOf_9 : decode cX6_smokeOf 9 = .ok (.if_icmp .ge 40, 3) := by decide +kernel
theorem dX6_smokeOf_12 : decode cX6_smokeOf 12 = .ok (.iload 4, 2) := by decide +kernel
theorem dX6_smokeOf_14 : decode cX6_smokeOf 14 = .ok (.iload 5, 2) := by decide +kernel
theorem dX6_smokeOf_16 : decode cX6_smokeOf 16 = .ok (.iload_n 3, 1) := by decide +kernel
theorem dX6_smokeOf_17 : decode cX6_smokeOf 17 = .ok (.if_icmp .ne 7, 3) := by decide +kernel
theorem dX6_smokeOf_20 : decode cX6_smokeOf 20 = .ok (.iconst 0, 1) := by decide +kernel
theorem dX6_smokeOf_21 : decode cX6_smokeOf 21 = .ok (.goto 19, 3) := by decide +kernel
theorem dX6_smokeOf_24 : decode cX6_smokeOf 24 = .ok (.aload_n 0, 1) := by decide +kernel
theorem dX6_smokeOf_25 : decode cX6_smokeOf 25 = .ok (.aload_n 0, 1) := by decide +kernel
theorem dX6_smokeOf_26 : decode cX6_smokeOf 26 = .ok (.getfield 7, 3) := by decide +kernel
theorem dX6_smokeOf_29 : decode cX6_smokeOf 29 = .ok (.bipush 15, 2) := by decide +kernel
theorem dX6_smokeOf_31 : decode cX6_smokeOf 31 = .ok (.iload 5, 2) := by decide +kernel
theorem dX6_smokeOf_33 : decode cX6_smokeOf 33 = .ok (.iadd, 1) := by decide +kernel
theorem dX6_smokeOf_34 : decode cX6_smokeOf 34 = .ok (.iaload, 1) := by decide +kernel
theorem dX6_smokeOf_35 : decode cX6_smokeOf 35 = .ok (.iload_n 1, 1) := by decide +kernel
theorem dX6_smokeOf_36 : decode cX6_smokeOf 36 = .ok (.iload_n 2, 1) := by decide +kernel
theorem dX6_smokeOf_37 : decode cX6_smokeOf 37 = .ok (.invokevirtual 193, 3) := by decide +kernel
theorem dX6_smokeOf_40 : decode cX6_smokeOf 40 = .ok (.iadd, 1) := by decide +kernel
theorem dX6_smokeOf_41 : decode cX6_smokeOf 41 = .ok (.istore 4, 2) := by decide +kernel
theorem dX6_smokeOf_43 : decode cX6_smokeOf 43 = .ok (.iinc 5 1, 3) := by decide +kernel
theorem dX6_smokeOf_46 : decode cX6_smokeOf 46 = .ok (.goto (-40), 3) := by decide +kernel
theorem dX6_smokeOf_49 : decode cX6_smokeOf 49 = .ok (.iload 4, 2) := by decide +kernel
theorem dX6_smokeOf_51 : decode cX6_smokeOf 51 = .ok (.ireturn, 1) := by decide +kernel
set_option maxRecDepth 20000 in
theorem ggX6_smoke_X6_passes : GoodIn wsX6_smoke wsX6_passes := goodIn_r _ [8, 9, 10, 11, 12, 13, 14, 15, 16, 7, 17, 18, 19, 20, 21, 22, 23, 24, 25, 26, 27, 1, 28, 29, 30, 31, 32, 33, 34, 35, 36, 37, 38, 39, 40, 41, 42, 43, 44, 45, 46, 47, 48, 49, 50, 51, 52, 53, 54, 80, 81, 82, 83, 84, 85, 86, 87, 88, 89, 90, 91, 92, 93, 94, 95, 96, 97, 98, 99, 100, 101, 102, 103, 104, 105] (by decide +kernel) (by decide +kernel)
set_option maxRecDepth 20000 in
theorem gX6_smoke_X6_passes : GoodIn wsX6_smoke (wsV RX6 187 RX6 yX6_passes wsX6_passes) := goodIn_app (goodIn_of _ (by decide +kernel)) ggX6_smoke_X6_passes
set_option maxRecDepth 20000 in
theorem ggX6_smoke_X6_no : GoodIn wsX6_smoke wsX6_no := goodIn_r _ [58, 59, 60, 61, 7, 62, 63, 80, 81, 82, 83, 84, 85, 86, 87, 88, 89, 90, 91, 92, 93, 94, 95, 96, 97, 98, 99, 100, 101, 102, 103, 104, 105] (by decide +kernel) (by decide +kernel)
set_option maxRecDepth 20000 in
theorem gX6_smoke_X6_no : GoodIn wsX6_smoke (wsV RX6 164 RX6 yX6_no wsX6_no) := goodIn_app (goodIn_of _ (by decide +kernel)) ggX6_smoke_X6_no
set_option maxRecDepth 20000 in
theorem ggX6_smoke_X6_in : GoodIn wsX6_smoke wsX6_in := goodIn_r _ [36] (by decide +kernel) (by decide +kernel)
set_option maxRecDepth 20000 in
theorem gX6_smoke_X6_in : GoodIn wsX6_smoke (va_wsS RX6 100 yX6_in wsX6_in) := goodIn_app (goodIn_of _ (by decide +kernel)) ggX6_smoke_X6_in
set_option maxRecDepth 20000 in
theorem ggX6_smoke_X6_isMinute : GoodIn wsX6_smoke wsX6_isMinute := goodIn_r _ [67, 10, 34, 35, 7, 36, 80, 81, 82, 83, 84, 85, 86, 87, 88, 89, 90, 91, 92, 93, 94, 95, 96, 97, 98, 99, 100, 101, 102, 103, 104, 105] (by decide +kernel) (by decide +kernel)
set_option maxRecDepth 20000 in
theorem gX6_smoke_X6_isMinute : GoodIn wsX6_smoke (wsV RX6 190 RX6 yX6_isMinute wsX6_isMinute) := goodIn_app (goodIn_of _ (by decide +kernel)) ggX6_smoke_X6_isMinute
set_option maxRecDepth 20000 in
theorem ggX6_smoke_X6_smokeOf : GoodIn wsX6_smoke wsX6_smokeOf := goodIn_r _ [71, 1, 72, 73, 74, 7, 75, 13, 80, 81, 82, 83, 84, 85, 86, 87, 88, 89, 90, 91, 92, 93, 94, 95, 96, 97, 98, 99, 100, 101, 102, 103, 104, 105] (by decide +kernel) (by decide +kernel)
set_option maxRecDepth 20000 in
theorem gX6_smoke_X6_smokeOf : GoodIn wsX6_smoke (wsV RX6 199 RX6 yX6_smokeOf wsX6_smokeOf) := goodIn_app (goodIn_of _ (by decide +kernel)) ggX6_smoke_X6_smokeOf
set_option maxRecDepth 20000 in
theorem ggX6_smoke_X6_bad : GoodIn wsX6_smoke wsX6_bad := goodIn_r _ [79, 59, 60, 61, 7, 62, 63, 80, 81, 82, 83, 84, 85, 86, 87, 88, 89, 90, 91, 92, 93, 94, 95, 96, 97, 98, 99, 100, 101, 102, 103, 104, 105] (by decide +kernel) (by decide +kernel)
set_option maxRecDepth 20000 in
theorem gX6_smoke_X6_bad : GoodIn wsX6_smoke (wsV RX6 97 RX6 yX6_bad wsX6_bad) := goodIn_app (goodIn_of _ (by decide +kernel)) ggX6_smoke_X6_bad
theorem dX6_smoke_0 : decode cX6_smoke 0 = .ok (.aload_n 0, 1) := by decide +kernel
theorem dX6_smoke_1 : decode cX6_smoke 1 = .ok (.aload_n 0, 1) := by decide +kernel
theorem dX6_smoke_2 : decode cX6_smoke 2 = .ok (.getfield 7, 3) := by decide +kernel
theorem dX6_smoke_5 : decode cX6_smoke 5 = .ok (.iconst 4, 1) := by decide +kernel
theorem dX6_smoke_6 : decode cX6_smoke 6 = .ok (.iaload, 1) := by decide +kernel
theorem dX6_smoke_7 : decode cX6_smoke 7 = .ok (.invokevirtual 187, 3) := by decide +kernel
theorem dX6_smoke_10 : decode cX6_smoke 10 = .ok (.ifCond .ne 8, 3) := by decide +kernel
theorem dX6_smoke_13 : decode cX6_smoke 13 = .ok (.aload_n 0, 1) := by decide +kernel
theorem dX6_smoke_14 : decode cX6_smoke 14 = .ok (.invokevirtual 164, 3) := by decide +kernel
theorem dX6_smoke_17 : decode cX6_smoke 17 = .ok (.ireturn, 1) := by decide +kernel
theorem dX6_smoke_18 : decode cX6_smoke 18 = .ok (.iload_n 2, 1) := by decide +kernel
theorem dX6_smoke_19 : decode cX6_smoke 19 = .ok (.i2l, 1) := by decide +kernel
theorem dX6_smoke_20 : decode cX6_smoke 20 = .ok (.lconst 0, 1) := by decide +kernel
theorem dX6_smoke_21 : decode cX6_smoke 21 = .ok (.ldc2_w 175, 3) := by decide +kernel
theorem dX6_smoke_24 : decode cX6_smoke 24 = .ok (.invokestatic 100, 3) := by decide +kernel
theorem dX6_smoke_27 : decode cX6_smoke 27 = .ok (.ifCond .eq 35, 3) := by decide +kernel
theorem dX6_smoke_30 : decode cX6_smoke 30 = .ok (.iload_n 3, 1) := by decide +kernel
theorem dX6_smoke_31 : decode cX6_smoke 31 = .ok (.i2l, 1) := by decide +kernel
theorem dX6_smoke_32 : decode cX6_smoke 32 = .ok (.ldc2_w 197, 3) := by decide +kernel
theorem dX6_smoke_35 : decode cX6_smoke 35 = .ok (.ldc2_w 175, 3) := by decide +kernel
theorem dX6_smoke_38 : decode cX6_smoke 38 = .ok (.invokestatic 100, 3) := by decide +kernel
theorem dX6_smoke_41 : decode cX6_smoke 41 = .ok (.ifCond .eq 21, 3) := by decide +kernel
theorem dX6_smoke_44 : decode cX6_smoke 44 = .ok (.aload_n 0, 1) := by decide +kernel
theorem dX6_smoke_45 : decode cX6_smoke 45 = .ok (.iload_n 1, 1) := by decide +kernel
theorem dX6_smoke_46 : decode cX6_smoke 46 = .ok (.invokevirtual 190, 3) := by decide +kernel
theorem dX6_smoke_49 : decode cX6_smoke 49 = .ok (.ifCond .eq 13, 3) := by decide +kernel
theorem dX6_smoke_52 : decode cX6_smoke 52 = .ok (.aload_n 0, 1) := by decide +kernel
theorem dX6_smoke_53 : decode cX6_smoke 53 = .ok (.iload_n 1, 1) := by decide +kernel
theorem dX6_smoke_54 : decode cX6_smoke 54 = .ok (.iload_n 2, 1) := by decide +kernel
theorem dX6_smoke_55 : decode cX6_smoke 55 = .ok (.iload_n 3, 1) := by decide +kernel
theorem dX6_smoke_56 : decode cX6_smoke 56 = .ok (.invokevirtual 199, 3) := by decide +kernel
theorem dX6_smoke_59 : decode cX6_smoke 59 = .ok (.goto 7, 3) := by decide +kernel
theorem dX6_smoke_62 : decode cX6_smoke 62 = .ok (.aload_n 0, 1) := by decide +kernel
theorem dX6_smoke_63 : decode cX6_smoke 63 = .ok (.invokevirtual 97, 3) := by decide +kernel
theorem dX6_smoke_66 : decode cX6_smoke 66 = .ok (.ireturn, 1) := by decide +kernel
set_option maxRecDepth 20000 in
theorem ggX6_goes_X6_in : GoodIn wsX6_goes wsX6_in := goodIn_r _ [6] (by decide +kernel) (by decide +kernel)
set_option maxRecDepth 20000 in
theorem gX6_goes_X6_in : GoodIn wsX6_goes (va_wsS RX6 100 yX6_in wsX6_in) := goodIn_app (goodIn_of _ (by decide +kernel)) ggX6_goes_X6_in
set_option maxRecDepth 20000 in
theorem ggX6_goes_X6_bad : GoodIn wsX6_goes wsX6_bad := goodIn_r _ [10, 11, 12, 13, 5, 14, 15, 74, 75, 76, 77, 78, 79, 80, 81, 82, 83, 84, 85, 86, 87, 88, 89, 90, 91, 92, 93, 94, 95, 96, 97, 98, 99] (by decide +kernel) (by decide +kernel)
set_option maxRecDepth 20000 in
theorem gX6_goes_X6_bad : GoodIn wsX6_goes (wsV RX6 97 RX6 yX6_bad wsX6_bad) := goodIn_app (goodIn_of _ (by decide +kernel)) ggX6_goes_X6_bad
set_option maxRecDepth 20000 in
theorem ggX6_goes_X6_passes : GoodIn wsX6_goes wsX6_passes := goodIn_r _ [19, 20, 2, 21, 22, 23, 24, 25, 26, 5, 27, 28, 29, 30, 31, 32, 33, 34, 35, 36, 37, 1, 38, 39, 40, 41, 42, 43, 3, 4, 6, 44, 45, 46, 47, 48, 49, 50, 51, 52, 53, 54, 55, 56, 57, 58, 59, 60, 61, 74, 75, 76, 77, 78, 79, 80, 81, 82, 83, 84, 85, 86, 87, 88, 89, 90, 91, 92, 93, 94, 95, 96, 97, 98, 99] (by decide +kernel) (by decide +kernel)
set_option maxRecDepth 20000 in
theorem gX6_goes_X6_passes : GoodIn wsX6_goes (wsV RX6 187 RX6 yX6_passes wsX6_passes) := goodIn_app (goodIn_of _ (by decide +kernel)) ggX6_goes_X6_passes
set_option maxRecDepth 20000 in
theorem ggX6_goes_X6_no : GoodIn wsX6_goes wsX6_no := goodIn_r _ [65, 11, 12, 13, 5, 14, 15, 74, 75, 76, 77, 78, 79, 80, 81, 82, 83, 84, 85, 86, 87, 88, 89, 90, 91, 92, 93, 94, 95, 96, 97, 98, 99] (by decide +kernel) (by decide +kernel)
set_option maxRecDepth 20000 in
theorem gX6_goes_X6_no : GoodIn wsX6_goes (wsV RX6 164 RX6 yX6_no wsX6_no) := goodIn_app (goodIn_of _ (by decide +kernel)) ggX6_goes_X6_no
set_option maxRecDepth 20000 in
theorem ggX6_goes_X6_smokeOf : GoodIn wsX6_goes wsX6_smokeOf := goodIn_r _ [69, 1, 70, 71, 72, 5, 73, 23, 74, 75, 76, 77, 78, 79, 80, 81, 82, 83, 84, 85, 86, 87, 88, 89, 90, 91, 92, 93, 94, 95, 96, 97, 98, 99] (by decide +kernel) (by decide +kernel)
set_option maxRecDepth 20000 in
theorem gX6_goes_X6_smokeOf : GoodIn wsX6_goes (wsV RX6 199 RX6 yX6_smokeOf wsX6_smokeOf) := goodIn_app (goodIn_of _ (by decide +kernel)) ggX6_goes_X6_smokeOf
