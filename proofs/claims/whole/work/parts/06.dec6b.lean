theorem dX6_goes_0 : decode cX6_goes 0 = .ok (.iload_n 1, 1) := by decide +kernel
theorem dX6_goes_1 : decode cX6_goes 1 = .ok (.i2l, 1) := by decide +kernel
theorem dX6_goes_2 : decode cX6_goes 2 = .ok (.lconst 0, 1) := by decide +kernel
theorem dX6_goes_3 : decode cX6_goes 3 = .ok (.lconst 1, 1) := by decide +kernel
theorem dX6_goes_4 : decode cX6_goes 4 = .ok (.invokestatic 100, 3) := by decide +kernel
theorem dX6_goes_7 : decode cX6_goes 7 = .ok (.ifCond .ne 8, 3) := by decide +kernel
theorem dX6_goes_10 : decode cX6_goes 10 = .ok (.aload_n 0, 1) := by decide +kernel
theorem dX6_goes_11 : decode cX6_goes 11 = .ok (.invokevirtual 97, 3) := by decide +kernel
theorem dX6_goes_14 : decode cX6_goes 14 = .ok (.ireturn, 1) := by decide +kernel
theorem dX6_goes_15 : decode cX6_goes 15 = .ok (.aload_n 0, 1) := by decide +kernel
theorem dX6_goes_16 : decode cX6_goes 16 = .ok (.aload_n 0, 1) := by decide +kernel
theorem dX6_goes_17 : decode cX6_goes 17 = .ok (.getfield 7, 3) := by decide +kernel
theorem dX6_goes_20 : decode cX6_goes 20 = .ok (.iconst 4, 1) := by decide +kernel
theorem dX6_goes_21 : decode cX6_goes 21 = .ok (.iaload, 1) := by decide +kernel
theorem dX6_goes_22 : decode cX6_goes 22 = .ok (.invokevirtual 187, 3) := by decide +kernel
theorem dX6_goes_25 : decode cX6_goes 25 = .ok (.ifCond .ne 8, 3) := by decide +kernel
theorem dX6_goes_28 : decode cX6_goes 28 = .ok (.aload_n 0, 1) := by decide +kernel
theorem dX6_goes_29 : decode cX6_goes 29 = .ok (.invokevirtual 164, 3) := by decide +kernel
theorem dX6_goes_32 : decode cX6_goes 32 = .ok (.ireturn, 1) := by decide +kernel
theorem dX6_goes_33 : decode cX6_goes 33 = .ok (.iconst 0, 1) := by decide +kernel
theorem dX6_goes_34 : decode cX6_goes 34 = .ok (.istore_n 2, 1) := by decide +kernel
theorem dX6_goes_35 : decode cX6_goes 35 = .ok (.iconst 0, 1) := by decide +kernel
theorem dX6_goes_36 : decode cX6_goes 36 = .ok (.istore_n 3, 1) := by decide +kernel
theorem dX6_goes_37 : decode cX6_goes 37 = .ok (.iload_n 3, 1) := by decide +kernel
theorem dX6_goes_38 : decode cX6_goes 38 = .ok (.aload_n 0, 1) := by decide +kernel
theorem dX6_goes_39 : decode cX6_goes 39 = .ok (.getfield 150, 3) := by decide +kernel
theorem dX6_goes_42 : decode cX6_goes 42 = .ok (.if_icmp .ge 19, 3) := by decide +kernel
theorem dX6_goes_45 : decode cX6_goes 45 = .ok (.iload_n 2, 1) := by decide +kernel
theorem dX6_goes_46 : decode cX6_goes 46 = .ok (.aload_n 0, 1) := by decide +kernel
theorem dX6_goes_47 : decode cX6_goes 47 = .ok (.iload_n 3, 1) := by decide +kernel
theorem dX6_goes_48 : decode cX6_goes 48 = .ok (.iload_n 1, 1) := by decide +kernel
theorem dX6_goes_49 : decode cX6_goes 49 = .ok (.iconst (-1), 1) := by decide +kernel
theorem dX6_goes_50 : decode cX6_goes 50 = .ok (.invokevirtual 199, 3) := by decide +kernel
theorem dX6_goes_53 : decode cX6_goes 53 = .ok (.iadd, 1) := by decide +kernel
theorem dX6_goes_54 : decode cX6_goes 54 = .ok (.istore_n 2, 1) := by decide +kernel
theorem dX6_goes_55 : decode cX6_goes 55 = .ok (.iinc 3 1, 3) := by decide +kernel
theorem dX6_goes_58 : decode cX6_goes 58 = .ok (.goto (-21), 3) := by decide +kernel
theorem dX6_goes_61 : decode cX6_goes 61 = .ok (.iload_n 2, 1) := by decide +kernel
theorem dX6_goes_62 : decode cX6_goes 62 = .ok (.ireturn, 1) := by decide +kernel
set_option maxRecDepth 20000 in
theorem ggX6_look_X6_in : GoodIn wsX6_look wsX6_in := goodIn_r _ [9] (by decide +kernel) (by decide +kernel)
set_option maxRecDepth 20000 in
theorem gX6_look_X6_in : GoodIn wsX6_look (va_wsS RX6 100 yX6_in wsX6_in) := goodIn_app (goodIn_of _ (by decide +kernel)) ggX6_look_X6_in
set_option maxRecDepth 20000 in
theorem ggX6_look_X6_bad : GoodIn wsX6_look wsX6_bad := goodIn_r _ [13, 14, 15, 16, 8, 17, 18, 23, 24, 25, 26, 27, 28, 29, 30, 31, 32, 33, 34, 35, 36, 37, 38, 39, 40, 41, 42, 43, 44, 45, 46, 47, 48] (by decide +kernel) (by decide +kernel)
set_option maxRecDepth 20000 in
theorem gX6_look_X6_bad : GoodIn wsX6_look (wsV RX6 97 RX6 yX6_bad wsX6_bad) := goodIn_app (goodIn_of _ (by decide +kernel)) ggX6_look_X6_bad
set_option maxRecDepth 20000 in
theorem ggX6_look_X6_full : GoodIn wsX6_look wsX6_full := goodIn_r _ [22, 14, 15, 16, 8, 17, 18, 23, 24, 25, 26, 27, 28, 29, 30, 31, 32, 33, 34, 35, 36, 37, 38, 39, 40, 41, 42, 43, 44, 45, 46, 47, 48] (by decide +kernel) (by decide +kernel)
set_option maxRecDepth 20000 in
theorem gX6_look_X6_full : GoodIn wsX6_look (wsV RX6 109 RX6 yX6_full wsX6_full) := goodIn_app (goodIn_of _ (by decide +kernel)) ggX6_look_X6_full
theorem dX6_look_0 : decode cX6_look 0 = .ok (.iload_n 1, 1) := by decide +kernel
theorem dX6_look_1 : decode cX6_look 1 = .ok (.i2l, 1) := by decide +kernel
theorem dX6_look_2 : decode cX6_look 2 = .ok (.lconst 0, 1) := by decide +kernel
theorem dX6_look_3 : decode cX6_look 3 = .ok (.ldc2_w 202, 3) := by decide +kernel
theorem dX6_look_6 : decode cX6_look 6 = .ok (.invokestatic 100, 3) := by decide +kernel
theorem dX6_look_9 : decode cX6_look 9 = .ok (.ifCond .eq 42, 3) := by decide +kernel
theorem dX6_look_12 : decode cX6_look 12 = .ok (.iload_n 2, 1) := by decide +kernel
theorem dX6_look_13 : decode cX6_look 13 = .ok (.i2l, 1) := by decide +kernel
theorem dX6_look_14 : decode cX6_look 14 = .ok (.lconst 0, 1) := by decide +kernel
theorem dX6_look_15 : decode cX6_look 15 = .ok (.ldc2_w 175, 3) := by decide +kernel
theorem dX6_look_18 : decode cX6_look 18 = .ok (.invokestatic 100, 3) := by decide +kernel
theorem dX6_look_21 : decode cX6_look 21 = .ok (.ifCond .eq 30, 3) := by decide +kernel
theorem dX6_look_24 : decode cX6_look 24 = .ok (.iload_n 3, 1) := by decide +kernel
theorem dX6_look_25 : decode cX6_look 25 = .ok (.i2l, 1) := by decide +kernel
theorem dX6_look_26 : decode cX6_look 26 = .ok (.ldc2_w 197, 3) := by decide +kernel
theorem dX6_look_29 : decode cX6_look 29 = .ok (.ldc2_w 175, 3) := by decide +kernel
theorem dX6_look_32 : decode cX6_look 32 = .ok (.invokestatic 100, 3) := by decide +kernel
theorem dX6_look_35 : decode cX6_look 35 = .ok (.ifCond .eq 16, 3) := by decide +kernel
theorem dX6_look_38 : decode cX6_look 38 = .ok (.iload 4, 2) := by decide +kernel
theorem dX6_look_40 : decode cX6_look 40 = .ok (.i2l, 1) := by decide +kernel
theorem dX6_look_41 : decode cX6_look 41 = .ok (.lconst 0, 1) := by decide +kernel
theorem dX6_look_42 : decode cX6_look 42 = .ok (.ldc2_w 204, 3) := by decide +kernel
theorem dX6_look_45 : decode cX6_look 45 = .ok (.invokestatic 100, 3) := by decide +kernel
theorem dX6_look_48 : decode cX6_look 48 = .ok (.ifCond .ne 8, 3) := by decide +kernel
theorem dX6_look_51 : decode cX6_look 51 = .ok (.aload_n 0, 1) := by decide +kernel
theorem dX6_look_52 : decode cX6_look 52 = .ok (.invokevirtual 97, 3) := by decide +kernel
theorem dX6_look_55 : decode cX6_look 55 = .ok (.ireturn, 1) := by decide +kernel
theorem dX6_look_56 : decode cX6_look 56 = .ok (.aload_n 0, 1) := by decide +kernel
theorem dX6_look_57 : decode cX6_look 57 = .ok (.getfield 7, 3) := by decide +kernel
theorem dX6_look_60 : decode cX6_look 60 = .ok (.iconst 1, 1) := by decide +kernel
theorem dX6_look_61 : decode cX6_look 61 = .ok (.iaload, 1) := by decide +kernel
theorem dX6_look_62 : decode cX6_look 62 = .ok (.bipush 8, 2) := by decide +kernel
theorem dX6_look_64 : decode cX6_look 64 = .ok (.if_icmp .ne 8, 3) := by decide +kernel
theorem dX6_look_67 : decode cX6_look 67 = .ok (.aload_n 0, 1) := by decide +kernel
theorem dX6_look_68 : decode cX6_look 68 = .ok (.invokevirtual 109, 3) := by decide +kernel
theorem dX6_look_71 : decode cX6_look 71 = .ok (.ireturn, 1) := by decide +kernel
theorem dX6_look_72 : decode cX6_look 72 = .ok (.bipush 20, 2) := by decide +kernel
theorem dX6_look_74 : decode cX6_look 74 = .ok (.iconst 4, 1) := by decide +kernel
theorem dX6_look_75 : decode cX6_look 75 = .ok (.aload_n 0, 1) := by decide +kernel
theorem dX6_look_76 : decode cX6_look 76 = .ok (.getfield 7, 3) := by decide +kernel
theorem dX6_look_79 : decode cX6_look 79 = .ok (.iconst 1, 1) := by decide +kernel
theorem dX6_look_80 : decode cX6_look 80 = .ok (.iaload, 1) := by decide +kernel
theorem dX6_look_81 : decode cX6_look 81 = .ok (.imul, 1) := by decide +kernel
theorem dX6_look_82 : decode cX6_look 82 = .ok (.iadd, 1) := by decide +kernel
theorem dX6_look_83 : decode cX6_look 83 = .ok (.istore 5, 2) := by decide +kernel
theorem dX6_look_85 : decode cX6_look 85 = .ok (.aload_n 0, 1) := by decide +kernel
theorem dX6_look_86 : decode cX6_look 86 = .ok (.getfield 7, 3) := by decide +kernel
theorem dX6_look_89 : decode cX6_look 89 = .ok (.iload 5, 2) := by decide +kernel
theorem dX6_look_91 : decode cX6_look 91 = .ok (.iload_n 1, 1) := by decide +kernel
theorem dX6_look_92 : decode cX6_look 92 = .ok (.iastore, 1) := by decide +kernel
theorem dX6_look_93 : decode cX6_look 93 = .ok (.aload_n 0, 1) := by decide +kernel
theorem dX6_look_94 : decode cX6_look 94 = .ok (.getfield 7, 3) := by decide +kernel
theorem dX6_look_97 : decode cX6_look 97 = .ok (.iload 5, 2) := by decide +kernel
theorem dX6_look_99 : decode cX6_look 99 = .ok (.iconst 1, 1) := by decide +kernel
theorem dX6_look_100 : decode cX6_look 100 = .ok (.iadd, 1) := by decide +kernel
theorem dX6_look_101 : decode cX6_look 101 = .ok (.iload_n 2, 1) := by decide +kernel
theorem dX6_look_102 : decode cX6_look 102 = .ok (.iastore, 1) := by decide +kernel
theorem dX6_look_103 : decode cX6_look 103 = .ok (.aload_n 0, 1) := by decide +kernel
theorem dX6_look_104 : decode cX6_look 104 = .ok (.getfield 7, 3) := by decide +kernel
theorem dX6_look_107 : decode cX6_look 107 = .ok (.iload 5, 2) := by decide +kernel
theorem dX6_look_109 : decode cX6_look 109 = .ok (.iconst 2, 1) := by decide +kernel
theorem dX6_look_110 : decode cX6_look 110 = .ok (.iadd, 1) := by decide +kernel
theorem dX6_look_111 : decode cX6_look 111 = .ok (.iload_n 3, 1) := by decide +kernel
theorem dX6_look_112 : decode cX6_look 112 = .ok (.iastore, 1) := by decide +kernel
theorem dX6_look_113 : decode cX6_look 113 = .ok (.aload_n 0, 1) := by decide +kernel
theorem dX6_look_114 : decode cX6_look 114 = .ok (.getfield 7, 3) := by decide +kernel
theorem dX6_look_117 : decode cX6_look 117 = .ok (.iload 5, 2) := by decide +kernel
theorem dX6_look_119 : decode cX6_look 119 = .ok (.iconst 3, 1) := by decide +kernel
theorem dX6_look_120 : decode cX6_look 120 = .ok (.iadd, 1) := by decide +kernel
theorem dX6_look_121 : decode cX6_look 121 = .ok (.iload 4, 2) := by decide +kernel
theorem dX6_look_123 : decode cX6_look 123 = .ok (.iastore, 1) := by decide +kernel
theorem dX6_look_124 : decode cX6_look 124 = .ok (.aload_n 0, 1) := by decide +kernel
theorem dX6_look_125 : decode cX6_look 125 = .ok (.getfield 7, 3) := by decide +kernel
theorem dX6_look_128 : decode cX6_look 128 = .ok (.iconst 1, 1) := by decide +kernel
theorem dX6_look_129 : decode cX6_look 129 = .ok (.dup2, 1) := by decide +kernel
theorem dX6_look_130 : decode cX6_look 130 = .ok (.iaload, 1) := by decide +kernel
theorem dX6_look_131 : decode cX6_look 131 = .ok (.iconst 1, 1) := by decide +kernel
theorem dX6_look_132 : decode cX6_look 132 = .ok (.iadd, 1) := by decide +kernel
theorem dX6_look_133 : decode cX6_look 133 = .ok (.iastore, 1) := by decide +kernel
theorem dX6_look_134 : decode cX6_look 134 = .ok (.aload_n 0, 1) := by decide +kernel
theorem dX6_look_135 : decode cX6_look 135 = .ok (.getfield 7, 3) := by decide +kernel
theorem dX6_look_138 : decode cX6_look 138 = .ok (.iconst 1, 1) := by decide +kernel
theorem dX6_look_139 : decode cX6_look 139 = .ok (.iaload, 1) := by decide +kernel
theorem dX6_look_140 : decode cX6_look 140 = .ok (.iconst 1, 1) := by decide +kernel
theorem dX6_look_141 : decode cX6_look 141 = .ok (.isub, 1) := by decide +kernel
theorem dX6_look_142 : decode cX6_look 142 = .ok (.ireturn, 1) := by decide +kernel
set_option maxRecDepth 20000 in
theorem ggX6_forget_X6_puts : GoodIn wsX6_forget wsX6_puts := goodIn_r _ [5, 6, 7, 8, 9, 10, 11, 12, 13, 14, 15, 16, 17, 18, 19, 20, 21, 22, 23, 24, 25, 26, 27, 28, 29, 30, 31, 32] (by decide +kernel) (by decide +kernel)
set_option maxRecDepth 20000 in
theorem gX6_forget_X6_puts : GoodIn wsX6_forget (wsV RX6 114 RX6 yX6_puts wsX6_puts) := goodIn_app (goodIn_of _ (by decide +kernel)) ggX6_forget_X6_puts
theorem dX6_forget_0 : decode cX6_forget 0 = .ok (.aload_n 0, 1) := by decide +kernel
theorem dX6_forget_1 : decode cX6_forget 1 = .ok (.iconst 1, 1) := by decide +kernel
theorem dX6_forget_2 : decode cX6_forget 2 = .ok (.iconst 0, 1) := by decide +kernel
theorem dX6_forget_3 : decode cX6_forget 3 = .ok (.invokevirtual 114, 3) := by decide +kernel
theorem dX6_forget_6 : decode cX6_forget 6 = .ok (.ireturn, 1) := by decide +kernel
set_option maxRecDepth 20000 in
theorem ggX6_opens_X6_in : GoodIn wsX6_opens wsX6_in := goodIn_r _ [9] (by decide +kernel) (by decide +kernel)
set_option maxRecDepth 20000 in
theorem gX6_opens_X6_in : GoodIn wsX6_opens (va_wsS RX6 100 yX6_in wsX6_in) := goodIn_app (goodIn_of _ (by decide +kernel)) ggX6_opens_X6_in
theorem dX6_opens_0 : decode cX6_opens 0 = .ok (.aload_n 0, 1) := by decide +kernel
theorem dX6_opens_1 : decode cX6_opens 1 = .ok (.iconst (-1), 1) := by decide +kernel
theorem dX6_opens_2 : decode cX6_opens 2 = .ok (.putfield 206, 3) := by decide +kernel
theorem dX6_opens_5 : decode cX6_opens 5 = .ok (.aload_n 0, 1) := by decide +kernel
theorem dX6_opens_6 : decode cX6_opens 6 = .ok (.iconst (-1), 1) := by decide +kernel
theorem dX6_opens_7 : decode cX6_opens 7 = .ok (.putfield 209, 3) := by decide +kernel
theorem dX6_opens_10 : decode cX6_opens 10 = .ok (.aload_n 0, 1) := by decide +kernel
theorem dX6_opens_11 : decode cX6_opens 11 = .ok (.iconst (-1), 1) := by decide +kernel
theorem dX6_opens_12 : decode cX6_opens 12 = .ok (.putfield 212, 3) := by decide +kernel
theorem dX6_opens_15 : decode cX6_opens 15 = .ok (.aload_n 0, 1) := by decide +kernel
theorem dX6_opens_16 : decode cX6_opens 16 = .ok (.iconst (-1), 1) := by decide +kernel
theorem dX6_opens_17 : decode cX6_opens 17 = .ok (.putfield 215, 3) := by decide +kernel
theorem dX6_opens_20 : decode cX6_opens 20 = .ok (.iload_n 1, 1) := by decide +kernel
theorem dX6_opens_21 : decode cX6_opens 21 = .ok (.i2l, 1) := by decide +kernel
theorem dX6_opens_22 : decode cX6_opens 22 = .ok (.lconst 1, 1) := by decide +kernel
theorem dX6_opens_23 : decode cX6_opens 23 = .ok (.ldc2_w 218, 3) := by decide +kernel
theorem dX6_opens_26 : decode cX6_opens 26 = .ok (.invokestatic 100, 3) := by decide +kernel
theorem dX6_opens_29 : decode cX6_opens 29 = .ok (.ifCond .eq 23, 3) := by decide +kernel
theorem dX6_opens_32 : decode cX6_opens 32 = .ok (.aload_n 0, 1) := by decide +kernel
theorem dX6_opens_33 : decode cX6_opens 33 = .ok (.iload_n 1, 1) := by decide +kernel
theorem dX6_opens_34 : decode cX6_opens 34 = .ok (.iconst 1, 1) := by decide +kernel
theorem dX6_opens_35 : decode cX6_opens 35 = .ok (.isub, 1) := by decide +kernel
theorem dX6_opens_36 : decode cX6_opens 36 = .ok (.bipush 21, 2) := by decide +kernel
theorem dX6_opens_38 : decode cX6_opens 38 = .ok (.idiv, 1) := by decide +kernel
theorem dX6_opens_39 : decode cX6_opens 39 = .ok (.putfield 206, 3) := by decide +kernel
theorem dX6_opens_42 : decode cX6_opens 42 = .ok (.aload_n 0, 1) := by decide +kernel
theorem dX6_opens_43 : decode cX6_opens 43 = .ok (.iload_n 1, 1) := by decide +kernel
theorem dX6_opens_44 : decode cX6_opens 44 = .ok (.iconst 1, 1) := by decide +kernel
theorem dX6_opens_45 : decode cX6_opens 45 = .ok (.isub, 1) := by decide +kernel
theorem dX6_opens_46 : decode cX6_opens 46 = .ok (.bipush 21, 2) := by decide +kernel
theorem dX6_opens_48 : decode cX6_opens 48 = .ok (.irem, 1) := by decide +kernel
theorem dX6_opens_49 : decode cX6_opens 49 = .ok (.putfield 212, 3) := by decide +kernel
theorem dX6_opens_52 : decode cX6_opens 52 = .ok (.iload_n 1, 1) := by decide +kernel
theorem dX6_opens_53 : decode cX6_opens 53 = .ok (.bipush 84, 2) := by decide +kernel
theorem dX6_opens_55 : decode cX6_opens 55 = .ok (.if_icmp .le 88, 3) := by decide +kernel
theorem dX6_opens_58 : decode cX6_opens 58 = .ok (.iload_n 1, 1) := by decide +kernel
theorem dX6_opens_59 : decode cX6_opens 59 = .ok (.bipush 85, 2) := by decide +kernel
theorem dX6_opens_61 : decode cX6_opens 61 = .ok (.isub, 1) := by decide +kernel
theorem dX6_opens_62 : decode cX6_opens 62 = .ok (.sipush 441, 3) := by decide +kernel
theorem dX6_opens_65 : decode cX6_opens 65 = .ok (.idiv, 1) := by decide +kernel
theorem dX6_opens_66 : decode cX6_opens 66 = .ok (.istore_n 2, 1) := by decide +kernel
theorem dX6_opens_67 : decode cX6_opens 67 = .ok (.aload_n 0, 1) := by decide +kernel
theorem dX6_opens_68 : decode cX6_opens 68 = .ok (.iload_n 2, 1) := by decide +kernel
theorem dX6_opens_69 : decode cX6_opens 69 = .ok (.iconst 3, 1) := by decide +kernel
theorem dX6_opens_70 : decode cX6_opens 70 = .ok (.if_icmp .ge 7, 3) := by decide +kernel
theorem dX6_opens_73 : decode cX6_opens 73 = .ok (.iconst 0, 1) := by decide +kernel
theorem dX6_opens_74 : decode cX6_opens 74 = .ok (.goto 13, 3) := by decide +kernel
theorem dX6_opens_77 : decode cX6_opens 77 = .ok (.iload_n 2, 1) := by decide +kernel
theorem dX6_opens_78 : decode cX6_opens 78 = .ok (.iconst 5, 1) := by decide +kernel
theorem dX6_opens_79 : decode cX6_opens 79 = .ok (.if_icmp .ge 7, 3) := by decide +kernel
theorem dX6_opens_82 : decode cX6_opens 82 = .ok (.iconst 1, 1) := by decide +kernel
theorem dX6_opens_83 : decode cX6_opens 83 = .ok (.goto 4, 3) := by decide +kernel
theorem dX6_opens_86 : decode cX6_opens 86 = .ok (.iconst 2, 1) := by decide +kernel
theorem dX6_opens_87 : decode cX6_opens 87 = .ok (.putfield 206, 3) := by decide +kernel
theorem dX6_opens_90 : decode cX6_opens 90 = .ok (.aload_n 0, 1) := by decide +kernel
theorem dX6_opens_91 : decode cX6_opens 91 = .ok (.iload_n 2, 1) := by decide +kernel
theorem dX6_opens_92 : decode cX6_opens 92 = .ok (.iconst 3, 1) := by decide +kernel
theorem dX6_opens_93 : decode cX6_opens 93 = .ok (.if_icmp .ge 9, 3) := by decide +kernel
theorem dX6_opens_96 : decode cX6_opens 96 = .ok (.iload_n 2, 1) := by decide +kernel
theorem dX6_opens_97 : decode cX6_opens 97 = .ok (.iconst 1, 1) := by decide +kernel
theorem dX6_opens_98 : decode cX6_opens 98 = .ok (.iadd, 1) := by decide +kernel
theorem dX6_opens_99 : decode cX6_opens 99 = .ok (.goto 15, 3) := by decide +kernel
theorem dX6_opens_102 : decode cX6_opens 102 = .ok (.iload_n 2, 1) := by decide +kernel
theorem dX6_opens_103 : decode cX6_opens 103 = .ok (.iconst 5, 1) := by decide +kernel
theorem dX6_opens_104 : decode cX6_opens 104 = .ok (.if_icmp .ge 9, 3) := by decide +kernel
theorem dX6_opens_107 : decode cX6_opens 107 = .ok (.iload_n 2, 1) := by decide +kernel
theorem dX6_opens_108 : decode cX6_opens 108 = .ok (.iconst 1, 1) := by decide +kernel
theorem dX6_opens_109 : decode cX6_opens 109 = .ok (.isub, 1) := by decide +kernel
theorem dX6_opens_110 : decode cX6_opens 110 = .ok (.goto 4, 3) := by decide +kernel
theorem dX6_opens_113 : decode cX6_opens 113 = .ok (.iconst 3, 1) := by decide +kernel
theorem dX6_opens_114 : decode cX6_opens 114 = .ok (.putfield 209, 3) := by decide +kernel
theorem dX6_opens_117 : decode cX6_opens 117 = .ok (.aload_n 0, 1) := by decide +kernel
theorem dX6_opens_118 : decode cX6_opens 118 = .ok (.iload_n 1, 1) := by decide +kernel
theorem dX6_opens_119 : decode cX6_opens 119 = .ok (.bipush 85, 2) := by decide +kernel
theorem dX6_opens_121 : decode cX6_opens 121 = .ok (.isub, 1) := by decide +kernel
theorem dX6_opens_122 : decode cX6_opens 122 = .ok (.sipush 441, 3) := by decide +kernel
theorem dX6_opens_125 : decode cX6_opens 125 = .ok (.irem, 1) := by decide +kernel
theorem dX6_opens_126 : decode cX6_opens 126 = .ok (.bipush 21, 2) := by decide +kernel
theorem dX6_opens_128 : decode cX6_opens 128 = .ok (.idiv, 1) := by decide +kernel
theorem dX6_opens_129 : decode cX6_opens 129 = .ok (.putfield 212, 3) := by decide +kernel
theorem dX6_opens_132 : decode cX6_opens 132 = .ok (.aload_n 0, 1) := by decide +kernel
theorem dX6_opens_133 : decode cX6_opens 133 = .ok (.iload_n 1, 1) := by decide +kernel
theorem dX6_opens_134 : decode cX6_opens 134 = .ok (.bipush 85, 2) := by decide +kernel
theorem dX6_opens_136 : decode cX6_opens 136 = .ok (.isub, 1) := by decide +kernel
theorem dX6_opens_137 : decode cX6_opens 137 = .ok (.bipush 21, 2) := by decide +kernel
theorem dX6_opens_139 : decode cX6_opens 139 = .ok (.irem, 1) := by decide +kernel
theorem dX6_opens_140 : decode cX6_opens 140 = .ok (.putfield 215, 3) := by decide +kernel
theorem dX6_opens_143 : decode cX6_opens 143 = .ok (.return_, 1) := by decide +kernel
set_option maxRecDepth 20000 in
theorem ggX6_levelOf_X6_given : GoodIn wsX6_levelOf wsX6_given := goodIn_r _ [10, 11, 12, 13, 14, 15, 16, 17, 18, 19, 20, 21, 22, 23, 24, 25, 26, 27, 28, 29, 30, 31, 32, 33, 34, 35, 36, 37] (by decide +kernel) (by decide +kernel)
set_option maxRecDepth 20000 in
theorem gX6_levelOf_X6_given : GoodIn wsX6_levelOf (wsV RX6 193 RX6 yX6_given wsX6_given) := goodIn_app (goodIn_of _ (by decide +kernel)) ggX6_levelOf_X6_given
theorem dX6_levelOf_0 : decode cX6_levelOf 0 = .ok (.iconst 0, 1) := by decide +kernel
theorem dX6_levelOf_1 : decode cX6_levelOf 1 = .ok (.istore 4, 2) := by decide +kernel
theorem dX6_levelOf_3 : decode cX6_levelOf 3 = .ok (.aload_n 0, 1) := by decide +kernel
theorem dX6_levelOf_4 : decode cX6_levelOf 4 = .ok (.getfield 206, 3) := by decide +kernel
theorem dX6_levelOf_7 : decode cX6_levelOf 7 = .ok (.iconst (-1), 1) := by decide +kernel
theorem dX6_levelOf_8 : decode cX6_levelOf 8 = .ok (.if_icmp .eq 26, 3) := by decide +kernel
theorem dX6_levelOf_11 : decode cX6_levelOf 11 = .ok (.aload_n 0, 1) := by decide +kernel
theorem dX6_levelOf_12 : decode cX6_levelOf 12 = .ok (.getfield 206, 3) := by decide +kernel
theorem dX6_levelOf_15 : decode cX6_levelOf 15 = .ok (.iload_n 3, 1) := by decide +kernel
theorem dX6_levelOf_16 : decode cX6_levelOf 16 = .ok (.if_icmp .eq 18, 3) := by decide +kernel
theorem dX6_levelOf_19 : decode cX6_levelOf 19 = .ok (.iload 4, 2) := by decide +kernel
theorem dX6_levelOf_21 : decode cX6_levelOf 21 = .ok (.aload_n 0, 1) := by decide +kernel
theorem dX6_levelOf_22 : decode cX6_levelOf 22 = .ok (.aload_n 0, 1) := by decide +kernel
theorem dX6_levelOf_23 : decode cX6_levelOf 23 = .ok (.getfield 212, 3) := by decide +kernel
theorem dX6_levelOf_26 : decode cX6_levelOf 26 = .ok (.iload_n 1, 1) := by decide +kernel
theorem dX6_levelOf_27 : decode cX6_levelOf 27 = .ok (.iload_n 2, 1) := by decide +kernel
theorem dX6_levelOf_28 : decode cX6_levelOf 28 = .ok (.invokevirtual 193, 3) := by decide +kernel
theorem dX6_levelOf_31 : decode cX6_levelOf 31 = .ok (.iadd, 1) := by decide +kernel
theorem dX6_levelOf_32 : decode cX6_levelOf 32 = .ok (.istore 4, 2) := by decide +kernel
theorem dX6_levelOf_34 : decode cX6_levelOf 34 = .ok (.aload_n 0, 1) := by decide +kernel
theorem dX6_levelOf_35 : decode cX6_levelOf 35 = .ok (.getfield 209, 3) := by decide +kernel
theorem dX6_levelOf_38 : decode cX6_levelOf 38 = .ok (.iconst (-1), 1) := by decide +kernel
theorem dX6_levelOf_39 : decode cX6_levelOf 39 = .ok (.if_icmp .eq 26, 3) := by decide +kernel
theorem dX6_levelOf_42 : decode cX6_levelOf 42 = .ok (.aload_n 0, 1) := by decide +kernel
theorem dX6_levelOf_43 : decode cX6_levelOf 43 = .ok (.getfield 209, 3) := by decide +kernel
theorem dX6_levelOf_46 : decode cX6_levelOf 46 = .ok (.iload_n 3, 1) := by decide +kernel
theorem dX6_levelOf_47 : decode cX6_levelOf 47 = .ok (.if_icmp .eq 18, 3) := by decide +kernel
theorem dX6_levelOf_50 : decode cX6_levelOf 50 = .ok (.iload 4, 2) := by decide +kernel
theorem dX6_levelOf_52 : decode cX6_levelOf 52 = .ok (.aload_n 0, 1) := by decide +kernel
theorem dX6_levelOf_53 : decode cX6_levelOf 53 = .ok (.aload_n 0, 1) := by decide +kernel
theorem dX6_levelOf_54 : decode cX6_levelOf 54 = .ok (.getfield 215, 3) := by decide +kernel
theorem dX6_levelOf_57 : decode cX6_levelOf 57 = .ok (.iload_n 1, 1) := by decide +kernel
theorem dX6_levelOf_58 : decode cX6_levelOf 58 = .ok (.iload_n 2, 1) := by decide +kernel
theorem dX6_levelOf_59 : decode cX6_levelOf 59 = .ok (.invokevirtual 193, 3) := by decide +kernel
theorem dX6_levelOf_62 : decode cX6_levelOf 62 = .ok (.iadd, 1) := by decide +kernel
theorem dX6_levelOf_63 : decode cX6_levelOf 63 = .ok (.istore 4, 2) := by decide +kernel
theorem dX6_levelOf_65 : decode cX6_levelOf 65 = .ok (.iload 4, 2) := by decide +kernel
theorem dX6_levelOf_67 : decode cX6_levelOf 67 = .ok (.ifCond .ne 7, 3) := by decide +kernel
theorem dX6_levelOf_70 : decode cX6_levelOf 70 = .ok (.iconst 0, 1) := by decide +kernel
theorem dX6_levelOf_71 : decode cX6_levelOf 71 = .ok (.goto 19, 3) := by decide +kernel
theorem dX6_levelOf_74 : decode cX6_levelOf 74 = .ok (.iload 4, 2) := by decide +kernel
theorem dX6_levelOf_76 : decode cX6_levelOf 76 = .ok (.aload_n 0, 1) := by decide +kernel
theorem dX6_levelOf_77 : decode cX6_levelOf 77 = .ok (.getfield 7, 3) := by decide +kernel
theorem dX6_levelOf_80 : decode cX6_levelOf 80 = .ok (.iconst 5, 1) := by decide +kernel
theorem dX6_levelOf_81 : decode cX6_levelOf 81 = .ok (.iaload, 1) := by decide +kernel
theorem dX6_levelOf_82 : decode cX6_levelOf 82 = .ok (.if_icmp .gt 7, 3) := by decide +kernel
theorem dX6_levelOf_85 : decode cX6_levelOf 85 = .ok (.iconst 1, 1) := by decide +kernel
theorem dX6_levelOf_86 : decode cX6_levelOf 86 = .ok (.goto 4, 3) := by decide +kernel
theorem dX6_levelOf_89 : decode cX6_levelOf 89 = .ok (.iconst 2, 1) := by decide +kernel
theorem dX6_levelOf_90 : decode cX6_levelOf 90 = .ok (.ireturn, 1) := by decide +kernel
theorem dX6_weightOf_0 : decode cX6_weightOf 0 = .ok (.aload_n 0, 1) := by decide +kernel
theorem dX6_weightOf_1 : decode cX6_weightOf 1 = .ok (.getfield 7, 3) := by decide +kernel
theorem dX6_weightOf_4 : decode cX6_weightOf 4 = .ok (.bipush 8, 2) := by decide +kernel
theorem dX6_weightOf_6 : decode cX6_weightOf 6 = .ok (.iload_n 1, 1) := by decide +kernel
theorem dX6_weightOf_7 : decode cX6_weightOf 7 = .ok (.iconst 3, 1) := by decide +kernel
theorem dX6_weightOf_8 : decode cX6_weightOf 8 = .ok (.idiv, 1) := by decide +kernel
theorem dX6_weightOf_9 : decode cX6_weightOf 9 = .ok (.iadd, 1) := by decide +kernel
theorem dX6_weightOf_10 : decode cX6_weightOf 10 = .ok (.iaload, 1) := by decide +kernel
theorem dX6_weightOf_11 : decode cX6_weightOf 11 = .ok (.iconst 3, 1) := by decide +kernel
theorem dX6_weightOf_12 : decode cX6_weightOf 12 = .ok (.iload_n 1, 1) := by decide +kernel
theorem dX6_weightOf_13 : decode cX6_weightOf 13 = .ok (.iconst 3, 1) := by decide +kernel
theorem dX6_weightOf_14 : decode cX6_weightOf 14 = .ok (.irem, 1) := by decide +kernel
theorem dX6_weightOf_15 : decode cX6_weightOf 15 = .ok (.isub, 1) := by decide +kernel
theorem dX6_weightOf_16 : decode cX6_weightOf 16 = .ok (.imul, 1) := by decide +kernel
theorem dX6_weightOf_17 : decode cX6_weightOf 17 = .ok (.ireturn, 1) := by decide +kernel
set_option maxRecDepth 20000 in
theorem ggX6_weighs_X6_passes : GoodIn wsX6_weighs wsX6_passes := goodIn_r _ [12, 13, 6, 14, 15, 16, 17, 18, 19, 11, 20, 21, 22, 23, 3, 24, 25, 26, 27, 28, 29, 2, 30, 31, 32, 33, 34, 35, 36, 37, 38, 39, 40, 41, 42, 43, 44, 45, 46, 47, 48, 49, 50, 51, 52, 53, 54, 55, 56, 76, 77, 78, 79, 80, 81, 82, 83, 84, 85, 86, 87, 88, 89, 90, 91, 92, 93, 94, 95, 96, 97, 98, 99, 100, 101] (by decide +kernel) (by decide +kernel)
set_option maxRecDepth 20000 in
theorem gX6_weighs_X6_passes : GoodIn wsX6_weighs (wsV RX6 187 RX6 yX6_passes wsX6_passes) := goodIn_app (goodIn_of _ (by decide +kernel)) ggX6_weighs_X6_passes
set_option maxRecDepth 20000 in
theorem ggX6_weighs_X6_opens : GoodIn wsX6_weighs wsX6_opens := goodIn_r _ [60, 61, 62, 4, 5, 63, 36, 37, 11, 38, 76, 77, 78, 79, 80, 81, 82, 83, 84, 85, 86, 87, 88, 89, 90, 91, 92, 93, 94, 95, 96, 97, 98, 99, 100, 101] (by decide +kernel) (by decide +kernel)
set_option maxRecDepth 20000 in
theorem gX6_weighs_X6_opens : GoodIn wsX6_weighs (wsV RX6 224 RX6 yX6_opens wsX6_opens) := goodIn_app (goodIn_of _ (by decide +kernel)) ggX6_weighs_X6_opens
set_option maxRecDepth 20000 in
theorem ggX6_weighs_X6_weightOf : GoodIn wsX6_weighs wsX6_weightOf := goodIn_r _ [67, 2, 76, 77, 78, 79, 80, 81, 82, 83, 84, 85, 86, 87, 88, 89, 90, 91, 92, 93, 94, 95, 96, 97, 98, 99, 100, 101] (by decide +kernel) (by decide +kernel)
set_option maxRecDepth 20000 in
theorem gX6_weighs_X6_weightOf : GoodIn wsX6_weighs (wsV RX6 227 RX6 yX6_weightOf wsX6_weightOf) := goodIn_app (goodIn_of _ (by decide +kernel)) ggX6_weighs_X6_weightOf
set_option maxRecDepth 20000 in
theorem ggX6_weighs_X6_levelOf : GoodIn wsX6_weighs wsX6_levelOf := goodIn_r _ [71, 61, 4, 62, 5, 2, 72, 73, 74, 11, 75, 16, 76, 77, 78, 79, 80, 81, 82, 83, 84, 85, 86, 87, 88, 89, 90, 91, 92, 93, 94, 95, 96, 97, 98, 99, 100, 101] (by decide +kernel) (by decide +kernel)
set_option maxRecDepth 20000 in
theorem gX6_weighs_X6_levelOf : GoodIn wsX6_weighs (wsV RX6 230 RX6 yX6_levelOf wsX6_levelOf) := goodIn_app (goodIn_of _ (by decide +kernel)) ggX6_weighs_X6_levelOf
theorem dX6_weighs_0 : decode cX6_weighs 0 = .ok (.aload_n 0, 1) := by decide +kernel
theorem dX6_weighs_1 : decode cX6_weighs 1 = .ok (.lconst 0, 1) := by decide +kernel
theorem dX6_weighs_2 : decode cX6_weighs 2 = .ok (.putfield 220, 3) := by decide +kernel
theorem dX6_weighs_5 : decode cX6_weighs 5 = .ok (.aload_n 0, 1) := by decide +kernel
theorem dX6_weighs_6 : decode cX6_weighs 6 = .ok (.aload_n 0, 1) := by decide +kernel
theorem dX6_weighs_7 : decode cX6_weighs 7 = .ok (.getfield 7, 3) := by decide +kernel
theorem dX6_weighs_10 : decode cX6_weighs 10 = .ok (.iconst 4, 1) := by decide +kernel
theorem dX6_weighs_11 : decode cX6_weighs 11 = .ok (.iaload, 1) := by decide +kernel
theorem dX6_weighs_12 : decode cX6_weighs 12 = .ok (.invokevirtual 187, 3) := by decide +kernel
theorem dX6_weighs_15 : decode cX6_weighs 15 = .ok (.ifCond .ne 5, 3) := by decide +kernel
theorem dX6_weighs_18 : decode cX6_weighs 18 = .ok (.iconst 0, 1) := by decide +kernel
theorem dX6_weighs_19 : decode cX6_weighs 19 = .ok (.ireturn, 1) := by decide +kernel
theorem dX6_weighs_20 : decode cX6_weighs 20 = .ok (.iconst 0, 1) := by decide +kernel
theorem dX6_weighs_21 : decode cX6_weighs 21 = .ok (.istore_n 1, 1) := by decide +kernel
theorem dX6_weighs_22 : decode cX6_weighs 22 = .ok (.iload_n 1, 1) := by decide +kernel
theorem dX6_weighs_23 : decode cX6_weighs 23 = .ok (.sipush 2731, 3) := by decide +kernel
theorem dX6_weighs_26 : decode cX6_weighs 26 = .ok (.if_icmp .ge 211, 3) := by decide +kernel
theorem dX6_weighs_29 : decode cX6_weighs 29 = .ok (.aload_n 0, 1) := by decide +kernel
theorem dX6_weighs_30 : decode cX6_weighs 30 = .ok (.iload_n 1, 1) := by decide +kernel
theorem dX6_weighs_31 : decode cX6_weighs 31 = .ok (.invokevirtual 224, 3) := by decide +kernel
theorem dX6_weighs_34 : decode cX6_weighs 34 = .ok (.iload_n 1, 1) := by decide +kernel
theorem dX6_weighs_35 : decode cX6_weighs 35 = .ok (.ifCond .ne 14, 3) := by decide +kernel
theorem dX6_weighs_38 : decode cX6_weighs 38 = .ok (.aload_n 0, 1) := by decide +kernel
theorem dX6_weighs_39 : decode cX6_weighs 39 = .ok (.getfield 7, 3) := by decide +kernel
theorem dX6_weighs_42 : decode cX6_weighs 42 = .ok (.bipush 7, 2) := by decide +kernel
theorem dX6_weighs_44 : decode cX6_weighs 44 = .ok (.iaload, 1) := by decide +kernel
theorem dX6_weighs_45 : decode cX6_weighs 45 = .ok (.i2l, 1) := by decide +kernel
theorem dX6_weighs_46 : decode cX6_weighs 46 = .ok (.goto 44, 3) := by decide +kernel
theorem dX6_weighs_49 : decode cX6_weighs 49 = .ok (.iload_n 1, 1) := by decide +kernel
theorem dX6_weighs_50 : decode cX6_weighs 50 = .ok (.bipush 85, 2) := by decide +kernel
theorem dX6_weighs_52 : decode cX6_weighs 52 = .ok (.if_icmp .ge 19, 3) := by decide +kernel
theorem dX6_weighs_55 : decode cX6_weighs 55 = .ok (.ldc2_w 156, 3) := by decide +kernel
theorem dX6_weighs_58 : decode cX6_weighs 58 = .ok (.aload_n 0, 1) := by decide +kernel
theorem dX6_weighs_59 : decode cX6_weighs 59 = .ok (.aload_n 0, 1) := by decide +kernel
theorem dX6_weighs_60 : decode cX6_weighs 60 = .ok (.getfield 212, 3) := by decide +kernel
theorem dX6_weighs_63 : decode cX6_weighs 63 = .ok (.invokevirtual 227, 3) := by decide +kernel
theorem dX6_weighs_66 : decode cX6_weighs 66 = .ok (.i2l, 1) := by decide +kernel
theorem dX6_weighs_67 : decode cX6_weighs 67 = .ok (.lmul, 1) := by decide +kernel
theorem dX6_weighs_68 : decode cX6_weighs 68 = .ok (.goto 22, 3) := by decide +kernel
theorem dX6_weighs_71 : decode cX6_weighs 71 = .ok (.aload_n 0, 1) := by decide +kernel
theorem dX6_weighs_72 : decode cX6_weighs 72 = .ok (.aload_n 0, 1) := by decide +kernel
theorem dX6_weighs_73 : decode cX6_weighs 73 = .ok (.getfield 212, 3) := by decide +kernel
theorem dX6_weighs_76 : decode cX6_weighs 76 = .ok (.invokevirtual 227, 3) := by decide +kernel
theorem dX6_weighs_79 : decode cX6_weighs 79 = .ok (.i2l, 1) := by decide +kernel
theorem dX6_weighs_80 : decode cX6_weighs 80 = .ok (.aload_n 0, 1) := by decide +kernel
theorem dX6_weighs_81 : decode cX6_weighs 81 = .ok (.aload_n 0, 1) := by decide +kernel
theorem dX6_weighs_82 : decode cX6_weighs 82 = .ok (.getfield 215, 3) := by decide +kernel
theorem dX6_weighs_85 : decode cX6_weighs 85 = .ok (.invokevirtual 227, 3) := by decide +kernel
theorem dX6_weighs_88 : decode cX6_weighs 88 = .ok (.i2l, 1) := by decide +kernel
theorem dX6_weighs_89 : decode cX6_weighs 89 = .ok (.lmul, 1) := by decide +kernel
theorem dX6_weighs_90 : decode cX6_weighs 90 = .ok (.lstore_n 2, 1) := by decide +kernel
theorem dX6_weighs_91 : decode cX6_weighs 91 = .ok (.iconst 0, 1) := by decide +kernel
theorem dX6_weighs_92 : decode cX6_weighs 92 = .ok (.istore 4, 2) := by decide +kernel
theorem dX6_weighs_94 : decode cX6_weighs 94 = .ok (.iload 4, 2) := by decide +kernel
theorem dX6_weighs_96 : decode cX6_weighs 96 = .ok (.aload_n 0, 1) := by decide +kernel
theorem dX6_weighs_97 : decode cX6_weighs 97 = .ok (.getfield 7, 3) := by decide +kernel
theorem dX6_weighs_100 : decode cX6_weighs 100 = .ok (.iconst 1, 1) := by decide +kernel
theorem dX6_weighs_101 : decode cX6_weighs 101 = .ok (.iaload, 1) := by decide +kernel
theorem dX6_weighs_102 : decode cX6_weighs 102 = .ok (.if_icmp .ge 112, 3) := by decide +kernel
theorem dX6_weighs_105 : decode cX6_weighs 105 = .ok (.bipush 20, 2) := by decide +kernel
theorem dX6_weighs_107 : decode cX6_weighs 107 = .ok (.iconst 4, 1) := by decide +kernel
theorem dX6_weighs_108 : decode cX6_weighs 108 = .ok (.iload 4, 2) := by decide +kernel
theorem dX6_weighs_110 : decode cX6_weighs 110 = .ok (.imul, 1) := by decide +kernel
theorem dX6_weighs_111 : decode cX6_weighs 111 = .ok (.iadd, 1) := by decide +kernel
theorem dX6_weighs_112 : decode cX6_weighs 112 = .ok (.istore 5, 2) := by decide +kernel
theorem dX6_weighs_114 : decode cX6_weighs 114 = .ok (.aload_n 0, 1) := by decide +kernel
theorem dX6_weighs_115 : decode cX6_weighs 115 = .ok (.getfield 7, 3) := by decide +kernel
theorem dX6_weighs_118 : decode cX6_weighs 118 = .ok (.iload 5, 2) := by decide +kernel
theorem dX6_weighs_120 : decode cX6_weighs 120 = .ok (.iaload, 1) := by decide +kernel
theorem dX6_weighs_121 : decode cX6_weighs 121 = .ok (.aload_n 0, 1) := by decide +kernel
theorem dX6_weighs_122 : decode cX6_weighs 122 = .ok (.getfield 150, 3) := by decide +kernel
theorem dX6_weighs_125 : decode cX6_weighs 125 = .ok (.if_icmp .ge 83, 3) := by decide +kernel
theorem dX6_weighs_128 : decode cX6_weighs 128 = .ok (.aload_n 0, 1) := by decide +kernel
theorem dX6_weighs_129 : decode cX6_weighs 129 = .ok (.aload_n 0, 1) := by decide +kernel
theorem dX6_weighs_130 : decode cX6_weighs 130 = .ok (.getfield 7, 3) := by decide +kernel
theorem dX6_weighs_133 : decode cX6_weighs 133 = .ok (.iload 5, 2) := by decide +kernel
theorem dX6_weighs_135 : decode cX6_weighs 135 = .ok (.iaload, 1) := by decide +kernel
theorem dX6_weighs_136 : decode cX6_weighs 136 = .ok (.aload_n 0, 1) := by decide +kernel
theorem dX6_weighs_137 : decode cX6_weighs 137 = .ok (.getfield 7, 3) := by decide +kernel
theorem dX6_weighs_140 : decode cX6_weighs 140 = .ok (.iload 5, 2) := by decide +kernel
theorem dX6_weighs_142 : decode cX6_weighs 142 = .ok (.iconst 1, 1) := by decide +kernel
theorem dX6_weighs_143 : decode cX6_weighs 143 = .ok (.iadd, 1) := by decide +kernel
theorem dX6_weighs_144 : decode cX6_weighs 144 = .ok (.iaload, 1) := by decide +kernel
theorem dX6_weighs_145 : decode cX6_weighs 145 = .ok (.aload_n 0, 1) := by decide +kernel
theorem dX6_weighs_146 : decode cX6_weighs 146 = .ok (.getfield 7, 3) := by decide +kernel
theorem dX6_weighs_149 : decode cX6_weighs 149 = .ok (.iload 5, 2) := by decide +kernel
theorem dX6_weighs_151 : decode cX6_weighs 151 = .ok (.iconst 2, 1) := by decide +kernel
theorem dX6_weighs_152 : decode cX6_weighs 152 = .ok (.iadd, 1) := by decide +kernel
theorem dX6_weighs_153 : decode cX6_weighs 153 = .ok (.iaload, 1) := by decide +kernel
theorem dX6_weighs_154 : decode cX6_weighs 154 = .ok (.invokevirtual 230, 3) := by decide +kernel
theorem dX6_weighs_157 : decode cX6_weighs 157 = .ok (.aload_n 0, 1) := by decide +kernel
theorem dX6_weighs_158 : decode cX6_weighs 158 = .ok (.getfield 7, 3) := by decide +kernel
theorem dX6_weighs_161 : decode cX6_weighs 161 = .ok (.iload 5, 2) := by decide +kernel
theorem dX6_weighs_163 : decode cX6_weighs 163 = .ok (.iconst 3, 1) := by decide +kernel
theorem dX6_weighs_164 : decode cX6_weighs 164 = .ok (.iadd, 1) := by decide +kernel
theorem dX6_weighs_165 : decode cX6_weighs 165 = .ok (.iaload, 1) := by decide +kernel
theorem dX6_weighs_166 : decode cX6_weighs 166 = .ok (.if_icmp .ne 7, 3) := by decide +kernel
theorem dX6_weighs_169 : decode cX6_weighs 169 = .ok (.iconst 1, 1) := by decide +kernel
theorem dX6_weighs_170 : decode cX6_weighs 170 = .ok (.goto 4, 3) := by decide +kernel
theorem dX6_weighs_173 : decode cX6_weighs 173 = .ok (.iconst 0, 1) := by decide +kernel
theorem dX6_weighs_174 : decode cX6_weighs 174 = .ok (.istore 6, 2) := by decide +kernel
theorem dX6_weighs_176 : decode cX6_weighs 176 = .ok (.lload_n 2, 1) := by decide +kernel
theorem dX6_weighs_177 : decode cX6_weighs 177 = .ok (.iload 6, 2) := by decide +kernel
theorem dX6_weighs_179 : decode cX6_weighs 179 = .ok (.ifCond .eq 16, 3) := by decide +kernel
theorem dX6_weighs_182 : decode cX6_weighs 182 = .ok (.iconst 2, 1) := by decide +kernel
theorem dX6_weighs_183 : decode cX6_weighs 183 = .ok (.aload_n 0, 1) := by decide +kernel
theorem dX6_weighs_184 : decode cX6_weighs 184 = .ok (.getfield 7, 3) := by decide +kernel
theorem dX6_weighs_187 : decode cX6_weighs 187 = .ok (.bipush 6, 2) := by decide +kernel
theorem dX6_weighs_189 : decode cX6_weighs 189 = .ok (.iaload, 1) := by decide +kernel
theorem dX6_weighs_190 : decode cX6_weighs 190 = .ok (.imul, 1) := by decide +kernel
theorem dX6_weighs_191 : decode cX6_weighs 191 = .ok (.i2l, 1) := by decide +kernel
theorem dX6_weighs_192 : decode cX6_weighs 192 = .ok (.goto 14, 3) := by decide +kernel
theorem dX6_weighs_195 : decode cX6_weighs 195 = .ok (.bipush 10, 2) := by decide +kernel
theorem dX6_weighs_197 : decode cX6_weighs 197 = .ok (.aload_n 0, 1) := by decide +kernel
theorem dX6_weighs_198 : decode cX6_weighs 198 = .ok (.getfield 7, 3) := by decide +kernel
theorem dX6_weighs_201 : decode cX6_weighs 201 = .ok (.bipush 6, 2) := by decide +kernel
theorem dX6_weighs_203 : decode cX6_weighs 203 = .ok (.iaload, 1) := by decide +kernel
theorem dX6_weighs_204 : decode cX6_weighs 204 = .ok (.isub, 1) := by decide +kernel
theorem dX6_weighs_205 : decode cX6_weighs 205 = .ok (.i2l, 1) := by decide +kernel
theorem dX6_weighs_206 : decode cX6_weighs 206 = .ok (.lmul, 1) := by decide +kernel
theorem dX6_weighs_207 : decode cX6_weighs 207 = .ok (.lstore_n 2, 1) := by decide +kernel
theorem dX6_weighs_208 : decode cX6_weighs 208 = .ok (.iinc 4 1, 3) := by decide +kernel
theorem dX6_weighs_211 : decode cX6_weighs 211 = .ok (.goto (-117), 3) := by decide +kernel
theorem dX6_weighs_214 : decode cX6_weighs 214 = .ok (.aload_n 0, 1) := by decide +kernel
theorem dX6_weighs_215 : decode cX6_weighs 215 = .ok (.getfield 41, 3) := by decide +kernel
theorem dX6_weighs_218 : decode cX6_weighs 218 = .ok (.iload_n 1, 1) := by decide +kernel
theorem dX6_weighs_219 : decode cX6_weighs 219 = .ok (.lload_n 2, 1) := by decide +kernel
theorem dX6_weighs_220 : decode cX6_weighs 220 = .ok (.lastore, 1) := by decide +kernel
theorem dX6_weighs_221 : decode cX6_weighs 221 = .ok (.aload_n 0, 1) := by decide +kernel
theorem dX6_weighs_222 : decode cX6_weighs 222 = .ok (.dup, 1) := by decide +kernel
theorem dX6_weighs_223 : decode cX6_weighs 223 = .ok (.getfield 220, 3) := by decide +kernel
theorem dX6_weighs_226 : decode cX6_weighs 226 = .ok (.lload_n 2, 1) := by decide +kernel
theorem dX6_weighs_227 : decode cX6_weighs 227 = .ok (.ladd, 1) := by decide +kernel
theorem dX6_weighs_228 : decode cX6_weighs 228 = .ok (.putfield 220, 3) := by decide +kernel
theorem dX6_weighs_231 : decode cX6_weighs 231 = .ok (.iinc 1 1, 3) := by decide +kernel
theorem dX6_weighs_234 : decode cX6_weighs 234 = .ok (.goto (-212), 3) := by decide +kernel
theorem dX6_weighs_237 : decode cX6_weighs 237 = .ok (.aload_n 0, 1) := by decide +kernel
theorem dX6_weighs_238 : decode cX6_weighs 238 = .ok (.getfield 220, 3) := by decide +kernel
theorem dX6_weighs_241 : decode cX6_weighs 241 = .ok (.lconst 0, 1) := by decide +kernel
theorem dX6_weighs_242 : decode cX6_weighs 242 = .ok (.lcmp, 1) := by decide +kernel
theorem dX6_weighs_243 : decode cX6_weighs 243 = .ok (.ifCond .le 7, 3) := by decide +kernel
theorem dX6_weighs_246 : decode cX6_weighs 246 = .ok (.iconst 1, 1) := by decide +kernel
theorem dX6_weighs_247 : decode cX6_weighs 247 = .ok (.goto 4, 3) := by decide +kernel
theorem dX6_weighs_250 : decode cX6_weighs 250 = .ok (.iconst 0, 1) := by decide +kernel
theorem dX6_weighs_251 : decode cX6_weighs 251 = .ok (.ireturn, 1) := by decide +kernel
set_option maxRecDepth 20000 in
theorem ggX6_odds_X6_in : GoodIn wsX6_odds wsX6_in := goodIn_r _ [12] (by decide +kernel) (by decide +kernel)
set_option maxRecDepth 20000 in
theorem gX6_odds_X6_in : GoodIn wsX6_odds (va_wsS RX6 100 yX6_in wsX6_in) := goodIn_app (goodIn_of _ (by decide +kernel)) ggX6_odds_X6_in
set_option maxRecDepth 20000 in
theorem ggX6_odds_X6_bad : GoodIn wsX6_odds wsX6_bad := goodIn_r _ [16, 17, 18, 19, 11, 20, 21, 140, 141, 142, 143, 144, 145, 146, 147, 148, 149, 150, 151, 152, 153, 154, 155, 156, 157, 158, 159, 160, 161, 162, 163, 164, 165] (by decide +kernel) (by decide +kernel)
set_option maxRecDepth 20000 in
theorem gX6_odds_X6_bad : GoodIn wsX6_odds (wsV RX6 97 RX6 yX6_bad wsX6_bad) := goodIn_app (goodIn_of _ (by decide +kernel)) ggX6_odds_X6_bad
set_option maxRecDepth 20000 in
theorem ggX6_odds_X6_weighs : GoodIn wsX6_odds wsX6_weighs := goodIn_r _ [25, 8, 26, 27, 4, 6, 28, 7, 29, 30, 31, 11, 32, 33, 34, 35, 36, 37, 38, 39, 40, 41, 42, 43, 44, 45, 46, 47, 48, 49, 50, 51, 52, 53, 54, 55, 9, 10, 12, 56, 57, 58, 59, 60, 61, 62, 63, 64, 65, 66, 67, 68, 69, 70, 71, 72, 73, 74, 75, 76, 77, 3, 5, 78, 79, 80, 81, 82, 83, 84, 85, 86, 87, 88, 89, 90, 140, 141, 142, 143, 144, 145, 146, 147, 148, 149, 150, 151, 152, 153, 154, 155, 156, 157, 158, 159, 160, 161, 162, 163, 164, 165] (by decide +kernel) (by decide +kernel)
set_option maxRecDepth 20000 in
theorem gX6_odds_X6_weighs : GoodIn wsX6_odds (wsV RX6 235 RX6 yX6_weighs wsX6_weighs) := goodIn_app (goodIn_of _ (by decide +kernel)) ggX6_odds_X6_weighs
set_option maxRecDepth 20000 in
theorem ggX6_odds_X6_no : GoodIn wsX6_odds wsX6_no := goodIn_r _ [94, 17, 18, 19, 11, 20, 21, 140, 141, 142, 143, 144, 145, 146, 147, 148, 149, 150, 151, 152, 153, 154, 155, 156, 157, 158, 159, 160, 161, 162, 163, 164, 165] (by decide +kernel) (by decide +kernel)
set_option maxRecDepth 20000 in
theorem gX6_odds_X6_no : GoodIn wsX6_odds (wsV RX6 164 RX6 yX6_no wsX6_no) := goodIn_app (goodIn_of _ (by decide +kernel)) ggX6_odds_X6_no
set_option maxRecDepth 20000 in
theorem ggX6_odds_X6_opens : GoodIn wsX6_odds wsX6_opens := goodIn_r _ [77, 3, 5, 4, 6, 78, 9, 10, 11, 12, 140, 141, 142, 143, 144, 145, 146, 147, 148, 149, 150, 151, 152, 153, 154, 155, 156, 157, 158, 159, 160, 161, 162, 163, 164, 165] (by decide +kernel) (by decide +kernel)
set_option maxRecDepth 20000 in
theorem gX6_odds_X6_opens : GoodIn wsX6_odds (wsV RX6 224 RX6 yX6_opens wsX6_opens) := goodIn_app (goodIn_of _ (by decide +kernel)) ggX6_odds_X6_opens
set_option maxRecDepth 20000 in
theorem ggX6_odds_X6_tells : GoodIn wsX6_odds wsX6_tells := goodIn_r _ [98, 99, 100, 101, 102, 11, 103, 104, 105, 106, 107, 108, 109, 110, 111, 112, 113, 114, 115, 116, 117, 118, 119, 120, 121, 122, 123, 124, 125, 126, 127, 128, 129, 130, 131, 132, 133, 134, 135, 136, 137, 138, 139, 140, 141, 142, 143, 144, 145, 146, 147, 148, 149, 150, 151, 152, 153, 154, 155, 156, 157, 158, 159, 160, 161, 162, 163, 164, 165] (by decide +kernel) (by decide +kernel)
set_option maxRecDepth 20000 in
theorem gX6_odds_X6_tells : GoodIn wsX6_odds (wsV RX6 238 RX6 yX6_tells wsX6_tells) := goodIn_app (goodIn_of _ (by decide +kernel)) ggX6_odds_X6_tells
theorem dX6_odds_0 : decode cX6_odds 0 = .ok (.iload_n 1, 1) := by decide +kernel
theorem dX6_odds_1 : decode cX6_odds 1 = .ok (.i2l, 1) := by decide +kernel
theorem dX6_odds_2 : decode cX6_odds 2 = .ok (.lconst 0, 1) := by decide +kernel
theorem dX6_odds_3 : decode cX6_odds 3 = .ok (.ldc2_w 175, 3) := by decide +kernel
theorem dX6_odds_6 : decode cX6_odds 6 = .ok (.invokestatic 100, 3) := by decide +kernel
theorem dX6_odds_9 : decode cX6_odds 9 = .ok (.ifCond .eq 15, 3) := by decide +kernel
theorem dX6_odds_12 : decode cX6_odds 12 = .ok (.iload_n 2, 1) := by decide +kernel
theorem dX6_odds_13 : decode cX6_odds 13 = .ok (.i2l, 1) := by decide +kernel
theorem dX6_odds_14 : decode cX6_odds 14 = .ok (.lconst 0, 1) := by decide +kernel
theorem dX6_odds_15 : decode cX6_odds 15 = .ok (.ldc2_w 233, 3) := by decide +kernel
theorem dX6_odds_18 : decode cX6_odds 18 = .ok (.invokestatic 100, 3) := by decide +kernel
theorem dX6_odds_21 : decode cX6_odds 21 = .ok (.ifCond .ne 8, 3) := by decide +kernel
theorem dX6_odds_24 : decode cX6_odds 24 = .ok (.aload_n 0, 1) := by decide +kernel
theorem dX6_odds_25 : decode cX6_odds 25 = .ok (.invokevirtual 97, 3) := by decide +kernel
theorem dX6_odds_28 : decode cX6_odds 28 = .ok (.ireturn, 1) := by decide +kernel
theorem dX6_odds_29 : decode cX6_odds 29 = .ok (.aload_n 0, 1) := by decide +kernel
theorem dX6_odds_30 : decode cX6_odds 30 = .ok (.invokevirtual 235, 3) := by decide +kernel
theorem dX6_odds_33 : decode cX6_odds 33 = .ok (.ifCond .ne 8, 3) := by decide +kernel
theorem dX6_odds_36 : decode cX6_odds 36 = .ok (.aload_n 0, 1) := by decide +kernel
theorem dX6_odds_37 : decode cX6_odds 37 = .ok (.invokevirtual 164, 3) := by decide +kernel
theorem dX6_odds_40 : decode cX6_odds 40 = .ok (.ireturn, 1) := by decide +kernel
theorem dX6_odds_41 : decode cX6_odds 41 = .ok (.lconst 0, 1) := by decide +kernel
theorem dX6_odds_42 : decode cX6_odds 42 = .ok (.lstore_n 3, 1) := by decide +kernel
theorem dX6_odds_43 : decode cX6_odds 43 = .ok (.iconst 0, 1) := by decide +kernel
theorem dX6_odds_44 : decode cX6_odds 44 = .ok (.istore 5, 2) := by decide +kernel
theorem dX6_odds_46 : decode cX6_odds 46 = .ok (.iload 5, 2) := by decide +kernel
theorem dX6_odds_48 : decode cX6_odds 48 = .ok (.sipush 2731, 3) := by decide +kernel
theorem dX6_odds_51 : decode cX6_odds 51 = .ok (.if_icmp .ge 81, 3) := by decide +kernel
theorem dX6_odds_54 : decode cX6_odds 54 = .ok (.aload_n 0, 1) := by decide +kernel
theorem dX6_odds_55 : decode cX6_odds 55 = .ok (.iload 5, 2) := by decide +kernel
theorem dX6_odds_57 : decode cX6_odds 57 = .ok (.invokevirtual 224, 3) := by decide +kernel
theorem dX6_odds_60 : decode cX6_odds 60 = .ok (.aload_n 0, 1) := by decide +kernel
theorem dX6_odds_61 : decode cX6_odds 61 = .ok (.getfield 206, 3) := by decide +kernel
theorem dX6_odds_64 : decode cX6_odds 64 = .ok (.iload_n 1, 1) := by decide +kernel
theorem dX6_odds_65 : decode cX6_odds 65 = .ok (.if_icmp .ne 10, 3) := by decide +kernel
theorem dX6_odds_68 : decode cX6_odds 68 = .ok (.aload_n 0, 1) := by decide +kernel
theorem dX6_odds_69 : decode cX6_odds 69 = .ok (.getfield 212, 3) := by decide +kernel
theorem dX6_odds_72 : decode cX6_odds 72 = .ok (.goto 19, 3) := by decide +kernel
theorem dX6_odds_75 : decode cX6_odds 75 = .ok (.aload_n 0, 1) := by decide +kernel
theorem dX6_odds_76 : decode cX6_odds 76 = .ok (.getfield 209, 3) := by decide +kernel
theorem dX6_odds_79 : decode cX6_odds 79 = .ok (.iload_n 1, 1) := by decide +kernel
theorem dX6_odds_80 : decode cX6_odds 80 = .ok (.if_icmp .ne 10, 3) := by decide +kernel
theorem dX6_odds_83 : decode cX6_odds 83 = .ok (.aload_n 0, 1) := by decide +kernel
theorem dX6_odds_84 : decode cX6_odds 84 = .ok (.getfield 215, 3) := by decide +kernel
theorem dX6_odds_87 : decode cX6_odds 87 = .ok (.goto 4, 3) := by decide +kernel
theorem dX6_odds_90 : decode cX6_odds 90 = .ok (.iconst (-1), 1) := by decide +kernel
theorem dX6_odds_91 : decode cX6_odds 91 = .ok (.istore 6, 2) := by decide +kernel
theorem dX6_odds_93 : decode cX6_odds 93 = .ok (.lload_n 3, 1) := by decide +kernel
theorem dX6_odds_94 : decode cX6_odds 94 = .ok (.iload 6, 2) := by decide +kernel
theorem dX6_odds_96 : decode cX6_odds 96 = .ok (.iconst (-1), 1) := by decide +kernel
theorem dX6_odds_97 : decode cX6_odds 97 = .ok (.if_icmp .ne 8, 3) := by decide +kernel
theorem dX6_odds_100 : decode cX6_odds 100 = .ok (.bipush 7, 2) := by decide +kernel
theorem dX6_odds_102 : decode cX6_odds 102 = .ok (.goto 7, 3) := by decide +kernel
theorem dX6_odds_105 : decode cX6_odds 105 = .ok (.iload 6, 2) := by decide +kernel
theorem dX6_odds_107 : decode cX6_odds 107 = .ok (.iconst 3, 1) := by decide +kernel
theorem dX6_odds_108 : decode cX6_odds 108 = .ok (.idiv, 1) := by decide +kernel
theorem dX6_odds_109 : decode cX6_odds 109 = .ok (.iload_n 2, 1) := by decide +kernel
theorem dX6_odds_110 : decode cX6_odds 110 = .ok (.if_icmp .ne 13, 3) := by decide +kernel
theorem dX6_odds_113 : decode cX6_odds 113 = .ok (.aload_n 0, 1) := by decide +kernel
theorem dX6_odds_114 : decode cX6_odds 114 = .ok (.getfield 41, 3) := by decide +kernel
theorem dX6_odds_117 : decode cX6_odds 117 = .ok (.iload 5, 2) := by decide +kernel
theorem dX6_odds_119 : decode cX6_odds 119 = .ok (.laload, 1) := by decide +kernel
theorem dX6_odds_120 : decode cX6_odds 120 = .ok (.goto 4, 3) := by decide +kernel
theorem dX6_odds_123 : decode cX6_odds 123 = .ok (.lconst 0, 1) := by decide +kernel
theorem dX6_odds_124 : decode cX6_odds 124 = .ok (.ladd, 1) := by decide +kernel
theorem dX6_odds_125 : decode cX6_odds 125 = .ok (.lstore_n 3, 1) := by decide +kernel
theorem dX6_odds_126 : decode cX6_odds 126 = .ok (.iinc 5 1, 3) := by decide +kernel
theorem dX6_odds_129 : decode cX6_odds 129 = .ok (.goto (-83), 3) := by decide +kernel
theorem dX6_odds_132 : decode cX6_odds 132 = .ok (.aload_n 0, 1) := by decide +kernel
theorem dX6_odds_133 : decode cX6_odds 133 = .ok (.lload_n 3, 1) := by decide +kernel
theorem dX6_odds_134 : decode cX6_odds 134 = .ok (.aload_n 0, 1) := by decide +kernel
theorem dX6_odds_135 : decode cX6_odds 135 = .ok (.getfield 220, 3) := by decide +kernel
theorem dX6_odds_138 : decode cX6_odds 138 = .ok (.invokevirtual 238, 3) := by decide +kernel
theorem dX6_odds_141 : decode cX6_odds 141 = .ok (.ireturn, 1) := by decide +kernel
set_option maxRecDepth 20000 in
theorem ggX6_two_X6_weighs : GoodIn wsX6_two wsX6_weighs := goodIn_r _ [7, 2, 8, 9, 10, 11, 12, 1, 13, 14, 15, 6, 16, 17, 18, 19, 20, 21, 22, 23, 24, 25, 26, 27, 28, 29, 30, 31, 32, 33, 34, 35, 36, 37, 38, 39, 40, 41, 42, 43, 44, 45, 46, 47, 48, 49, 50, 51, 52, 53, 54, 55, 56, 57, 58, 59, 60, 61, 62, 63, 64, 65, 66, 67, 68, 69, 70, 71, 72, 73, 74, 75, 76, 77, 78, 79, 134, 135, 136, 137, 138, 139, 140, 141, 142, 143, 144, 145, 146, 147, 148, 149, 150, 151, 152, 153, 154, 155, 156, 157, 158, 159] (by decide +kernel) (by decide +kernel)
set_option maxRecDepth 20000 in
theorem gX6_two_X6_weighs : GoodIn wsX6_two (wsV RX6 235 RX6 yX6_weighs wsX6_weighs) := goodIn_app (goodIn_of _ (by decide +kernel)) ggX6_two_X6_weighs
set_option maxRecDepth 20000 in
theorem ggX6_two_X6_no : GoodIn wsX6_two wsX6_no := goodIn_r _ [83, 84, 85, 86, 6, 87, 88, 134, 135, 136, 137, 138, 139, 140, 141, 142, 143, 144, 145, 146, 147, 148, 149, 150, 151, 152, 153, 154, 155, 156, 157, 158, 159] (by decide +kernel) (by decide +kernel)
set_option maxRecDepth 20000 in
theorem gX6_two_X6_no : GoodIn wsX6_two (wsV RX6 164 RX6 yX6_no wsX6_no) := goodIn_app (goodIn_of _ (by decide +kernel)) ggX6_two_X6_no
set_option maxRecDepth 20000 in
theorem ggX6_two_X6_tells : GoodIn wsX6_two wsX6_tells := goodIn_r _ [92, 93, 94, 95, 96, 6, 97, 98, 99, 100, 101, 102, 103, 104, 105, 106, 107, 108, 109, 110, 111, 112, 113, 114, 115, 116, 117, 118, 119, 120, 121, 122, 123, 124, 125, 126, 127, 128, 129, 130, 131, 132, 133, 134, 135, 136, 137, 138, 139, 140, 141, 142, 143, 144, 145, 146, 147, 148, 149, 150, 151, 152, 153, 154, 155, 156, 157, 158, 159] (by decide +kernel) (by decide +kernel)
set_option maxRecDepth 20000 in
theorem gX6_two_X6_tells : GoodIn wsX6_two (wsV RX6 238 RX6 yX6_tells wsX6_tells) := goodIn_app (goodIn_of _ (by decide +kernel)) ggX6_two_X6_tells
theorem dX6_two_0 : decode cX6_two 0 = .ok (.aload_n 0, 1) := by decide +kernel
theorem dX6_two_1 : decode cX6_two 1 = .ok (.invokevirtual 235, 3) := by decide +kernel
theorem dX6_two_4 : decode cX6_two 4 = .ok (.ifCond .ne 8, 3) := by decide +kernel
theorem dX6_two_7 : decode cX6_two 7 = .ok (.aload_n 0, 1) := by decide +kernel
theorem dX6_two_8 : decode cX6_two 8 = .ok (.invokevirtual 164, 3) := by decide +kernel
theorem dX6_two_11 : decode cX6_two 11 = .ok (.ireturn, 1) := by decide +kernel
theorem dX6_two_12 : decode cX6_two 12 = .ok (.lconst 0, 1) := by decide +kernel
theorem dX6_two_13 : decode cX6_two 13 = .ok (.lstore_n 1, 1) := by decide +kernel
theorem dX6_two_14 : decode cX6_two 14 = .ok (.bipush 85, 2) := by decide +kernel
theorem dX6_two_16 : decode cX6_two 16 = .ok (.istore_n 3, 1) := by decide +kernel
theorem dX6_two_17 : decode cX6_two 17 = .ok (.iload_n 3, 1) := by decide +kernel
theorem dX6_two_18 : decode cX6_two 18 = .ok (.sipush 2731, 3) := by decide +kernel
theorem dX6_two_21 : decode cX6_two 21 = .ok (.if_icmp .ge 18, 3) := by decide +kernel
theorem dX6_two_24 : decode cX6_two 24 = .ok (.lload_n 1, 1) := by decide +kernel
theorem dX6_two_25 : decode cX6_two 25 = .ok (.aload_n 0, 1) := by decide +kernel
theorem dX6_two_26 : decode cX6_two 26 = .ok (.getfield 41, 3) := by decide +kernel
theorem dX6_two_29 : decode cX6_two 29 = .ok (.iload_n 3, 1) := by decide +kernel
theorem dX6_two_30 : decode cX6_two 30 = .ok (.laload, 1) := by decide +kernel
theorem dX6_two_31 : decode cX6_two 31 = .ok (.ladd, 1) := by decide +kernel
theorem dX6_two_32 : decode cX6_two 32 = .ok (.lstore_n 1, 1) := by decide +kernel
theorem dX6_two_33 : decode cX6_two 33 = .ok (.iinc 3 1, 3) := by decide +kernel
theorem dX6_two_36 : decode cX6_two 36 = .ok (.goto (-19), 3) := by decide +kernel
theorem dX6_two_39 : decode cX6_two 39 = .ok (.aload_n 0, 1) := by decide +kernel
theorem dX6_two_40 : decode cX6_two 40 = .ok (.lload_n 1, 1) := by decide +kernel
theorem dX6_two_41 : decode cX6_two 41 = .ok (.aload_n 0, 1) := by decide +kernel
theorem dX6_two_42 : decode cX6_two 42 = .ok (.getfield 220, 3) := by decide +kernel
theorem dX6_two_45 : decode cX6_two 45 = .ok (.invokevirtual 238, 3) := by decide +kernel
theorem dX6_two_48 : decode cX6_two 48 = .ok (.ireturn, 1) := by decide +kernel
set_option maxRecDepth 20000 in
theorem ggX6_likeliest_X6_weighs : GoodIn wsX6_likeliest wsX6_weighs := goodIn_r _ [6, 7, 8, 9, 10, 11, 12, 1, 13, 14, 15, 5, 16, 17, 18, 19, 20, 21, 22, 23, 24, 25, 26, 27, 28, 29, 30, 31, 32, 33, 34, 35, 36, 37, 38, 39, 40, 41, 42, 43, 44, 45, 46, 47, 48, 49, 50, 51, 52, 53, 54, 55, 56, 57, 58, 59, 60, 61, 62, 63, 64, 65, 66, 67, 68, 69, 70, 71, 72, 73, 74, 75, 76, 77, 78, 79, 89, 90, 91, 92, 93, 94, 95, 96, 97, 98, 99, 100, 101, 102, 103, 104, 105, 106, 107, 108, 109, 110, 111, 112, 113, 114] (by decide +kernel) (by decide +kernel)
set_option maxRecDepth 20000 in
theorem gX6_likeliest_X6_weighs : GoodIn wsX6_likeliest (wsV RX6 235 RX6 yX6_weighs wsX6_weighs) := goodIn_app (goodIn_of _ (by decide +kernel)) ggX6_likeliest_X6_weighs
set_option maxRecDepth 20000 in
theorem ggX6_likeliest_X6_no : GoodIn wsX6_likeliest wsX6_no := goodIn_r _ [83, 84, 85, 86, 5, 87, 88, 89, 90, 91, 92, 93, 94, 95, 96, 97, 98, 99, 100, 101, 102, 103, 104, 105, 106, 107, 108, 109, 110, 111, 112, 113, 114] (by decide +kernel) (by decide +kernel)
set_option maxRecDepth 20000 in
theorem gX6_likeliest_X6_no : GoodIn wsX6_likeliest (wsV RX6 164 RX6 yX6_no wsX6_no) := goodIn_app (goodIn_of _ (by decide +kernel)) ggX6_likeliest_X6_no
theorem dX6_likeliest_0 : decode cX6_likeliest 0 = .ok (.aload_n 0, 1) := by decide +kernel
theorem dX6_likeliest_1 : decode cX6_likeliest 1 = .ok (.invokevirtual 235, 3) := by decide +kernel
theorem dX6_likeliest_4 : decode cX6_likeliest 4 = .ok (.ifCond .ne 8, 3) := by decide +kernel
theorem dX6_likeliest_7 : decode cX6_likeliest 7 = .ok (.aload_n 0, 1) := by decide +kernel
theorem dX6_likeliest_8 : decode cX6_likeliest 8 = .ok (.invokevirtual 164, 3) := by decide +kernel
theorem dX6_likeliest_11 : decode cX6_likeliest 11 = .ok (.ireturn, 1) := by decide +kernel
theorem dX6_likeliest_12 : decode cX6_likeliest 12 = .ok (.iconst 0, 1) := by decide +kernel
theorem dX6_likeliest_13 : decode cX6_likeliest 13 = .ok (.istore_n 1, 1) := by decide +kernel
theorem dX6_likeliest_14 : decode cX6_likeliest 14 = .ok (.iconst 1, 1) := by decide +kernel
theorem dX6_likeliest_15 : decode cX6_likeliest 15 = .ok (.istore_n 2, 1) := by decide +kernel
theorem dX6_likeliest_16 : decode cX6_likeliest 16 = .ok (.iload_n 2, 1) := by decide +kernel
theorem dX6_likeliest_17 : decode cX6_likeliest 17 = .ok (.sipush 2731, 3) := by decide +kernel
theorem dX6_likeliest_20 : decode cX6_likeliest 20 = .ok (.if_icmp .ge 31, 3) := by decide +kernel
theorem dX6_likeliest_23 : decode cX6_likeliest 23 = .ok (.aload_n 0, 1) := by decide +kernel
theorem dX6_likeliest_24 : decode cX6_likeliest 24 = .ok (.getfield 41, 3) := by decide +kernel
theorem dX6_likeliest_27 : decode cX6_likeliest 27 = .ok (.iload_n 2, 1) := by decide +kernel
theorem dX6_likeliest_28 : decode cX6_likeliest 28 = .ok (.laload, 1) := by decide +kernel
theorem dX6_likeliest_29 : decode cX6_likeliest 29 = .ok (.aload_n 0, 1) := by decide +kernel
theorem dX6_likeliest_30 : decode cX6_likeliest 30 = .ok (.getfield 41, 3) := by decide +kernel
theorem dX6_likeliest_33 : decode cX6_likeliest 33 = .ok (.iload_n 1, 1) := by decide +kernel
theorem dX6_likeliest_34 : decode cX6_likeliest 34 = .ok (.laload, 1) := by decide +kernel
theorem dX6_likeliest_35 : decode cX6_likeliest 35 = .ok (.lcmp, 1) := by decide +kernel
theorem dX6_likeliest_36 : decode cX6_likeliest 36 = .ok (.ifCond .le 7, 3) := by decide +kernel
theorem dX6_likeliest_39 : decode cX6_likeliest 39 = .ok (.iload_n 2, 1) := by decide +kernel
theorem dX6_likeliest_40 : decode cX6_likeliest 40 = .ok (.goto 4, 3) := by decide +kernel
theorem dX6_likeliest_43 : decode cX6_likeliest 43 = .ok (.iload_n 1, 1) := by decide +kernel
theorem dX6_likeliest_44 : decode cX6_likeliest 44 = .ok (.istore_n 1, 1) := by decide +kernel
theorem dX6_likeliest_45 : decode cX6_likeliest 45 = .ok (.iinc 2 1, 3) := by decide +kernel
theorem dX6_likeliest_48 : decode cX6_likeliest 48 = .ok (.goto (-32), 3) := by decide +kernel
theorem dX6_likeliest_51 : decode cX6_likeliest 51 = .ok (.iload_n 1, 1) := by decide +kernel
theorem dX6_likeliest_52 : decode cX6_likeliest 52 = .ok (.ireturn, 1) := by decide +kernel
set_option maxRecDepth 20000 in
theorem ggX6_guess_X6_in : GoodIn wsX6_guess wsX6_in := goodIn_r _ [10] (by decide +kernel) (by decide +kernel)
set_option maxRecDepth 20000 in
theorem gX6_guess_X6_in : GoodIn wsX6_guess (va_wsS RX6 100 yX6_in wsX6_in) := goodIn_app (goodIn_of _ (by decide +kernel)) ggX6_guess_X6_in
set_option maxRecDepth 20000 in
theorem ggX6_guess_X6_refuses : GoodIn wsX6_guess wsX6_refuses := goodIn_r _ [14, 15, 21, 22, 23, 24, 25, 26, 27, 28, 29, 30, 31, 32, 33, 34, 35, 36, 37, 38, 39, 40, 41, 42, 43, 44, 45, 46] (by decide +kernel) (by decide +kernel)
set_option maxRecDepth 20000 in
theorem gX6_guess_X6_refuses : GoodIn wsX6_guess (wsV RX6 58 RX6 yX6_refuses wsX6_refuses) := goodIn_app (goodIn_of _ (by decide +kernel)) ggX6_guess_X6_refuses
set_option maxRecDepth 20000 in
theorem ggX6_guess_X6_opens : GoodIn wsX6_guess wsX6_opens := goodIn_r _ [19, 3, 5, 4, 6, 20, 7, 8, 9, 10, 21, 22, 23, 24, 25, 26, 27, 28, 29, 30, 31, 32, 33, 34, 35, 36, 37, 38, 39, 40, 41, 42, 43, 44, 45, 46] (by decide +kernel) (by decide +kernel)
set_option maxRecDepth 20000 in
theorem gX6_guess_X6_opens : GoodIn wsX6_guess (wsV RX6 224 RX6 yX6_opens wsX6_opens) := goodIn_app (goodIn_of _ (by decide +kernel)) ggX6_guess_X6_opens
theorem dX6_guess_0 : decode cX6_guess 0 = .ok (.iload_n 1, 1) := by decide +kernel
theorem dX6_guess_1 : decode cX6_guess 1 = .ok (.i2l, 1) := by decide +kernel
theorem dX6_guess_2 : decode cX6_guess 2 = .ok (.lconst 0, 1) := by decide +kernel
theorem dX6_guess_3 : decode cX6_guess 3 = .ok (.ldc2_w 242, 3) := by decide +kernel
theorem dX6_guess_6 : decode cX6_guess 6 = .ok (.invokestatic 100, 3) := by decide +kernel
theorem dX6_guess_9 : decode cX6_guess 9 = .ok (.ifCond .eq 15, 3) := by decide +kernel
theorem dX6_guess_12 : decode cX6_guess 12 = .ok (.iload_n 2, 1) := by decide +kernel
theorem dX6_guess_13 : decode cX6_guess 13 = .ok (.i2l, 1) := by decide +kernel
theorem dX6_guess_14 : decode cX6_guess 14 = .ok (.lconst 0, 1) := by decide +kernel
theorem dX6_guess_15 : decode cX6_guess 15 = .ok (.ldc2_w 175, 3) := by decide +kernel
theorem dX6_guess_18 : decode cX6_guess 18 = .ok (.invokestatic 100, 3) := by decide +kernel
theorem dX6_guess_21 : decode cX6_guess 21 = .ok (.ifCond .ne 11, 3) := by decide +kernel
theorem dX6_guess_24 : decode cX6_guess 24 = .ok (.aload_n 0, 1) := by decide +kernel
theorem dX6_guess_25 : decode cX6_guess 25 = .ok (.iconst 0, 1) := by decide +kernel
theorem dX6_guess_26 : decode cX6_guess 26 = .ok (.bipush (-10), 2) := by decide +kernel
theorem dX6_guess_28 : decode cX6_guess 28 = .ok (.invokevirtual 58, 3) := by decide +kernel
theorem dX6_guess_31 : decode cX6_guess 31 = .ok (.ireturn, 1) := by decide +kernel
theorem dX6_guess_32 : decode cX6_guess 32 = .ok (.aload_n 0, 1) := by decide +kernel
theorem dX6_guess_33 : decode cX6_guess 33 = .ok (.iload_n 1, 1) := by decide +kernel
theorem dX6_guess_34 : decode cX6_guess 34 = .ok (.invokevirtual 224, 3) := by decide +kernel
theorem dX6_guess_37 : decode cX6_guess 37 = .ok (.aload_n 0, 1) := by decide +kernel
theorem dX6_guess_38 : decode cX6_guess 38 = .ok (.getfield 206, 3) := by decide +kernel
theorem dX6_guess_41 : decode cX6_guess 41 = .ok (.iload_n 2, 1) := by decide +kernel
theorem dX6_guess_42 : decode cX6_guess 42 = .ok (.if_icmp .ne 10, 3) := by decide +kernel
theorem dX6_guess_45 : decode cX6_guess 45 = .ok (.aload_n 0, 1) := by decide +kernel
theorem dX6_guess_46 : decode cX6_guess 46 = .ok (.getfield 212, 3) := by decide +kernel
theorem dX6_guess_49 : decode cX6_guess 49 = .ok (.goto 19, 3) := by decide +kernel
theorem dX6_guess_52 : decode cX6_guess 52 = .ok (.aload_n 0, 1) := by decide +kernel
theorem dX6_guess_53 : decode cX6_guess 53 = .ok (.getfield 209, 3) := by decide +kernel
theorem dX6_guess_56 : decode cX6_guess 56 = .ok (.iload_n 2, 1) := by decide +kernel
theorem dX6_guess_57 : decode cX6_guess 57 = .ok (.if_icmp .ne 10, 3) := by decide +kernel
theorem dX6_guess_60 : decode cX6_guess 60 = .ok (.aload_n 0, 1) := by decide +kernel
theorem dX6_guess_61 : decode cX6_guess 61 = .ok (.getfield 215, 3) := by decide +kernel
theorem dX6_guess_64 : decode cX6_guess 64 = .ok (.goto 4, 3) := by decide +kernel
theorem dX6_guess_67 : decode cX6_guess 67 = .ok (.iconst (-1), 1) := by decide +kernel
theorem dX6_guess_68 : decode cX6_guess 68 = .ok (.ireturn, 1) := by decide +kernel
set_option maxRecDepth 20000 in
theorem ggX6_next_X6_weighs : GoodIn wsX6_next wsX6_weighs := goodIn_r _ [7, 8, 9, 10, 11, 12, 13, 2, 14, 15, 16, 6, 17, 18, 19, 20, 21, 22, 23, 24, 25, 26, 27, 28, 29, 30, 31, 32, 33, 34, 35, 36, 37, 38, 39, 40, 41, 42, 43, 44, 45, 46, 47, 48, 49, 50, 51, 52, 53, 54, 55, 56, 57, 58, 59, 60, 61, 62, 63, 64, 65, 66, 67, 68, 69, 70, 71, 72, 73, 74, 75, 76, 77, 78, 79, 80, 98, 99, 100, 101, 102, 103, 104, 105, 106, 107, 108, 109, 110, 111, 112, 113, 114, 115, 116, 117, 118, 119, 120, 121, 122, 123] (by decide +kernel) (by decide +kernel)
set_option maxRecDepth 20000 in
theorem gX6_next_X6_weighs : GoodIn wsX6_next (wsV RX6 235 RX6 yX6_weighs wsX6_weighs) := goodIn_app (goodIn_of _ (by decide +kernel)) ggX6_next_X6_weighs
set_option maxRecDepth 20000 in
theorem ggX6_next_X6_no : GoodIn wsX6_next wsX6_no := goodIn_r _ [84, 85, 86, 87, 6, 88, 89, 98, 99, 100, 101, 102, 103, 104, 105, 106, 107, 108, 109, 110, 111, 112, 113, 114, 115, 116, 117, 118, 119, 120, 121, 122, 123] (by decide +kernel) (by decide +kernel)
set_option maxRecDepth 20000 in
theorem gX6_next_X6_no : GoodIn wsX6_next (wsV RX6 164 RX6 yX6_no wsX6_no) := goodIn_app (goodIn_of _ (by decide +kernel)) ggX6_next_X6_no
set_option maxRecDepth 20000 in
theorem ggX6_next_X6_isMinute : GoodIn wsX6_next wsX6_isMinute := goodIn_r _ [93, 13, 41, 42, 6, 43, 98, 99, 100, 101, 102, 103, 104, 105, 106, 107, 108, 109, 110, 111, 112, 113, 114, 115, 116, 117, 118, 119, 120, 121, 122, 123] (by decide +kernel) (by decide +kernel)
set_option maxRecDepth 20000 in
theorem gX6_next_X6_isMinute : GoodIn wsX6_next (wsV RX6 190 RX6 yX6_isMinute wsX6_isMinute) := goodIn_app (goodIn_of _ (by decide +kernel)) ggX6_next_X6_isMinute
set_option maxRecDepth 20000 in
theorem ggX6_next_X6_bad : GoodIn wsX6_next wsX6_bad := goodIn_r _ [97, 85, 86, 87, 6, 88, 89, 98, 99, 100, 101, 102, 103, 104, 105, 106, 107, 108, 109, 110, 111, 112, 113, 114, 115, 116, 117, 118, 119, 120, 121, 122, 123] (by decide +kernel) (by decide +kernel)
set_option maxRecDepth 20000 in
theorem gX6_next_X6_bad : GoodIn wsX6_next (wsV RX6 97 RX6 yX6_bad wsX6_bad) := goodIn_app (goodIn_of _ (by decide +kernel)) ggX6_next_X6_bad
set_option maxRecDepth 20000 in
theorem ggX6_next_X6_opens : GoodIn wsX6_next wsX6_opens := goodIn_r _ [65, 66, 67, 11, 12, 68, 41, 42, 6, 43, 98, 99, 100, 101, 102, 103, 104, 105, 106, 107, 108, 109, 110, 111, 112, 113, 114, 115, 116, 117, 118, 119, 120, 121, 122, 123] (by decide +kernel) (by decide +kernel)
set_option maxRecDepth 20000 in
theorem gX6_next_X6_opens : GoodIn wsX6_next (wsV RX6 224 RX6 yX6_opens wsX6_opens) := goodIn_app (goodIn_of _ (by decide +kernel)) ggX6_next_X6_opens
set_option maxRecDepth 20000 in
theorem ggX6_next_X6_levelOf : GoodIn wsX6_next wsX6_levelOf := goodIn_r _ [76, 66, 11, 67, 12, 9, 77, 78, 79, 6, 80, 21, 98, 99, 100, 101, 102, 103, 104, 105, 106, 107, 108, 109, 110, 111, 112, 113, 114, 115, 116, 117, 118, 119, 120, 121, 122, 123] (by decide +kernel) (by decide +kernel)
set_option maxRecDepth 20000 in
theorem gX6_next_X6_levelOf : GoodIn wsX6_next (wsV RX6 230 RX6 yX6_levelOf wsX6_levelOf) := goodIn_app (goodIn_of _ (by decide +kernel)) ggX6_next_X6_levelOf
theorem dX6_next_0 : decode cX6_next 0 = .ok (.aload_n 0, 1) := by decide +kernel
theorem dX6_next_1 : decode cX6_next 1 = .ok (.invokevirtual 235, 3) := by decide +kernel
theorem dX6_next_4 : decode cX6_next 4 = .ok (.ifCond .ne 8, 3) := by decide +kernel
theorem dX6_next_7 : decode cX6_next 7 = .ok (.aload_n 0, 1) := by decide +kernel
theorem dX6_next_8 : decode cX6_next 8 = .ok (.invokevirtual 164, 3) := by decide +kernel
theorem dX6_next_11 : decode cX6_next 11 = .ok (.ireturn, 1) := by decide +kernel
theorem dX6_next_12 : decode cX6_next 12 = .ok (.aload_n 0, 1) := by decide +kernel
theorem dX6_next_13 : decode cX6_next 13 = .ok (.iload_n 1, 1) := by decide +kernel
theorem dX6_next_14 : decode cX6_next 14 = .ok (.invokevirtual 190, 3) := by decide +kernel
theorem dX6_next_17 : decode cX6_next 17 = .ok (.ifCond .ne 8, 3) := by decide +kernel
theorem dX6_next_20 : decode cX6_next 20 = .ok (.aload_n 0, 1) := by decide +kernel
theorem dX6_next_21 : decode cX6_next 21 = .ok (.invokevirtual 97, 3) := by decide +kernel
theorem dX6_next_24 : decode cX6_next 24 = .ok (.ireturn, 1) := by decide +kernel
theorem dX6_next_25 : decode cX6_next 25 = .ok (.iconst (-1), 1) := by decide +kernel
theorem dX6_next_26 : decode cX6_next 26 = .ok (.istore_n 2, 1) := by decide +kernel
theorem dX6_next_27 : decode cX6_next 27 = .ok (.lconst 0, 1) := by decide +kernel
theorem dX6_next_28 : decode cX6_next 28 = .ok (.lstore_n 3, 1) := by decide +kernel
theorem dX6_next_29 : decode cX6_next 29 = .ok (.iconst 0, 1) := by decide +kernel
theorem dX6_next_30 : decode cX6_next 30 = .ok (.istore 5, 2) := by decide +kernel
theorem dX6_next_32 : decode cX6_next 32 = .ok (.iload 5, 2) := by decide +kernel
theorem dX6_next_34 : decode cX6_next 34 = .ok (.iconst 4, 1) := by decide +kernel
theorem dX6_next_35 : decode cX6_next 35 = .ok (.if_icmp .ge 176, 3) := by decide +kernel
theorem dX6_next_38 : decode cX6_next 38 = .ok (.iconst 0, 1) := by decide +kernel
theorem dX6_next_39 : decode cX6_next 39 = .ok (.istore 6, 2) := by decide +kernel
theorem dX6_next_41 : decode cX6_next 41 = .ok (.iload 6, 2) := by decide +kernel
theorem dX6_next_43 : decode cX6_next 43 = .ok (.iconst 5, 1) := by decide +kernel
theorem dX6_next_44 : decode cX6_next 44 = .ok (.if_icmp .ge 161, 3) := by decide +kernel
theorem dX6_next_47 : decode cX6_next 47 = .ok (.iconst 0, 1) := by decide +kernel
theorem dX6_next_48 : decode cX6_next 48 = .ok (.istore 7, 2) := by decide +kernel
theorem dX6_next_50 : decode cX6_next 50 = .ok (.iload 7, 2) := by decide +kernel
theorem dX6_next_52 : decode cX6_next 52 = .ok (.iconst 3, 1) := by decide +kernel
theorem dX6_next_53 : decode cX6_next 53 = .ok (.if_icmp .ge 17, 3) := by decide +kernel
theorem dX6_next_56 : decode cX6_next 56 = .ok (.aload_n 0, 1) := by decide +kernel
theorem dX6_next_57 : decode cX6_next 57 = .ok (.getfield 45, 3) := by decide +kernel
theorem dX6_next_60 : decode cX6_next 60 = .ok (.iload 7, 2) := by decide +kernel
theorem dX6_next_62 : decode cX6_next 62 = .ok (.lconst 0, 1) := by decide +kernel
theorem dX6_next_63 : decode cX6_next 63 = .ok (.lastore, 1) := by decide +kernel
theorem dX6_next_64 : decode cX6_next 64 = .ok (.iinc 7 1, 3) := by decide +kernel
theorem dX6_next_67 : decode cX6_next 67 = .ok (.goto (-17), 3) := by decide +kernel
theorem dX6_next_70 : decode cX6_next 70 = .ok (.iconst 0, 1) := by decide +kernel
theorem dX6_next_71 : decode cX6_next 71 = .ok (.istore 7, 2) := by decide +kernel
theorem dX6_next_73 : decode cX6_next 73 = .ok (.iload 7, 2) := by decide +kernel
theorem dX6_next_75 : decode cX6_next 75 = .ok (.sipush 2731, 3) := by decide +kernel
theorem dX6_next_78 : decode cX6_next 78 = .ok (.if_icmp .ge 39, 3) := by decide +kernel
theorem dX6_next_81 : decode cX6_next 81 = .ok (.aload_n 0, 1) := by decide +kernel
theorem dX6_next_82 : decode cX6_next 82 = .ok (.iload 7, 2) := by decide +kernel
theorem dX6_next_84 : decode cX6_next 84 = .ok (.invokevirtual 224, 3) := by decide +kernel
theorem dX6_next_87 : decode cX6_next 87 = .ok (.aload_n 0, 1) := by decide +kernel
theorem dX6_next_88 : decode cX6_next 88 = .ok (.getfield 45, 3) := by decide +kernel
theorem dX6_next_91 : decode cX6_next 91 = .ok (.aload_n 0, 1) := by decide +kernel
theorem dX6_next_92 : decode cX6_next 92 = .ok (.iload_n 1, 1) := by decide +kernel
theorem dX6_next_93 : decode cX6_next 93 = .ok (.iload 5, 2) := by decide +kernel
theorem dX6_next_95 : decode cX6_next 95 = .ok (.iload 6, 2) := by decide +kernel
theorem dX6_next_97 : decode cX6_next 97 = .ok (.invokevirtual 230, 3) := by decide +kernel
theorem dX6_next_100 : decode cX6_next 100 = .ok (.dup2, 1) := by decide +kernel
theorem dX6_next_101 : decode cX6_next 101 = .ok (.laload, 1) := by decide +kernel
theorem dX6_next_102 : decode cX6_next 102 = .ok (.aload_n 0, 1) := by decide +kernel
theorem dX6_next_103 : decode cX6_next 103 = .ok (.getfield 41, 3) := by decide +kernel
theorem dX6_next_106 : decode cX6_next 106 = .ok (.iload 7, 2) := by decide +kernel
theorem dX6_next_108 : decode cX6_next 108 = .ok (.laload, 1) := by decide +kernel
theorem dX6_next_109 : decode cX6_next 109 = .ok (.ladd, 1) := by decide +kernel
theorem dX6_next_110 : decode cX6_next 110 = .ok (.lastore, 1) := by decide +kernel
theorem dX6_next_111 : decode cX6_next 111 = .ok (.iinc 7 1, 3) := by decide +kernel
theorem dX6_next_114 : decode cX6_next 114 = .ok (.goto (-41), 3) := by decide +kernel
theorem dX6_next_117 : decode cX6_next 117 = .ok (.aload_n 0, 1) := by decide +kernel
theorem dX6_next_118 : decode cX6_next 118 = .ok (.getfield 45, 3) := by decide +kernel
theorem dX6_next_121 : decode cX6_next 121 = .ok (.iconst 0, 1) := by decide +kernel
theorem dX6_next_122 : decode cX6_next 122 = .ok (.laload, 1) := by decide +kernel
theorem dX6_next_123 : decode cX6_next 123 = .ok (.aload_n 0, 1) := by decide +kernel
theorem dX6_next_124 : decode cX6_next 124 = .ok (.getfield 45, 3) := by decide +kernel
theorem dX6_next_127 : decode cX6_next 127 = .ok (.iconst 1, 1) := by decide +kernel
theorem dX6_next_128 : decode cX6_next 128 = .ok (.laload, 1) := by decide +kernel
theorem dX6_next_129 : decode cX6_next 129 = .ok (.lcmp, 1) := by decide +kernel
theorem dX6_next_130 : decode cX6_next 130 = .ok (.ifCond .le 12, 3) := by decide +kernel
theorem dX6_next_133 : decode cX6_next 133 = .ok (.aload_n 0, 1) := by decide +kernel
theorem dX6_next_134 : decode cX6_next 134 = .ok (.getfield 45, 3) := by decide +kernel
theorem dX6_next_137 : decode cX6_next 137 = .ok (.iconst 0, 1) := by decide +kernel
theorem dX6_next_138 : decode cX6_next 138 = .ok (.laload, 1) := by decide +kernel
theorem dX6_next_139 : decode cX6_next 139 = .ok (.goto 9, 3) := by decide +kernel
theorem dX6_next_142 : decode cX6_next 142 = .ok (.aload_n 0, 1) := by decide +kernel
theorem dX6_next_143 : decode cX6_next 143 = .ok (.getfield 45, 3) := by decide +kernel
theorem dX6_next_146 : decode cX6_next 146 = .ok (.iconst 1, 1) := by decide +kernel
theorem dX6_next_147 : decode cX6_next 147 = .ok (.laload, 1) := by decide +kernel
theorem dX6_next_148 : decode cX6_next 148 = .ok (.lstore 7, 2) := by decide +kernel
theorem dX6_next_150 : decode cX6_next 150 = .ok (.aload_n 0, 1) := by decide +kernel
theorem dX6_next_151 : decode cX6_next 151 = .ok (.getfield 45, 3) := by decide +kernel
theorem dX6_next_154 : decode cX6_next 154 = .ok (.iconst 2, 1) := by decide +kernel
theorem dX6_next_155 : decode cX6_next 155 = .ok (.laload, 1) := by decide +kernel
theorem dX6_next_156 : decode cX6_next 156 = .ok (.lload 7, 2) := by decide +kernel
theorem dX6_next_158 : decode cX6_next 158 = .ok (.lcmp, 1) := by decide +kernel
theorem dX6_next_159 : decode cX6_next 159 = .ok (.ifCond .le 12, 3) := by decide +kernel
theorem dX6_next_162 : decode cX6_next 162 = .ok (.aload_n 0, 1) := by decide +kernel
theorem dX6_next_163 : decode cX6_next 163 = .ok (.getfield 45, 3) := by decide +kernel
theorem dX6_next_166 : decode cX6_next 166 = .ok (.iconst 2, 1) := by decide +kernel
theorem dX6_next_167 : decode cX6_next 167 = .ok (.laload, 1) := by decide +kernel
theorem dX6_next_168 : decode cX6_next 168 = .ok (.goto 5, 3) := by decide +kernel
theorem dX6_next_171 : decode cX6_next 171 = .ok (.lload 7, 2) := by decide +kernel
theorem dX6_next_173 : decode cX6_next 173 = .ok (.lstore 7, 2) := by decide +kernel
theorem dX6_next_175 : decode cX6_next 175 = .ok (.iload_n 2, 1) := by decide +kernel
theorem dX6_next_176 : decode cX6_next 176 = .ok (.iconst (-1), 1) := by decide +kernel
theorem dX6_next_177 : decode cX6_next 177 = .ok (.if_icmp .eq 10, 3) := by decide +kernel
theorem dX6_next_180 : decode cX6_next 180 = .ok (.lload 7, 2) := by decide +kernel
theorem dX6_next_182 : decode cX6_next 182 = .ok (.lload_n 3, 1) := by decide +kernel
theorem dX6_next_183 : decode cX6_next 183 = .ok (.lcmp, 1) := by decide +kernel
theorem dX6_next_184 : decode cX6_next 184 = .ok (.ifCond .ge 15, 3) := by decide +kernel
theorem dX6_next_187 : decode cX6_next 187 = .ok (.bipush 10, 2) := by decide +kernel
theorem dX6_next_189 : decode cX6_next 189 = .ok (.iload 5, 2) := by decide +kernel
theorem dX6_next_191 : decode cX6_next 191 = .ok (.imul, 1) := by decide +kernel
theorem dX6_next_192 : decode cX6_next 192 = .ok (.iload 6, 2) := by decide +kernel
theorem dX6_next_194 : decode cX6_next 194 = .ok (.iadd, 1) := by decide +kernel
theorem dX6_next_195 : decode cX6_next 195 = .ok (.istore_n 2, 1) := by decide +kernel
theorem dX6_next_196 : decode cX6_next 196 = .ok (.lload 7, 2) := by decide +kernel
theorem dX6_next_198 : decode cX6_next 198 = .ok (.lstore_n 3, 1) := by decide +kernel
theorem dX6_next_199 : decode cX6_next 199 = .ok (.iinc 6 1, 3) := by decide +kernel
theorem dX6_next_202 : decode cX6_next 202 = .ok (.goto (-161), 3) := by decide +kernel
theorem dX6_next_205 : decode cX6_next 205 = .ok (.iinc 5 1, 3) := by decide +kernel
theorem dX6_next_208 : decode cX6_next 208 = .ok (.goto (-176), 3) := by decide +kernel
theorem dX6_next_211 : decode cX6_next 211 = .ok (.iload_n 2, 1) := by decide +kernel
theorem dX6_next_212 : decode cX6_next 212 = .ok (.ireturn, 1) := by decide +kernel
set_option maxRecDepth 20000 in
theorem ggX6_leaks_X6_in : GoodIn wsX6_leaks wsX6_in := goodIn_r _ [11] (by decide +kernel) (by decide +kernel)
set_option maxRecDepth 20000 in
theorem gX6_leaks_X6_in : GoodIn wsX6_leaks (va_wsS RX6 100 yX6_in wsX6_in) := goodIn_app (goodIn_of _ (by decide +kernel)) ggX6_leaks_X6_in
set_option maxRecDepth 20000 in
theorem ggX6_leaks_X6_bad : GoodIn wsX6_leaks wsX6_bad := goodIn_r _ [15, 16, 17, 18, 10, 19, 20, 140, 141, 142, 143, 144, 145, 146, 147, 148, 149, 150, 151, 152, 153, 154, 155, 156, 157, 158, 159, 160, 161, 162, 163, 164, 165] (by decide +kernel) (by decide +kernel)
set_option maxRecDepth 20000 in
theorem gX6_leaks_X6_bad : GoodIn wsX6_leaks (wsV RX6 97 RX6 yX6_bad wsX6_bad) := goodIn_app (goodIn_of _ (by decide +kernel)) ggX6_leaks_X6_bad
set_option maxRecDepth 20000 in
theorem ggX6_leaks_X6_weighs : GoodIn wsX6_leaks wsX6_weighs := goodIn_r _ [24, 7, 25, 26, 4, 5, 3, 6, 27, 28, 29, 10, 30, 31, 32, 33, 34, 35, 36, 37, 38, 39, 40, 41, 42, 43, 44, 45, 46, 47, 48, 49, 50, 51, 52, 53, 8, 9, 11, 54, 55, 56, 57, 58, 59, 60, 61, 62, 63, 64, 65, 66, 67, 68, 69, 70, 71, 72, 73, 74, 75, 76, 77, 78, 79, 80, 81, 82, 83, 84, 85, 86, 87, 88, 89, 90, 140, 141, 142, 143, 144, 145, 146, 147, 148, 149, 150, 151, 152, 153, 154, 155, 156, 157, 158, 159, 160, 161, 162, 163, 164, 165] (by decide +kernel) (by decide +kernel)
set_option maxRecDepth 20000 in
theorem gX6_leaks_X6_weighs : GoodIn wsX6_leaks (wsV RX6 235 RX6 yX6_weighs wsX6_weighs) := goodIn_app (goodIn_of _ (by decide +kernel)) ggX6_leaks_X6_weighs
set_option maxRecDepth 20000 in
theorem ggX6_leaks_X6_no : GoodIn wsX6_leaks wsX6_no := goodIn_r _ [94, 16, 17, 18, 10, 19, 20, 140, 141, 142, 143, 144, 145, 146, 147, 148, 149, 150, 151, 152, 153, 154, 155, 156, 157, 158, 159, 160, 161, 162, 163, 164, 165] (by decide +kernel) (by decide +kernel)
set_option maxRecDepth 20000 in
theorem gX6_leaks_X6_no : GoodIn wsX6_leaks (wsV RX6 164 RX6 yX6_no wsX6_no) := goodIn_app (goodIn_of _ (by decide +kernel)) ggX6_leaks_X6_no
set_option maxRecDepth 20000 in
theorem ggX6_leaks_X6_given : GoodIn wsX6_leaks wsX6_given := goodIn_r _ [90, 34, 140, 141, 142, 143, 144, 145, 146, 147, 148, 149, 150, 151, 152, 153, 154, 155, 156, 157, 158, 159, 160, 161, 162, 163, 164, 165] (by decide +kernel) (by decide +kernel)
set_option maxRecDepth 20000 in
theorem gX6_leaks_X6_given : GoodIn wsX6_leaks (wsV RX6 193 RX6 yX6_given wsX6_given) := goodIn_app (goodIn_of _ (by decide +kernel)) ggX6_leaks_X6_given
set_option maxRecDepth 20000 in
theorem ggX6_leaks_X6_opens : GoodIn wsX6_leaks wsX6_opens := goodIn_r _ [75, 76, 77, 4, 5, 78, 8, 9, 10, 11, 140, 141, 142, 143, 144, 145, 146, 147, 148, 149, 150, 151, 152, 153, 154, 155, 156, 157, 158, 159, 160, 161, 162, 163, 164, 165] (by decide +kernel) (by decide +kernel)
set_option maxRecDepth 20000 in
theorem gX6_leaks_X6_opens : GoodIn wsX6_leaks (wsV RX6 224 RX6 yX6_opens wsX6_opens) := goodIn_app (goodIn_of _ (by decide +kernel)) ggX6_leaks_X6_opens
set_option maxRecDepth 20000 in
theorem ggX6_leaks_X6_tells : GoodIn wsX6_leaks wsX6_tells := goodIn_r _ [98, 99, 100, 101, 102, 10, 103, 104, 105, 106, 107, 108, 109, 110, 111, 112, 113, 114, 115, 116, 117, 118, 119, 120, 121, 122, 123, 124, 125, 126, 127, 128, 129, 130, 131, 132, 133, 134, 135, 136, 137, 138, 139, 140, 141, 142, 143, 144, 145, 146, 147, 148, 149, 150, 151, 152, 153, 154, 155, 156, 157, 158, 159, 160, 161, 162, 163, 164, 165] (by decide +kernel) (by decide +kernel)
set_option maxRecDepth 20000 in
theorem gX6_leaks_X6_tells : GoodIn wsX6_leaks (wsV RX6 238 RX6 yX6_tells wsX6_tells) := goodIn_app (goodIn_of _ (by decide +kernel)) ggX6_leaks_X6_tells
theorem dX6_leaks_0 : decode cX6_leaks 0 = .ok (.iload_n 1, 1) := by decide +kernel
theorem dX6_leaks_1 : decode cX6_leaks 1 = .ok (.i2l, 1) := by decide +kernel
theorem dX6_leaks_2 : decode cX6_leaks 2 = .ok (.lconst 0, 1) := by decide +kernel
theorem dX6_leaks_3 : decode cX6_leaks 3 = .ok (.ldc2_w 244, 3) := by decide +kernel
theorem dX6_leaks_6 : decode cX6_leaks 6 = .ok (.invokestatic 100, 3) := by decide +kernel
theorem dX6_leaks_9 : decode cX6_leaks 9 = .ok (.ifCond .ne 8, 3) := by decide +kernel
theorem dX6_leaks_12 : decode cX6_leaks 12 = .ok (.aload_n 0, 1) := by decide +kernel
theorem dX6_leaks_13 : decode cX6_leaks 13 = .ok (.invokevirtual 97, 3) := by decide +kernel
theorem dX6_leaks_16 : decode cX6_leaks 16 = .ok (.ireturn, 1) := by decide +kernel
theorem dX6_leaks_17 : decode cX6_leaks 17 = .ok (.aload_n 0, 1) := by decide +kernel
theorem dX6_leaks_18 : decode cX6_leaks 18 = .ok (.invokevirtual 235, 3) := by decide +kernel
theorem dX6_leaks_21 : decode cX6_leaks 21 = .ok (.ifCond .ne 8, 3) := by decide +kernel
theorem dX6_leaks_24 : decode cX6_leaks 24 = .ok (.aload_n 0, 1) := by decide +kernel
theorem dX6_leaks_25 : decode cX6_leaks 25 = .ok (.invokevirtual 164, 3) := by decide +kernel
theorem dX6_leaks_28 : decode cX6_leaks 28 = .ok (.ireturn, 1) := by decide +kernel
theorem dX6_leaks_29 : decode cX6_leaks 29 = .ok (.iconst 0, 1) := by decide +kernel
theorem dX6_leaks_30 : decode cX6_leaks 30 = .ok (.istore_n 2, 1) := by decide +kernel
theorem dX6_leaks_31 : decode cX6_leaks 31 = .ok (.iload_n 2, 1) := by decide +kernel
theorem dX6_leaks_32 : decode cX6_leaks 32 = .ok (.bipush 21, 2) := by decide +kernel
theorem dX6_leaks_34 : decode cX6_leaks 34 = .ok (.if_icmp .ge 48, 3) := by decide +kernel
theorem dX6_leaks_37 : decode cX6_leaks 37 = .ok (.aload_n 0, 1) := by decide +kernel
theorem dX6_leaks_38 : decode cX6_leaks 38 = .ok (.getfield 48, 3) := by decide +kernel
theorem dX6_leaks_41 : decode cX6_leaks 41 = .ok (.iload_n 2, 1) := by decide +kernel
theorem dX6_leaks_42 : decode cX6_leaks 42 = .ok (.iconst 0, 1) := by decide +kernel
theorem dX6_leaks_43 : decode cX6_leaks 43 = .ok (.iastore, 1) := by decide +kernel
theorem dX6_leaks_44 : decode cX6_leaks 44 = .ok (.iconst 0, 1) := by decide +kernel
theorem dX6_leaks_45 : decode cX6_leaks 45 = .ok (.istore_n 3, 1) := by decide +kernel
theorem dX6_leaks_46 : decode cX6_leaks 46 = .ok (.iload_n 3, 1) := by decide +kernel
theorem dX6_leaks_47 : decode cX6_leaks 47 = .ok (.aload_n 0, 1) := by decide +kernel
theorem dX6_leaks_48 : decode cX6_leaks 48 = .ok (.getfield 150, 3) := by decide +kernel
theorem dX6_leaks_51 : decode cX6_leaks 51 = .ok (.if_icmp .ge 25, 3) := by decide +kernel
theorem dX6_leaks_54 : decode cX6_leaks 54 = .ok (.aload_n 0, 1) := by decide +kernel
theorem dX6_leaks_55 : decode cX6_leaks 55 = .ok (.getfield 48, 3) := by decide +kernel
theorem dX6_leaks_58 : decode cX6_leaks 58 = .ok (.iload_n 2, 1) := by decide +kernel
theorem dX6_leaks_59 : decode cX6_leaks 59 = .ok (.dup2, 1) := by decide +kernel
theorem dX6_leaks_60 : decode cX6_leaks 60 = .ok (.iaload, 1) := by decide +kernel
theorem dX6_leaks_61 : decode cX6_leaks 61 = .ok (.aload_n 0, 1) := by decide +kernel
theorem dX6_leaks_62 : decode cX6_leaks 62 = .ok (.iload_n 2, 1) := by decide +kernel
theorem dX6_leaks_63 : decode cX6_leaks 63 = .ok (.iload_n 3, 1) := by decide +kernel
theorem dX6_leaks_64 : decode cX6_leaks 64 = .ok (.iconst 0, 1) := by decide +kernel
theorem dX6_leaks_65 : decode cX6_leaks 65 = .ok (.invokevirtual 193, 3) := by decide +kernel
theorem dX6_leaks_68 : decode cX6_leaks 68 = .ok (.iadd, 1) := by decide +kernel
theorem dX6_leaks_69 : decode cX6_leaks 69 = .ok (.iastore, 1) := by decide +kernel
theorem dX6_leaks_70 : decode cX6_leaks 70 = .ok (.iinc 3 1, 3) := by decide +kernel
theorem dX6_leaks_73 : decode cX6_leaks 73 = .ok (.goto (-27), 3) := by decide +kernel
theorem dX6_leaks_76 : decode cX6_leaks 76 = .ok (.iinc 2 1, 3) := by decide +kernel
theorem dX6_leaks_79 : decode cX6_leaks 79 = .ok (.goto (-48), 3) := by decide +kernel
theorem dX6_leaks_82 : decode cX6_leaks 82 = .ok (.lconst 0, 1) := by decide +kernel
theorem dX6_leaks_83 : decode cX6_leaks 83 = .ok (.lstore_n 2, 1) := by decide +kernel
theorem dX6_leaks_84 : decode cX6_leaks 84 = .ok (.iconst 0, 1) := by decide +kernel
theorem dX6_leaks_85 : decode cX6_leaks 85 = .ok (.istore 4, 2) := by decide +kernel
theorem dX6_leaks_87 : decode cX6_leaks 87 = .ok (.iload 4, 2) := by decide +kernel
theorem dX6_leaks_89 : decode cX6_leaks 89 = .ok (.sipush 2731, 3) := by decide +kernel
theorem dX6_leaks_92 : decode cX6_leaks 92 = .ok (.if_icmp .ge 80, 3) := by decide +kernel
theorem dX6_leaks_95 : decode cX6_leaks 95 = .ok (.aload_n 0, 1) := by decide +kernel
theorem dX6_leaks_96 : decode cX6_leaks 96 = .ok (.iload 4, 2) := by decide +kernel
theorem dX6_leaks_98 : decode cX6_leaks 98 = .ok (.invokevirtual 224, 3) := by decide +kernel
theorem dX6_leaks_101 : decode cX6_leaks 101 = .ok (.aload_n 0, 1) := by decide +kernel
theorem dX6_leaks_102 : decode cX6_leaks 102 = .ok (.getfield 212, 3) := by decide +kernel
theorem dX6_leaks_105 : decode cX6_leaks 105 = .ok (.iconst (-1), 1) := by decide +kernel
theorem dX6_leaks_106 : decode cX6_leaks 106 = .ok (.if_icmp .ne 7, 3) := by decide +kernel
theorem dX6_leaks_109 : decode cX6_leaks 109 = .ok (.iconst 0, 1) := by decide +kernel
theorem dX6_leaks_110 : decode cX6_leaks 110 = .ok (.goto 12, 3) := by decide +kernel
theorem dX6_leaks_113 : decode cX6_leaks 113 = .ok (.aload_n 0, 1) := by decide +kernel
theorem dX6_leaks_114 : decode cX6_leaks 114 = .ok (.getfield 48, 3) := by decide +kernel
theorem dX6_leaks_117 : decode cX6_leaks 117 = .ok (.aload_n 0, 1) := by decide +kernel
theorem dX6_leaks_118 : decode cX6_leaks 118 = .ok (.getfield 212, 3) := by decide +kernel
theorem dX6_leaks_121 : decode cX6_leaks 121 = .ok (.iaload, 1) := by decide +kernel
theorem dX6_leaks_122 : decode cX6_leaks 122 = .ok (.aload_n 0, 1) := by decide +kernel
theorem dX6_leaks_123 : decode cX6_leaks 123 = .ok (.getfield 215, 3) := by decide +kernel
theorem dX6_leaks_126 : decode cX6_leaks 126 = .ok (.iconst (-1), 1) := by decide +kernel
theorem dX6_leaks_127 : decode cX6_leaks 127 = .ok (.if_icmp .ne 7, 3) := by decide +kernel
theorem dX6_leaks_130 : decode cX6_leaks 130 = .ok (.iconst 0, 1) := by decide +kernel
theorem dX6_leaks_131 : decode cX6_leaks 131 = .ok (.goto 12, 3) := by decide +kernel
theorem dX6_leaks_134 : decode cX6_leaks 134 = .ok (.aload_n 0, 1) := by decide +kernel
theorem dX6_leaks_135 : decode cX6_leaks 135 = .ok (.getfield 48, 3) := by decide +kernel
theorem dX6_leaks_138 : decode cX6_leaks 138 = .ok (.aload_n 0, 1) := by decide +kernel
theorem dX6_leaks_139 : decode cX6_leaks 139 = .ok (.getfield 215, 3) := by decide +kernel
theorem dX6_leaks_142 : decode cX6_leaks 142 = .ok (.iaload, 1) := by decide +kernel
theorem dX6_leaks_143 : decode cX6_leaks 143 = .ok (.iadd, 1) := by decide +kernel
theorem dX6_leaks_144 : decode cX6_leaks 144 = .ok (.istore 5, 2) := by decide +kernel
theorem dX6_leaks_146 : decode cX6_leaks 146 = .ok (.lload_n 2, 1) := by decide +kernel
theorem dX6_leaks_147 : decode cX6_leaks 147 = .ok (.iload 5, 2) := by decide +kernel
theorem dX6_leaks_149 : decode cX6_leaks 149 = .ok (.iload_n 1, 1) := by decide +kernel
theorem dX6_leaks_150 : decode cX6_leaks 150 = .ok (.if_icmp .ge 13, 3) := by decide +kernel
theorem dX6_leaks_153 : decode cX6_leaks 153 = .ok (.aload_n 0, 1) := by decide +kernel
theorem dX6_leaks_154 : decode cX6_leaks 154 = .ok (.getfield 41, 3) := by decide +kernel
theorem dX6_leaks_157 : decode cX6_leaks 157 = .ok (.iload 4, 2) := by decide +kernel
theorem dX6_leaks_159 : decode cX6_leaks 159 = .ok (.laload, 1) := by decide +kernel
theorem dX6_leaks_160 : decode cX6_leaks 160 = .ok (.goto 4, 3) := by decide +kernel
theorem dX6_leaks_163 : decode cX6_leaks 163 = .ok (.lconst 0, 1) := by decide +kernel
theorem dX6_leaks_164 : decode cX6_leaks 164 = .ok (.ladd, 1) := by decide +kernel
theorem dX6_leaks_165 : decode cX6_leaks 165 = .ok (.lstore_n 2, 1) := by decide +kernel
theorem dX6_leaks_166 : decode cX6_leaks 166 = .ok (.iinc 4 1, 3) := by decide +kernel
theorem dX6_leaks_169 : decode cX6_leaks 169 = .ok (.goto (-82), 3) := by decide +kernel
theorem dX6_leaks_172 : decode cX6_leaks 172 = .ok (.aload_n 0, 1) := by decide +kernel
theorem dX6_leaks_173 : decode cX6_leaks 173 = .ok (.lload_n 2, 1) := by decide +kernel
theorem dX6_leaks_174 : decode cX6_leaks 174 = .ok (.aload_n 0, 1) := by decide +kernel
theorem dX6_leaks_175 : decode cX6_leaks 175 = .ok (.getfield 220, 3) := by decide +kernel
theorem dX6_leaks_178 : decode cX6_leaks 178 = .ok (.invokevirtual 238, 3) := by decide +kernel
theorem dX6_leaks_181 : decode cX6_leaks 181 = .ok (.ireturn, 1) := by decide +kernel
set_option maxRecDepth 20000 in
theorem ggX6_hidden_X6_passes : GoodIn wsX6_hidden wsX6_passes := goodIn_r _ [7, 8, 1, 9, 10, 2, 11, 12, 13, 6, 14, 15, 16, 17, 18, 19, 20, 21, 22, 23, 24, 25, 26, 27, 28, 29, 30, 31, 32, 33, 34, 35, 36, 37, 38, 39, 40, 41, 42, 43, 44, 45, 46, 47, 48, 49, 50, 51, 52, 62, 63, 64, 65, 66, 67, 68, 69, 70, 71, 72, 73, 74, 75, 76, 77, 78, 79, 80, 81, 82, 83, 84, 85, 86, 87] (by decide +kernel) (by decide +kernel)
set_option maxRecDepth 20000 in
theorem gX6_hidden_X6_passes : GoodIn wsX6_hidden (wsV RX6 187 RX6 yX6_passes wsX6_passes) := goodIn_app (goodIn_of _ (by decide +kernel)) ggX6_hidden_X6_passes
set_option maxRecDepth 20000 in
theorem ggX6_hidden_X6_no : GoodIn wsX6_hidden wsX6_no := goodIn_r _ [56, 57, 58, 59, 6, 60, 61, 62, 63, 64, 65, 66, 67, 68, 69, 70, 71, 72, 73, 74, 75, 76, 77, 78, 79, 80, 81, 82, 83, 84, 85, 86, 87] (by decide +kernel) (by decide +kernel)
set_option maxRecDepth 20000 in
theorem gX6_hidden_X6_no : GoodIn wsX6_hidden (wsV RX6 164 RX6 yX6_no wsX6_no) := goodIn_app (goodIn_of _ (by decide +kernel)) ggX6_hidden_X6_no
theorem dX6_hidden_0 : decode cX6_hidden 0 = .ok (.aload_n 0, 1) := by decide +kernel
theorem dX6_hidden_1 : decode cX6_hidden 1 = .ok (.bipush 100, 2) := by decide +kernel
theorem dX6_hidden_3 : decode cX6_hidden 3 = .ok (.invokevirtual 187, 3) := by decide +kernel
theorem dX6_hidden_6 : decode cX6_hidden 6 = .ok (.ifCond .ne 8, 3) := by decide +kernel
theorem dX6_hidden_9 : decode cX6_hidden 9 = .ok (.aload_n 0, 1) := by decide +kernel
theorem dX6_hidden_10 : decode cX6_hidden 10 = .ok (.invokevirtual 164, 3) := by decide +kernel
theorem dX6_hidden_13 : decode cX6_hidden 13 = .ok (.ireturn, 1) := by decide +kernel
theorem dX6_hidden_14 : decode cX6_hidden 14 = .ok (.iconst 0, 1) := by decide +kernel
theorem dX6_hidden_15 : decode cX6_hidden 15 = .ok (.istore_n 1, 1) := by decide +kernel
theorem dX6_hidden_16 : decode cX6_hidden 16 = .ok (.iconst 0, 1) := by decide +kernel
theorem dX6_hidden_17 : decode cX6_hidden 17 = .ok (.istore_n 2, 1) := by decide +kernel
theorem dX6_hidden_18 : decode cX6_hidden 18 = .ok (.iload_n 2, 1) := by decide +kernel
theorem dX6_hidden_19 : decode cX6_hidden 19 = .ok (.bipush 7, 2) := by decide +kernel
theorem dX6_hidden_21 : decode cX6_hidden 21 = .ok (.if_icmp .ge 65, 3) := by decide +kernel
theorem dX6_hidden_24 : decode cX6_hidden 24 = .ok (.iconst 0, 1) := by decide +kernel
theorem dX6_hidden_25 : decode cX6_hidden 25 = .ok (.istore_n 3, 1) := by decide +kernel
theorem dX6_hidden_26 : decode cX6_hidden 26 = .ok (.iconst 0, 1) := by decide +kernel
theorem dX6_hidden_27 : decode cX6_hidden 27 = .ok (.istore 4, 2) := by decide +kernel
theorem dX6_hidden_29 : decode cX6_hidden 29 = .ok (.iload 4, 2) := by decide +kernel
theorem dX6_hidden_31 : decode cX6_hidden 31 = .ok (.iconst 4, 1) := by decide +kernel
theorem dX6_hidden_32 : decode cX6_hidden 32 = .ok (.aload_n 0, 1) := by decide +kernel
theorem dX6_hidden_33 : decode cX6_hidden 33 = .ok (.getfield 150, 3) := by decide +kernel
theorem dX6_hidden_36 : decode cX6_hidden 36 = .ok (.imul, 1) := by decide +kernel
theorem dX6_hidden_37 : decode cX6_hidden 37 = .ok (.if_icmp .ge 29, 3) := by decide +kernel
theorem dX6_hidden_40 : decode cX6_hidden 40 = .ok (.iload_n 3, 1) := by decide +kernel
theorem dX6_hidden_41 : decode cX6_hidden 41 = .ok (.aload_n 0, 1) := by decide +kernel
theorem dX6_hidden_42 : decode cX6_hidden 42 = .ok (.getfield 38, 3) := by decide +kernel
theorem dX6_hidden_45 : decode cX6_hidden 45 = .ok (.sipush 480, 3) := by decide +kernel
theorem dX6_hidden_48 : decode cX6_hidden 48 = .ok (.iconst 3, 1) := by decide +kernel
theorem dX6_hidden_49 : decode cX6_hidden 49 = .ok (.iload_n 2, 1) := by decide +kernel
theorem dX6_hidden_50 : decode cX6_hidden 50 = .ok (.imul, 1) := by decide +kernel
theorem dX6_hidden_51 : decode cX6_hidden 51 = .ok (.iconst 2, 1) := by decide +kernel
theorem dX6_hidden_52 : decode cX6_hidden 52 = .ok (.iadd, 1) := by decide +kernel
theorem dX6_hidden_53 : decode cX6_hidden 53 = .ok (.imul, 1) := by decide +kernel
theorem dX6_hidden_54 : decode cX6_hidden 54 = .ok (.iload 4, 2) := by decide +kernel
theorem dX6_hidden_56 : decode cX6_hidden 56 = .ok (.iadd, 1) := by decide +kernel
theorem dX6_hidden_57 : decode cX6_hidden 57 = .ok (.iaload, 1) := by decide +kernel
theorem dX6_hidden_58 : decode cX6_hidden 58 = .ok (.iadd, 1) := by decide +kernel
theorem dX6_hidden_59 : decode cX6_hidden 59 = .ok (.istore_n 3, 1) := by decide +kernel
theorem dX6_hidden_60 : decode cX6_hidden 60 = .ok (.iinc 4 1, 3) := by decide +kernel
theorem dX6_hidden_63 : decode cX6_hidden 63 = .ok (.goto (-34), 3) := by decide +kernel
theorem dX6_hidden_66 : decode cX6_hidden 66 = .ok (.iload_n 1, 1) := by decide +kernel
theorem dX6_hidden_67 : decode cX6_hidden 67 = .ok (.iload_n 3, 1) := by decide +kernel
theorem dX6_hidden_68 : decode cX6_hidden 68 = .ok (.ifCond .ne 9, 3) := by decide +kernel
theorem dX6_hidden_71 : decode cX6_hidden 71 = .ok (.iconst 1, 1) := by decide +kernel
theorem dX6_hidden_72 : decode cX6_hidden 72 = .ok (.iload_n 2, 1) := by decide +kernel
theorem dX6_hidden_73 : decode cX6_hidden 73 = .ok (.ishl, 1) := by decide +kernel
theorem dX6_hidden_74 : decode cX6_hidden 74 = .ok (.goto 4, 3) := by decide +kernel
theorem dX6_hidden_77 : decode cX6_hidden 77 = .ok (.iconst 0, 1) := by decide +kernel
theorem dX6_hidden_78 : decode cX6_hidden 78 = .ok (.ior, 1) := by decide +kernel
theorem dX6_hidden_79 : decode cX6_hidden 79 = .ok (.istore_n 1, 1) := by decide +kernel
theorem dX6_hidden_80 : decode cX6_hidden 80 = .ok (.iinc 2 1, 3) := by decide +kernel
theorem dX6_hidden_83 : decode cX6_hidden 83 = .ok (.goto (-65), 3) := by decide +kernel
theorem dX6_hidden_86 : decode cX6_hidden 86 = .ok (.iload_n 1, 1) := by decide +kernel
theorem dX6_hidden_87 : decode cX6_hidden 87 = .ok (.ireturn, 1) := by decide +kernel
set_option maxRecDepth 20000 in
theorem ggX6_isDeep_X6_in : GoodIn wsX6_isDeep wsX6_in := goodIn_r _ [5] (by decide +kernel) (by decide +kernel)
set_option maxRecDepth 20000 in
theorem gX6_isDeep_X6_in : GoodIn wsX6_isDeep (va_wsS RX6 100 yX6_in wsX6_in) := goodIn_app (goodIn_of _ (by decide +kernel)) ggX6_isDeep_X6_in
theorem dX6_isDeep_0 : decode cX6_isDeep 0 = .ok (.iload_n 0, 1) := by decide +kernel
theorem dX6_isDeep_1 : decode cX6_isDeep 1 = .ok (.i2l, 1) := by decide +kernel
theorem dX6_isDeep_2 : decode cX6_isDeep 2 = .ok (.lconst 1, 1) := by decide +kernel
theorem dX6_isDeep_3 : decode cX6_isDeep 3 = .ok (.ldc2_w 175, 3) := by decide +kernel
theorem dX6_isDeep_6 : decode cX6_isDeep 6 = .ok (.invokestatic 100, 3) := by decide +kernel
theorem dX6_isDeep_9 : decode cX6_isDeep 9 = .ok (.ireturn, 1) := by decide +kernel
set_option maxRecDepth 20000 in
theorem ggX6_gone_X6_isDeep : GoodIn wsX6_gone wsX6_isDeep := goodIn_r _ [7, 8, 9, 10, 6, 11] (by decide +kernel) (by decide +kernel)
set_option maxRecDepth 20000 in
theorem gX6_gone_X6_isDeep : GoodIn wsX6_gone (va_wsS RX6 246 yX6_isDeep wsX6_isDeep) := goodIn_app (goodIn_of _ (by decide +kernel)) ggX6_gone_X6_isDeep
set_option maxRecDepth 20000 in
theorem ggX6_gone_X6_in : GoodIn wsX6_gone wsX6_in := goodIn_r _ [11] (by decide +kernel) (by decide +kernel)
set_option maxRecDepth 20000 in
theorem gX6_gone_X6_in : GoodIn wsX6_gone (va_wsS RX6 100 yX6_in wsX6_in) := goodIn_app (goodIn_of _ (by decide +kernel)) ggX6_gone_X6_in
set_option maxRecDepth 20000 in
theorem ggX6_gone_X6_bad : GoodIn wsX6_gone wsX6_bad := goodIn_r _ [15, 16, 17, 18, 6, 19, 20, 69, 70, 71, 72, 73, 74, 75, 76, 77, 78, 79, 80, 81, 82, 83, 84, 85, 86, 87, 88, 89, 90, 91, 92, 93, 94] (by decide +kernel) (by decide +kernel)
set_option maxRecDepth 20000 in
theorem gX6_gone_X6_bad : GoodIn wsX6_gone (wsV RX6 97 RX6 yX6_bad wsX6_bad) := goodIn_app (goodIn_of _ (by decide +kernel)) ggX6_gone_X6_bad
set_option maxRecDepth 20000 in
theorem ggX6_gone_X6_sets : GoodIn wsX6_gone wsX6_sets := goodIn_r _ [24, 25, 26, 27, 28, 29, 30, 6, 31, 69, 70, 71, 72, 73, 74, 75, 76, 77, 78, 79, 80, 81, 82, 83, 84, 85, 86, 87, 88, 89, 90, 91, 92, 93, 94] (by decide +kernel) (by decide +kernel)
set_option maxRecDepth 20000 in
theorem gX6_gone_X6_sets : GoodIn wsX6_gone (wsV RX6 54 RX6 yX6_sets wsX6_sets) := goodIn_app (goodIn_of _ (by decide +kernel)) ggX6_gone_X6_sets
set_option maxRecDepth 20000 in
theorem ggX6_gone_X6_times : GoodIn wsX6_gone wsX6_times := goodIn_r _ [35, 27, 25, 26, 28, 29, 30, 6, 31, 69, 70, 71, 72, 73, 74, 75, 76, 77, 78, 79, 80, 81, 82, 83, 84, 85, 86, 87, 88, 89, 90, 91, 92, 93, 94] (by decide +kernel) (by decide +kernel)
set_option maxRecDepth 20000 in
theorem gX6_gone_X6_times : GoodIn wsX6_gone (wsV RX6 251 RX6 yX6_times wsX6_times) := goodIn_app (goodIn_of _ (by decide +kernel)) ggX6_gone_X6_times
set_option maxRecDepth 20000 in
theorem ggX6_gone_X6_adds : GoodIn wsX6_gone wsX6_adds := goodIn_r _ [39, 27, 25, 40, 28, 29, 30, 6, 31, 69, 70, 71, 72, 73, 74, 75, 76, 77, 78, 79, 80, 81, 82, 83, 84, 85, 86, 87, 88, 89, 90, 91, 92, 93, 94] (by decide +kernel) (by decide +kernel)
set_option maxRecDepth 20000 in
theorem gX6_gone_X6_adds : GoodIn wsX6_gone (wsV RX6 254 RX6 yX6_adds wsX6_adds) := goodIn_app (goodIn_of _ (by decide +kernel)) ggX6_gone_X6_adds
set_option maxRecDepth 20000 in
theorem ggX6_gone_X6_copies : GoodIn wsX6_gone wsX6_copies := goodIn_r _ [44, 25, 27, 69, 70, 71, 72, 73, 74, 75, 76, 77, 78, 79, 80, 81, 82, 83, 84, 85, 86, 87, 88, 89, 90, 91, 92, 93, 94] (by decide +kernel) (by decide +kernel)
set_option maxRecDepth 20000 in
theorem gX6_gone_X6_copies : GoodIn wsX6_gone (wsV RX6 68 RX6 yX6_copies wsX6_copies) := goodIn_app (goodIn_of _ (by decide +kernel)) ggX6_gone_X6_copies
set_option maxRecDepth 20000 in
theorem ggX6_gone_X6_lessens : GoodIn wsX6_gone wsX6_lessens := goodIn_r _ [48, 27, 25, 40, 28, 29, 30, 6, 31, 69, 70, 71, 72, 73, 74, 75, 76, 77, 78, 79, 80, 81, 82, 83, 84, 85, 86, 87, 88, 89, 90, 91, 92, 93, 94] (by decide +kernel) (by decide +kernel)
set_option maxRecDepth 20000 in
theorem gX6_gone_X6_lessens : GoodIn wsX6_gone (wsV RX6 83 RX6 yX6_lessens wsX6_lessens) := goodIn_app (goodIn_of _ (by decide +kernel)) ggX6_gone_X6_lessens
set_option maxRecDepth 20000 in
theorem ggX6_gone_X6_lowers : GoodIn wsX6_gone wsX6_lowers := goodIn_r _ [52, 27, 21, 22, 23, 6, 24, 25, 26, 28, 29, 30, 31, 53, 54, 55, 56, 57, 58, 59, 60, 41, 42, 43, 44, 61, 62, 63, 64, 45, 46, 47, 48, 40, 65, 66, 67, 68, 69, 70, 71, 72, 73, 74, 75, 76, 77, 78, 79, 80, 81, 82, 83, 84, 85, 86, 87, 88, 89, 90, 91, 92, 93, 94] (by decide +kernel) (by decide +kernel)
set_option maxRecDepth 20000 in
theorem gX6_gone_X6_lowers : GoodIn wsX6_gone (wsV RX6 104 RX6 yX6_lowers wsX6_lowers) := goodIn_app (goodIn_of _ (by decide +kernel)) ggX6_gone_X6_lowers
theorem dX6_gone_0 : decode cX6_gone 0 = .ok (.iload_n 1, 1) := by decide +kernel
theorem dX6_gone_1 : decode cX6_gone 1 = .ok (.invokestatic 246, 3) := by decide +kernel
theorem dX6_gone_4 : decode cX6_gone 4 = .ok (.ifCond .eq 27, 3) := by decide +kernel
theorem dX6_gone_7 : decode cX6_gone 7 = .ok (.iload_n 2, 1) := by decide +kernel
theorem dX6_gone_8 : decode cX6_gone 8 = .ok (.i2l, 1) := by decide +kernel
theorem dX6_gone_9 : decode cX6_gone 9 = .ok (.lconst 0, 1) := by decide +kernel
theorem dX6_gone_10 : decode cX6_gone 10 = .ok (.ldc2_w 156, 3) := by decide +kernel
theorem dX6_gone_13 : decode cX6_gone 13 = .ok (.invokestatic 100, 3) := by decide +kernel
theorem dX6_gone_16 : decode cX6_gone 16 = .ok (.ifCond .eq 15, 3) := by decide +kernel
theorem dX6_gone_19 : decode cX6_gone 19 = .ok (.iload_n 3, 1) := by decide +kernel
theorem dX6_gone_20 : decode cX6_gone 20 = .ok (.i2l, 1) := by decide +kernel
theorem dX6_gone_21 : decode cX6_gone 21 = .ok (.lconst 0, 1) := by decide +kernel
theorem dX6_gone_22 : decode cX6_gone 22 = .ok (.ldc2_w 249, 3) := by decide +kernel
theorem dX6_gone_25 : decode cX6_gone 25 = .ok (.invokestatic 100, 3) := by decide +kernel
theorem dX6_gone_28 : decode cX6_gone 28 = .ok (.ifCond .ne 8, 3) := by decide +kernel
theorem dX6_gone_31 : decode cX6_gone 31 = .ok (.aload_n 0, 1) := by decide +kernel
theorem dX6_gone_32 : decode cX6_gone 32 = .ok (.invokevirtual 97, 3) := by decide +kernel
theorem dX6_gone_35 : decode cX6_gone 35 = .ok (.ireturn, 1) := by decide +kernel
theorem dX6_gone_36 : decode cX6_gone 36 = .ok (.aload_n 0, 1) := by decide +kernel
theorem dX6_gone_37 : decode cX6_gone 37 = .ok (.iconst 5, 1) := by decide +kernel
theorem dX6_gone_38 : decode cX6_gone 38 = .ok (.lconst 0, 1) := by decide +kernel
theorem dX6_gone_39 : decode cX6_gone 39 = .ok (.invokevirtual 54, 3) := by decide +kernel
theorem dX6_gone_42 : decode cX6_gone 42 = .ok (.lconst 1, 1) := by decide +kernel
theorem dX6_gone_43 : decode cX6_gone 43 = .ok (.lstore 4, 2) := by decide +kernel
theorem dX6_gone_45 : decode cX6_gone 45 = .ok (.iconst 0, 1) := by decide +kernel
theorem dX6_gone_46 : decode cX6_gone 46 = .ok (.istore 6, 2) := by decide +kernel
theorem dX6_gone_48 : decode cX6_gone 48 = .ok (.iload 6, 2) := by decide +kernel
theorem dX6_gone_50 : decode cX6_gone 50 = .ok (.iconst 4, 1) := by decide +kernel
theorem dX6_gone_51 : decode cX6_gone 51 = .ok (.iload_n 1, 1) := by decide +kernel
theorem dX6_gone_52 : decode cX6_gone 52 = .ok (.isub, 1) := by decide +kernel
theorem dX6_gone_53 : decode cX6_gone 53 = .ok (.if_icmp .ge 82, 3) := by decide +kernel
theorem dX6_gone_56 : decode cX6_gone 56 = .ok (.iload 6, 2) := by decide +kernel
theorem dX6_gone_58 : decode cX6_gone 58 = .ok (.iload_n 3, 1) := by decide +kernel
theorem dX6_gone_59 : decode cX6_gone 59 = .ok (.if_icmp .gt 76, 3) := by decide +kernel
theorem dX6_gone_62 : decode cX6_gone 62 = .ok (.aload_n 0, 1) := by decide +kernel
theorem dX6_gone_63 : decode cX6_gone 63 = .ok (.bipush 6, 2) := by decide +kernel
theorem dX6_gone_65 : decode cX6_gone 65 = .ok (.lload 4, 2) := by decide +kernel
theorem dX6_gone_67 : decode cX6_gone 67 = .ok (.invokevirtual 54, 3) := by decide +kernel
theorem dX6_gone_70 : decode cX6_gone 70 = .ok (.iconst 0, 1) := by decide +kernel
theorem dX6_gone_71 : decode cX6_gone 71 = .ok (.istore 7, 2) := by decide +kernel
theorem dX6_gone_73 : decode cX6_gone 73 = .ok (.iload 7, 2) := by decide +kernel
theorem dX6_gone_75 : decode cX6_gone 75 = .ok (.iload_n 3, 1) := by decide +kernel
theorem dX6_gone_76 : decode cX6_gone 76 = .ok (.if_icmp .ge 30, 3) := by decide +kernel
theorem dX6_gone_79 : decode cX6_gone 79 = .ok (.aload_n 0, 1) := by decide +kernel
theorem dX6_gone_80 : decode cX6_gone 80 = .ok (.bipush 6, 2) := by decide +kernel
theorem dX6_gone_82 : decode cX6_gone 82 = .ok (.iload 7, 2) := by decide +kernel
theorem dX6_gone_84 : decode cX6_gone 84 = .ok (.iload 6, 2) := by decide +kernel
theorem dX6_gone_86 : decode cX6_gone 86 = .ok (.if_icmp .ge 7, 3) := by decide +kernel
theorem dX6_gone_89 : decode cX6_gone 89 = .ok (.iload_n 2, 1) := by decide +kernel
theorem dX6_gone_90 : decode cX6_gone 90 = .ok (.goto 7, 3) := by decide +kernel
theorem dX6_gone_93 : decode cX6_gone 93 = .ok (.bipush 20, 2) := by decide +kernel
theorem dX6_gone_95 : decode cX6_gone 95 = .ok (.iload_n 2, 1) := by decide +kernel
theorem dX6_gone_96 : decode cX6_gone 96 = .ok (.isub, 1) := by decide +kernel
theorem dX6_gone_97 : decode cX6_gone 97 = .ok (.invokevirtual 251, 3) := by decide +kernel
theorem dX6_gone_100 : decode cX6_gone 100 = .ok (.iinc 7 1, 3) := by decide +kernel
theorem dX6_gone_103 : decode cX6_gone 103 = .ok (.goto (-30), 3) := by decide +kernel
theorem dX6_gone_106 : decode cX6_gone 106 = .ok (.aload_n 0, 1) := by decide +kernel
theorem dX6_gone_107 : decode cX6_gone 107 = .ok (.iconst 5, 1) := by decide +kernel
theorem dX6_gone_108 : decode cX6_gone 108 = .ok (.bipush 6, 2) := by decide +kernel
theorem dX6_gone_110 : decode cX6_gone 110 = .ok (.invokevirtual 254, 3) := by decide +kernel
theorem dX6_gone_113 : decode cX6_gone 113 = .ok (.lload 4, 2) := by decide +kernel
theorem dX6_gone_115 : decode cX6_gone 115 = .ok (.iload_n 3, 1) := by decide +kernel
theorem dX6_gone_116 : decode cX6_gone 116 = .ok (.iload 6, 2) := by decide +kernel
theorem dX6_gone_118 : decode cX6_gone 118 = .ok (.isub, 1) := by decide +kernel
theorem dX6_gone_119 : decode cX6_gone 119 = .ok (.i2l, 1) := by decide +kernel
theorem dX6_gone_120 : decode cX6_gone 120 = .ok (.lmul, 1) := by decide +kernel
theorem dX6_gone_121 : decode cX6_gone 121 = .ok (.iload 6, 2) := by decide +kernel
theorem dX6_gone_123 : decode cX6_gone 123 = .ok (.iconst 1, 1) := by decide +kernel
theorem dX6_gone_124 : decode cX6_gone 124 = .ok (.iadd, 1) := by decide +kernel
theorem dX6_gone_125 : decode cX6_gone 125 = .ok (.i2l, 1) := by decide +kernel
theorem dX6_gone_126 : decode cX6_gone 126 = .ok (.ldiv, 1) := by decide +kernel
theorem dX6_gone_127 : decode cX6_gone 127 = .ok (.lstore 4, 2) := by decide +kernel
theorem dX6_gone_129 : decode cX6_gone 129 = .ok (.iinc 6 1, 3) := by decide +kernel
theorem dX6_gone_132 : decode cX6_gone 132 = .ok (.goto (-84), 3) := by decide +kernel
theorem dX6_gone_135 : decode cX6_gone 135 = .ok (.aload_n 0, 1) := by decide +kernel
theorem dX6_gone_136 : decode cX6_gone 136 = .ok (.iconst 1, 1) := by decide +kernel
theorem dX6_gone_137 : decode cX6_gone 137 = .ok (.lconst 1, 1) := by decide +kernel
theorem dX6_gone_138 : decode cX6_gone 138 = .ok (.invokevirtual 54, 3) := by decide +kernel
theorem dX6_gone_141 : decode cX6_gone 141 = .ok (.iconst 0, 1) := by decide +kernel
theorem dX6_gone_142 : decode cX6_gone 142 = .ok (.istore 6, 2) := by decide +kernel
theorem dX6_gone_144 : decode cX6_gone 144 = .ok (.iload 6, 2) := by decide +kernel
theorem dX6_gone_146 : decode cX6_gone 146 = .ok (.iload_n 3, 1) := by decide +kernel
theorem dX6_gone_147 : decode cX6_gone 147 = .ok (.if_icmp .ge 16, 3) := by decide +kernel
theorem dX6_gone_150 : decode cX6_gone 150 = .ok (.aload_n 0, 1) := by decide +kernel
theorem dX6_gone_151 : decode cX6_gone 151 = .ok (.iconst 1, 1) := by decide +kernel
theorem dX6_gone_152 : decode cX6_gone 152 = .ok (.bipush 20, 2) := by decide +kernel
theorem dX6_gone_154 : decode cX6_gone 154 = .ok (.invokevirtual 251, 3) := by decide +kernel
theorem dX6_gone_157 : decode cX6_gone 157 = .ok (.iinc 6 1, 3) := by decide +kernel
theorem dX6_gone_160 : decode cX6_gone 160 = .ok (.goto (-16), 3) := by decide +kernel
theorem dX6_gone_163 : decode cX6_gone 163 = .ok (.aload_n 0, 1) := by decide +kernel
theorem dX6_gone_164 : decode cX6_gone 164 = .ok (.iconst 0, 1) := by decide +kernel
theorem dX6_gone_165 : decode cX6_gone 165 = .ok (.iconst 1, 1) := by decide +kernel
theorem dX6_gone_166 : decode cX6_gone 166 = .ok (.invokevirtual 68, 3) := by decide +kernel
theorem dX6_gone_169 : decode cX6_gone 169 = .ok (.aload_n 0, 1) := by decide +kernel
theorem dX6_gone_170 : decode cX6_gone 170 = .ok (.iconst 0, 1) := by decide +kernel
theorem dX6_gone_171 : decode cX6_gone 171 = .ok (.iconst 5, 1) := by decide +kernel
theorem dX6_gone_172 : decode cX6_gone 172 = .ok (.invokevirtual 83, 3) := by decide +kernel
theorem dX6_gone_175 : decode cX6_gone 175 = .ok (.aload_n 0, 1) := by decide +kernel
theorem dX6_gone_176 : decode cX6_gone 176 = .ok (.invokevirtual 104, 3) := by decide +kernel
theorem dX6_gone_179 : decode cX6_gone 179 = .ok (.aload_n 0, 1) := by decide +kernel
theorem dX6_gone_180 : decode cX6_gone 180 = .ok (.iconst 0, 1) := by decide +kernel
theorem dX6_gone_181 : decode cX6_gone 181 = .ok (.putfield 89, 3) := by decide +kernel
theorem dX6_gone_184 : decode cX6_gone 184 = .ok (.iconst 1, 1) := by decide +kernel
theorem dX6_gone_185 : decode cX6_gone 185 = .ok (.ireturn, 1) := by decide +kernel
theorem dX6_goesOn_0 : decode cX6_goesOn 0 = .ok (.lconst 1, 1) := by decide +kernel
theorem dX6_goesOn_1 : decode cX6_goesOn 1 = .ok (.lstore 5, 2) := by decide +kernel
theorem dX6_goesOn_3 : decode cX6_goesOn 3 = .ok (.iconst 0, 1) := by decide +kernel
theorem dX6_goesOn_4 : decode cX6_goesOn 4 = .ok (.istore 7, 2) := by decide +kernel
theorem dX6_goesOn_6 : decode cX6_goesOn 6 = .ok (.iload 7, 2) := by decide +kernel
theorem dX6_goesOn_8 : decode cX6_goesOn 8 = .ok (.iconst 5, 1) := by decide +kernel
theorem dX6_goesOn_9 : decode cX6_goesOn 9 = .ok (.if_icmp .ge 17, 3) := by decide +kernel
theorem dX6_goesOn_12 : decode cX6_goesOn 12 = .ok (.aload_n 0, 1) := by decide +kernel
theorem dX6_goesOn_13 : decode cX6_goesOn 13 = .ok (.getfield 51, 3) := by decide +kernel
theorem dX6_goesOn_16 : decode cX6_goesOn 16 = .ok (.iload 7, 2) := by decide +kernel
theorem dX6_goesOn_18 : decode cX6_goesOn 18 = .ok (.lconst 0, 1) := by decide +kernel
theorem dX6_goesOn_19 : decode cX6_goesOn 19 = .ok (.lastore, 1) := by decide +kernel
theorem dX6_goesOn_20 : decode cX6_goesOn 20 = .ok (.iinc 7 1, 3) := by decide +kernel
theorem dX6_goesOn_23 : decode cX6_goesOn 23 = .ok (.goto (-17), 3) := by decide +kernel
theorem dX6_goesOn_26 : decode cX6_goesOn 26 = .ok (.aload_n 0, 1) := by decide +kernel
theorem dX6_goesOn_27 : decode cX6_goesOn 27 = .ok (.iconst 0, 1) := by decide +kernel
theorem dX6_goesOn_28 : decode cX6_goesOn 28 = .ok (.putfield 257, 3) := by decide +kernel
theorem dX6_goesOn_31 : decode cX6_goesOn 31 = .ok (.iconst 1, 1) := by decide +kernel
theorem dX6_goesOn_32 : decode cX6_goesOn 32 = .ok (.istore 7, 2) := by decide +kernel
theorem dX6_goesOn_34 : decode cX6_goesOn 34 = .ok (.iload 7, 2) := by decide +kernel
theorem dX6_goesOn_36 : decode cX6_goesOn 36 = .ok (.iload_n 2, 1) := by decide +kernel
theorem dX6_goesOn_37 : decode cX6_goesOn 37 = .ok (.if_icmp .gt 180, 3) := by decide +kernel
theorem dX6_goesOn_40 : decode cX6_goesOn 40 = .ok (.lload 5, 2) := by decide +kernel
theorem dX6_goesOn_42 : decode cX6_goesOn 42 = .ok (.lstore 8, 2) := by decide +kernel
theorem dX6_goesOn_44 : decode cX6_goesOn 44 = .ok (.lload 5, 2) := by decide +kernel
theorem dX6_goesOn_46 : decode cX6_goesOn 46 = .ok (.ldc2_w 249, 3) := by decide +kernel
theorem dX6_goesOn_49 : decode cX6_goesOn 49 = .ok (.lmul, 1) := by decide +kernel
theorem dX6_goesOn_50 : decode cX6_goesOn 50 = .ok (.lstore 5, 2) := by decide +kernel
theorem dX6_goesOn_52 : decode cX6_goesOn 52 = .ok (.iconst 1, 1) := by decide +kernel
theorem dX6_goesOn_53 : decode cX6_goesOn 53 = .ok (.istore 10, 2) := by decide +kernel
theorem dX6_goesOn_55 : decode cX6_goesOn 55 = .ok (.iload 10, 2) := by decide +kernel
theorem dX6_goesOn_57 : decode cX6_goesOn 57 = .ok (.iconst 4, 1) := by decide +kernel
theorem dX6_goesOn_58 : decode cX6_goesOn 58 = .ok (.if_icmp .ge 153, 3) := by decide +kernel
theorem dX6_goesOn_61 : decode cX6_goesOn 61 = .ok (.ldc2_w 197, 3) := by decide +kernel
theorem dX6_goesOn_64 : decode cX6_goesOn 64 = .ok (.lstore 11, 2) := by decide +kernel
theorem dX6_goesOn_66 : decode cX6_goesOn 66 = .ok (.iconst 0, 1) := by decide +kernel
theorem dX6_goesOn_67 : decode cX6_goesOn 67 = .ok (.istore 13, 2) := by decide +kernel
theorem dX6_goesOn_69 : decode cX6_goesOn 69 = .ok (.iload 13, 2) := by decide +kernel
theorem dX6_goesOn_71 : decode cX6_goesOn 71 = .ok (.bipush 10, 2) := by decide +kernel
theorem dX6_goesOn_73 : decode cX6_goesOn 73 = .ok (.if_icmp .ge 118, 3) := by decide +kernel
theorem dX6_goesOn_76 : decode cX6_goesOn 76 = .ok (.iload 10, 2) := by decide +kernel
theorem dX6_goesOn_78 : decode cX6_goesOn 78 = .ok (.iconst 3, 1) := by decide +kernel
theorem dX6_goesOn_79 : decode cX6_goesOn 79 = .ok (.if_icmp .ne 13, 3) := by decide +kernel
theorem dX6_goesOn_82 : decode cX6_goesOn 82 = .ok (.iload 4, 2) := by decide +kernel
theorem dX6_goesOn_84 : decode cX6_goesOn 84 = .ok (.ineg, 1) := by decide +kernel
theorem dX6_goesOn_85 : decode cX6_goesOn 85 = .ok (.i2l, 1) := by decide +kernel
theorem dX6_goesOn_86 : decode cX6_goesOn 86 = .ok (.lload 8, 2) := by decide +kernel
theorem dX6_goesOn_88 : decode cX6_goesOn 88 = .ok (.lmul, 1) := by decide +kernel
theorem dX6_goesOn_89 : decode cX6_goesOn 89 = .ok (.goto 19, 3) := by decide +kernel
theorem dX6_goesOn_92 : decode cX6_goesOn 92 = .ok (.aload_n 0, 1) := by decide +kernel
theorem dX6_goesOn_93 : decode cX6_goesOn 93 = .ok (.getfield 51, 3) := by decide +kernel
theorem dX6_goesOn_96 : decode cX6_goesOn 96 = .ok (.iconst 4, 1) := by decide +kernel
theorem dX6_goesOn_97 : decode cX6_goesOn 97 = .ok (.iload 7, 2) := by decide +kernel
theorem dX6_goesOn_99 : decode cX6_goesOn 99 = .ok (.iconst 1, 1) := by decide +kernel
theorem dX6_goesOn_100 : decode cX6_goesOn 100 = .ok (.isub, 1) := by decide +kernel
theorem dX6_goesOn_101 : decode cX6_goesOn 101 = .ok (.imul, 1) := by decide +kernel
theorem dX6_goesOn_102 : decode cX6_goesOn 102 = .ok (.iload 10, 2) := by decide +kernel
theorem dX6_goesOn_104 : decode cX6_goesOn 104 = .ok (.iadd, 1) := by decide +kernel
theorem dX6_goesOn_105 : decode cX6_goesOn 105 = .ok (.iconst 1, 1) := by decide +kernel
theorem dX6_goesOn_106 : decode cX6_goesOn 106 = .ok (.iadd, 1) := by decide +kernel
theorem dX6_goesOn_107 : decode cX6_goesOn 107 = .ok (.laload, 1) := by decide +kernel
theorem dX6_goesOn_108 : decode cX6_goesOn 108 = .ok (.lstore 14, 2) := by decide +kernel
theorem dX6_goesOn_110 : decode cX6_goesOn 110 = .ok (.iload 13, 2) := by decide +kernel
theorem dX6_goesOn_112 : decode cX6_goesOn 112 = .ok (.iload_n 3, 1) := by decide +kernel
theorem dX6_goesOn_113 : decode cX6_goesOn 113 = .ok (.imul, 1) := by decide +kernel
theorem dX6_goesOn_114 : decode cX6_goesOn 114 = .ok (.i2l, 1) := by decide +kernel
theorem dX6_goesOn_115 : decode cX6_goesOn 115 = .ok (.lload 5, 2) := by decide +kernel
theorem dX6_goesOn_117 : decode cX6_goesOn 117 = .ok (.lmul, 1) := by decide +kernel
theorem dX6_goesOn_118 : decode cX6_goesOn 118 = .ok (.iload 13, 2) := by decide +kernel
theorem dX6_goesOn_120 : decode cX6_goesOn 120 = .ok (.i2l, 1) := by decide +kernel
theorem dX6_goesOn_121 : decode cX6_goesOn 121 = .ok (.lload 14, 2) := by decide +kernel
theorem dX6_goesOn_123 : decode cX6_goesOn 123 = .ok (.lmul, 1) := by decide +kernel
theorem dX6_goesOn_124 : decode cX6_goesOn 124 = .ok (.ladd, 1) := by decide +kernel
theorem dX6_goesOn_125 : decode cX6_goesOn 125 = .ok (.bipush 20, 2) := by decide +kernel
theorem dX6_goesOn_127 : decode cX6_goesOn 127 = .ok (.iload 13, 2) := by decide +kernel
theorem dX6_goesOn_129 : decode cX6_goesOn 129 = .ok (.isub, 1) := by decide +kernel
theorem dX6_goesOn_130 : decode cX6_goesOn 130 = .ok (.i2l, 1) := by decide +kernel
theorem dX6_goesOn_131 : decode cX6_goesOn 131 = .ok (.aload_n 0, 1) := by decide +kernel
theorem dX6_goesOn_132 : decode cX6_goesOn 132 = .ok (.getfield 51, 3) := by decide +kernel
theorem dX6_goesOn_135 : decode cX6_goesOn 135 = .ok (.iconst 4, 1) := by decide +kernel
theorem dX6_goesOn_136 : decode cX6_goesOn 136 = .ok (.iload 7, 2) := by decide +kernel
theorem dX6_goesOn_138 : decode cX6_goesOn 138 = .ok (.iconst 1, 1) := by decide +kernel
theorem dX6_goesOn_139 : decode cX6_goesOn 139 = .ok (.isub, 1) := by decide +kernel
theorem dX6_goesOn_140 : decode cX6_goesOn 140 = .ok (.imul, 1) := by decide +kernel
theorem dX6_goesOn_141 : decode cX6_goesOn 141 = .ok (.iload 10, 2) := by decide +kernel
theorem dX6_goesOn_143 : decode cX6_goesOn 143 = .ok (.iadd, 1) := by decide +kernel
theorem dX6_goesOn_144 : decode cX6_goesOn 144 = .ok (.laload, 1) := by decide +kernel
theorem dX6_goesOn_145 : decode cX6_goesOn 145 = .ok (.lmul, 1) := by decide +kernel
theorem dX6_goesOn_146 : decode cX6_goesOn 146 = .ok (.ladd, 1) := by decide +kernel
theorem dX6_goesOn_147 : decode cX6_goesOn 147 = .ok (.lstore 16, 2) := by decide +kernel
theorem dX6_goesOn_149 : decode cX6_goesOn 149 = .ok (.iload 13, 2) := by decide +kernel
theorem dX6_goesOn_151 : decode cX6_goesOn 151 = .ok (.ifCond .eq 11, 3) := by decide +kernel
theorem dX6_goesOn_154 : decode cX6_goesOn 154 = .ok (.lload 16, 2) := by decide +kernel
theorem dX6_goesOn_156 : decode cX6_goesOn 156 = .ok (.lload 11, 2) := by decide +kernel
theorem dX6_goesOn_158 : decode cX6_goesOn 158 = .ok (.lcmp, 1) := by decide +kernel
theorem dX6_goesOn_159 : decode cX6_goesOn 159 = .ok (.ifCond .le 26, 3) := by decide +kernel
theorem dX6_goesOn_162 : decode cX6_goesOn 162 = .ok (.lload 16, 2) := by decide +kernel
theorem dX6_goesOn_164 : decode cX6_goesOn 164 = .ok (.lstore 11, 2) := by decide +kernel
theorem dX6_goesOn_166 : decode cX6_goesOn 166 = .ok (.aload_n 0, 1) := by decide +kernel
theorem dX6_goesOn_167 : decode cX6_goesOn 167 = .ok (.iload 10, 2) := by decide +kernel
theorem dX6_goesOn_169 : decode cX6_goesOn 169 = .ok (.iload_n 1, 1) := by decide +kernel
theorem dX6_goesOn_170 : decode cX6_goesOn 170 = .ok (.if_icmp .ne 8, 3) := by decide +kernel
theorem dX6_goesOn_173 : decode cX6_goesOn 173 = .ok (.iload 13, 2) := by decide +kernel
theorem dX6_goesOn_175 : decode cX6_goesOn 175 = .ok (.goto 7, 3) := by decide +kernel
theorem dX6_goesOn_178 : decode cX6_goesOn 178 = .ok (.aload_n 0, 1) := by decide +kernel
theorem dX6_goesOn_179 : decode cX6_goesOn 179 = .ok (.getfield 257, 3) := by decide +kernel
theorem dX6_goesOn_182 : decode cX6_goesOn 182 = .ok (.putfield 257, 3) := by decide +kernel
theorem dX6_goesOn_185 : decode cX6_goesOn 185 = .ok (.iinc 13 1, 3) := by decide +kernel
theorem dX6_goesOn_188 : decode cX6_goesOn 188 = .ok (.goto (-119), 3) := by decide +kernel
theorem dX6_goesOn_191 : decode cX6_goesOn 191 = .ok (.aload_n 0, 1) := by decide +kernel
theorem dX6_goesOn_192 : decode cX6_goesOn 192 = .ok (.getfield 51, 3) := by decide +kernel
theorem dX6_goesOn_195 : decode cX6_goesOn 195 = .ok (.iconst 4, 1) := by decide +kernel
theorem dX6_goesOn_196 : decode cX6_goesOn 196 = .ok (.iload 7, 2) := by decide +kernel
theorem dX6_goesOn_198 : decode cX6_goesOn 198 = .ok (.imul, 1) := by decide +kernel
theorem dX6_goesOn_199 : decode cX6_goesOn 199 = .ok (.iload 10, 2) := by decide +kernel
theorem dX6_goesOn_201 : decode cX6_goesOn 201 = .ok (.iadd, 1) := by decide +kernel
theorem dX6_goesOn_202 : decode cX6_goesOn 202 = .ok (.lload 11, 2) := by decide +kernel
theorem dX6_goesOn_204 : decode cX6_goesOn 204 = .ok (.lastore, 1) := by decide +kernel
theorem dX6_goesOn_205 : decode cX6_goesOn 205 = .ok (.iinc 10 1, 3) := by decide +kernel
theorem dX6_goesOn_208 : decode cX6_goesOn 208 = .ok (.goto (-153), 3) := by decide +kernel
theorem dX6_goesOn_211 : decode cX6_goesOn 211 = .ok (.iinc 7 1, 3) := by decide +kernel
theorem dX6_goesOn_214 : decode cX6_goesOn 214 = .ok (.goto (-180), 3) := by decide +kernel
theorem dX6_goesOn_217 : decode cX6_goesOn 217 = .ok (.lload 5, 2) := by decide +kernel
theorem dX6_goesOn_219 : decode cX6_goesOn 219 = .ok (.lreturn, 1) := by decide +kernel
set_option maxRecDepth 20000 in
theorem ggX6_isDrive_X6_isDeep : GoodIn wsX6_isDrive wsX6_isDeep := goodIn_r _ [6, 7, 8, 9, 5, 10] (by decide +kernel) (by decide +kernel)
set_option maxRecDepth 20000 in
theorem gX6_isDrive_X6_isDeep : GoodIn wsX6_isDrive (va_wsS RX6 246 yX6_isDeep wsX6_isDeep) := goodIn_app (goodIn_of _ (by decide +kernel)) ggX6_isDrive_X6_isDeep
set_option maxRecDepth 20000 in
theorem ggX6_isDrive_X6_in : GoodIn wsX6_isDrive wsX6_in := goodIn_r _ [10] (by decide +kernel) (by decide +kernel)
set_option maxRecDepth 20000 in
theorem gX6_isDrive_X6_in : GoodIn wsX6_isDrive (va_wsS RX6 100 yX6_in wsX6_in) := goodIn_app (goodIn_of _ (by decide +kernel)) ggX6_isDrive_X6_in
theorem dX6_isDrive_0 : decode cX6_isDrive 0 = .ok (.iload_n 0, 1) := by decide +kernel
theorem dX6_isDrive_1 : decode cX6_isDrive 1 = .ok (.invokestatic 246, 3) := by decide +kernel
theorem dX6_isDrive_4 : decode cX6_isDrive 4 = .ok (.ifCond .eq 31, 3) := by decide +kernel
theorem dX6_isDrive_7 : decode cX6_isDrive 7 = .ok (.iload_n 1, 1) := by decide +kernel
theorem dX6_isDrive_8 : decode cX6_isDrive 8 = .ok (.i2l, 1) := by decide +kernel
theorem dX6_isDrive_9 : decode cX6_isDrive 9 = .ok (.lconst 0, 1) := by decide +kernel
theorem dX6_isDrive_10 : decode cX6_isDrive 10 = .ok (.ldc2_w 260, 3) := by decide +kernel
theorem dX6_isDrive_13 : decode cX6_isDrive 13 = .ok (.invokestatic 100, 3) := by decide +kernel
theorem dX6_isDrive_16 : decode cX6_isDrive 16 = .ok (.ifCond .eq 19, 3) := by decide +kernel
theorem dX6_isDrive_19 : decode cX6_isDrive 19 = .ok (.iload_n 2, 1) := by decide +kernel
theorem dX6_isDrive_20 : decode cX6_isDrive 20 = .ok (.i2l, 1) := by decide +kernel
theorem dX6_isDrive_21 : decode cX6_isDrive 21 = .ok (.lconst 0, 1) := by decide +kernel
theorem dX6_isDrive_22 : decode cX6_isDrive 22 = .ok (.ldc2_w 244, 3) := by decide +kernel
theorem dX6_isDrive_25 : decode cX6_isDrive 25 = .ok (.invokestatic 100, 3) := by decide +kernel
theorem dX6_isDrive_28 : decode cX6_isDrive 28 = .ok (.ifCond .eq 7, 3) := by decide +kernel
theorem dX6_isDrive_31 : decode cX6_isDrive 31 = .ok (.iconst 1, 1) := by decide +kernel
theorem dX6_isDrive_32 : decode cX6_isDrive 32 = .ok (.goto 4, 3) := by decide +kernel
theorem dX6_isDrive_35 : decode cX6_isDrive 35 = .ok (.iconst 0, 1) := by decide +kernel
theorem dX6_isDrive_36 : decode cX6_isDrive 36 = .ok (.ireturn, 1) := by decide +kernel
set_option maxRecDepth 20000 in
theorem ggX6_harvest_X6_isDrive : GoodIn wsX6_harvest wsX6_isDrive := goodIn_r _ [6, 7, 8, 9, 10, 5, 11, 12, 13, 14, 15] (by decide +kernel) (by decide +kernel)
set_option maxRecDepth 20000 in
theorem gX6_harvest_X6_isDrive : GoodIn wsX6_harvest (va_wsS RX6 262 yX6_isDrive wsX6_isDrive) := goodIn_app (goodIn_of _ (by decide +kernel)) ggX6_harvest_X6_isDrive
set_option maxRecDepth 20000 in
theorem ggX6_harvest_X6_in : GoodIn wsX6_harvest wsX6_in := goodIn_r _ [15] (by decide +kernel) (by decide +kernel)
set_option maxRecDepth 20000 in
theorem gX6_harvest_X6_in : GoodIn wsX6_harvest (va_wsS RX6 100 yX6_in wsX6_in) := goodIn_app (goodIn_of _ (by decide +kernel)) ggX6_harvest_X6_in
set_option maxRecDepth 20000 in
theorem ggX6_harvest_X6_bad : GoodIn wsX6_harvest wsX6_bad := goodIn_r _ [19, 20, 21, 22, 5, 23, 24, 77, 78, 79, 80, 81, 82, 83, 84, 85, 86, 87, 88, 89, 90, 91, 92, 93, 94, 95, 96, 97, 98, 99, 100, 101, 102] (by decide +kernel) (by decide +kernel)
set_option maxRecDepth 20000 in
theorem gX6_harvest_X6_bad : GoodIn wsX6_harvest (wsV RX6 97 RX6 yX6_bad wsX6_bad) := goodIn_app (goodIn_of _ (by decide +kernel)) ggX6_harvest_X6_bad
set_option maxRecDepth 20000 in
theorem ggX6_harvest_X6_goesOn : GoodIn wsX6_harvest wsX6_goesOn := goodIn_r _ [28, 2, 29, 30, 31, 77, 78, 79, 80, 81, 82, 83, 84, 85, 86, 87, 88, 89, 90, 91, 92, 93, 94, 95, 96, 97, 98, 99, 100, 101, 102] (by decide +kernel) (by decide +kernel)
set_option maxRecDepth 20000 in
theorem gX6_harvest_X6_goesOn : GoodIn wsX6_harvest (wsV RX6 268 RX6 yX6_goesOn wsX6_goesOn) := goodIn_app (goodIn_of _ (by decide +kernel)) ggX6_harvest_X6_goesOn
set_option maxRecDepth 20000 in
theorem ggX6_harvest_X6_tells : GoodIn wsX6_harvest wsX6_tells := goodIn_r _ [35, 36, 37, 38, 39, 5, 40, 41, 42, 43, 44, 45, 46, 47, 48, 49, 50, 51, 52, 53, 54, 55, 56, 57, 58, 59, 60, 61, 62, 63, 64, 65, 66, 67, 68, 69, 70, 71, 72, 73, 74, 75, 76, 77, 78, 79, 80, 81, 82, 83, 84, 85, 86, 87, 88, 89, 90, 91, 92, 93, 94, 95, 96, 97, 98, 99, 100, 101, 102] (by decide +kernel) (by decide +kernel)
set_option maxRecDepth 20000 in
theorem gX6_harvest_X6_tells : GoodIn wsX6_harvest (wsV RX6 238 RX6 yX6_tells wsX6_tells) := goodIn_app (goodIn_of _ (by decide +kernel)) ggX6_harvest_X6_tells
theorem dX6_harvest_0 : decode cX6_harvest 0 = .ok (.iload_n 1, 1) := by decide +kernel
theorem dX6_harvest_1 : decode cX6_harvest 1 = .ok (.iload_n 3, 1) := by decide +kernel
theorem dX6_harvest_2 : decode cX6_harvest 2 = .ok (.iload 4, 2) := by decide +kernel
theorem dX6_harvest_4 : decode cX6_harvest 4 = .ok (.invokestatic 262, 3) := by decide +kernel
theorem dX6_harvest_7 : decode cX6_harvest 7 = .ok (.ifCond .eq 15, 3) := by decide +kernel
theorem dX6_harvest_10 : decode cX6_harvest 10 = .ok (.iload_n 2, 1) := by decide +kernel
theorem dX6_harvest_11 : decode cX6_harvest 11 = .ok (.i2l, 1) := by decide +kernel
theorem dX6_harvest_12 : decode cX6_harvest 12 = .ok (.lconst 0, 1) := by decide +kernel
theorem dX6_harvest_13 : decode cX6_harvest 13 = .ok (.ldc2_w 266, 3) := by decide +kernel
theorem dX6_harvest_16 : decode cX6_harvest 16 = .ok (.invokestatic 100, 3) := by decide +kernel
theorem dX6_harvest_19 : decode cX6_harvest 19 = .ok (.ifCond .ne 8, 3) := by decide +kernel
theorem dX6_harvest_22 : decode cX6_harvest 22 = .ok (.aload_n 0, 1) := by decide +kernel
theorem dX6_harvest_23 : decode cX6_harvest 23 = .ok (.invokevirtual 97, 3) := by decide +kernel
theorem dX6_harvest_26 : decode cX6_harvest 26 = .ok (.ireturn, 1) := by decide +kernel
theorem dX6_harvest_27 : decode cX6_harvest 27 = .ok (.aload_n 0, 1) := by decide +kernel
theorem dX6_harvest_28 : decode cX6_harvest 28 = .ok (.iload_n 1, 1) := by decide +kernel
theorem dX6_harvest_29 : decode cX6_harvest 29 = .ok (.iload_n 2, 1) := by decide +kernel
theorem dX6_harvest_30 : decode cX6_harvest 30 = .ok (.iload_n 3, 1) := by decide +kernel
theorem dX6_harvest_31 : decode cX6_harvest 31 = .ok (.iload 4, 2) := by decide +kernel
theorem dX6_harvest_33 : decode cX6_harvest 33 = .ok (.invokevirtual 268, 3) := by decide +kernel
theorem dX6_harvest_36 : decode cX6_harvest 36 = .ok (.lstore 5, 2) := by decide +kernel
theorem dX6_harvest_38 : decode cX6_harvest 38 = .ok (.aload_n 0, 1) := by decide +kernel
theorem dX6_harvest_39 : decode cX6_harvest 39 = .ok (.aload_n 0, 1) := by decide +kernel
theorem dX6_harvest_40 : decode cX6_harvest 40 = .ok (.getfield 51, 3) := by decide +kernel
theorem dX6_harvest_43 : decode cX6_harvest 43 = .ok (.iconst 4, 1) := by decide +kernel
theorem dX6_harvest_44 : decode cX6_harvest 44 = .ok (.iload_n 2, 1) := by decide +kernel
theorem dX6_harvest_45 : decode cX6_harvest 45 = .ok (.imul, 1) := by decide +kernel
theorem dX6_harvest_46 : decode cX6_harvest 46 = .ok (.iload_n 1, 1) := by decide +kernel
theorem dX6_harvest_47 : decode cX6_harvest 47 = .ok (.iadd, 1) := by decide +kernel
theorem dX6_harvest_48 : decode cX6_harvest 48 = .ok (.laload, 1) := by decide +kernel
theorem dX6_harvest_49 : decode cX6_harvest 49 = .ok (.lload 5, 2) := by decide +kernel
theorem dX6_harvest_51 : decode cX6_harvest 51 = .ok (.invokevirtual 238, 3) := by decide +kernel
theorem dX6_harvest_54 : decode cX6_harvest 54 = .ok (.ireturn, 1) := by decide +kernel
set_option maxRecDepth 20000 in
theorem ggX6_drive_X6_isDrive : GoodIn wsX6_drive wsX6_isDrive := goodIn_r _ [6, 7, 8, 9, 10, 5, 11, 12, 13, 14, 15] (by decide +kernel) (by decide +kernel)
set_option maxRecDepth 20000 in
theorem gX6_drive_X6_isDrive : GoodIn wsX6_drive (va_wsS RX6 262 yX6_isDrive wsX6_isDrive) := goodIn_app (goodIn_of _ (by decide +kernel)) ggX6_drive_X6_isDrive
set_option maxRecDepth 20000 in
theorem ggX6_drive_X6_in : GoodIn wsX6_drive wsX6_in := goodIn_r _ [15] (by decide +kernel) (by decide +kernel)
set_option maxRecDepth 20000 in
theorem gX6_drive_X6_in : GoodIn wsX6_drive (va_wsS RX6 100 yX6_in wsX6_in) := goodIn_app (goodIn_of _ (by decide +kernel)) ggX6_drive_X6_in
set_option maxRecDepth 20000 in
theorem ggX6_drive_X6_bad : GoodIn wsX6_drive wsX6_bad := goodIn_r _ [19, 20, 21, 22, 5, 23, 24, 32, 33, 34, 35, 36, 37, 38, 39, 40, 41, 42, 43, 44, 45, 46, 47, 48, 49, 50, 51, 52, 53, 54, 55, 56, 57] (by decide +kernel) (by decide +kernel)
set_option maxRecDepth 20000 in
theorem gX6_drive_X6_bad : GoodIn wsX6_drive (wsV RX6 97 RX6 yX6_bad wsX6_bad) := goodIn_app (goodIn_of _ (by decide +kernel)) ggX6_drive_X6_bad
set_option maxRecDepth 20000 in
theorem ggX6_drive_X6_goesOn : GoodIn wsX6_drive wsX6_goesOn := goodIn_r _ [28, 29, 2, 30, 31, 32, 33, 34, 35, 36, 37, 38, 39, 40, 41, 42, 43, 44, 45, 46, 47, 48, 49, 50, 51, 52, 53, 54, 55, 56, 57] (by decide +kernel) (by decide +kernel)
set_option maxRecDepth 20000 in
theorem gX6_drive_X6_goesOn : GoodIn wsX6_drive (wsV RX6 268 RX6 yX6_goesOn wsX6_goesOn) := goodIn_app (goodIn_of _ (by decide +kernel)) ggX6_drive_X6_goesOn
theorem dX6_drive_0 : decode cX6_drive 0 = .ok (.iload_n 1, 1) := by decide +kernel
theorem dX6_drive_1 : decode cX6_drive 1 = .ok (.iload_n 3, 1) := by decide +kernel
theorem dX6_drive_2 : decode cX6_drive 2 = .ok (.iload 4, 2) := by decide +kernel
theorem dX6_drive_4 : decode cX6_drive 4 = .ok (.invokestatic 262, 3) := by decide +kernel
theorem dX6_drive_7 : decode cX6_drive 7 = .ok (.ifCond .eq 15, 3) := by decide +kernel
theorem dX6_drive_10 : decode cX6_drive 10 = .ok (.iload_n 2, 1) := by decide +kernel
theorem dX6_drive_11 : decode cX6_drive 11 = .ok (.i2l, 1) := by decide +kernel
theorem dX6_drive_12 : decode cX6_drive 12 = .ok (.lconst 1, 1) := by decide +kernel
theorem dX6_drive_13 : decode cX6_drive 13 = .ok (.ldc2_w 266, 3) := by decide +kernel
theorem dX6_drive_16 : decode cX6_drive 16 = .ok (.invokestatic 100, 3) := by decide +kernel
theorem dX6_drive_19 : decode cX6_drive 19 = .ok (.ifCond .ne 8, 3) := by decide +kernel
theorem dX6_drive_22 : decode cX6_drive 22 = .ok (.aload_n 0, 1) := by decide +kernel
theorem dX6_drive_23 : decode cX6_drive 23 = .ok (.invokevirtual 97, 3) := by decide +kernel
theorem dX6_drive_26 : decode cX6_drive 26 = .ok (.ireturn, 1) := by decide +kernel
theorem dX6_drive_27 : decode cX6_drive 27 = .ok (.aload_n 0, 1) := by decide +kernel
theorem dX6_drive_28 : decode cX6_drive 28 = .ok (.iload_n 1, 1) := by decide +kernel
theorem dX6_drive_29 : decode cX6_drive 29 = .ok (.iload_n 2, 1) := by decide +kernel
theorem dX6_drive_30 : decode cX6_drive 30 = .ok (.iload_n 3, 1) := by decide +kernel
theorem dX6_drive_31 : decode cX6_drive 31 = .ok (.iload 4, 2) := by decide +kernel
theorem dX6_drive_33 : decode cX6_drive 33 = .ok (.invokevirtual 268, 3) := by decide +kernel
theorem dX6_drive_36 : decode cX6_drive 36 = .ok (.pop2, 1) := by decide +kernel
theorem dX6_drive_37 : decode cX6_drive 37 = .ok (.aload_n 0, 1) := by decide +kernel
theorem dX6_drive_38 : decode cX6_drive 38 = .ok (.getfield 257, 3) := by decide +kernel
theorem dX6_drive_41 : decode cX6_drive 41 = .ok (.ireturn, 1) := by decide +kernel
set_option maxRecDepth 20000 in
theorem ggX6_part_X6_in : GoodIn wsX6_part wsX6_in := goodIn_r _ [7] (by decide +kernel) (by decide +kernel)
set_option maxRecDepth 20000 in
theorem gX6_part_X6_in : GoodIn wsX6_part (va_wsS RX6 100 yX6_in wsX6_in) := goodIn_app (goodIn_of _ (by decide +kernel)) ggX6_part_X6_in
set_option maxRecDepth 20000 in
theorem ggX6_part_X6_bad : GoodIn wsX6_part wsX6_bad := goodIn_r _ [11, 12, 13, 14, 6, 15, 16, 21, 22, 23, 24, 25, 26, 27, 28, 29, 30, 31, 32, 33, 34, 35, 36, 37, 38, 39, 40, 41, 42, 43, 44, 45, 46] (by decide +kernel) (by decide +kernel)
set_option maxRecDepth 20000 in
theorem gX6_part_X6_bad : GoodIn wsX6_part (wsV RX6 97 RX6 yX6_bad wsX6_bad) := goodIn_app (goodIn_of _ (by decide +kernel)) ggX6_part_X6_bad
set_option maxRecDepth 20000 in
theorem ggX6_part_X6_full : GoodIn wsX6_part wsX6_full := goodIn_r _ [20, 12, 13, 14, 6, 15, 16, 21, 22, 23, 24, 25, 26, 27, 28, 29, 30, 31, 32, 33, 34, 35, 36, 37, 38, 39, 40, 41, 42, 43, 44, 45, 46] (by decide +kernel) (by decide +kernel)
set_option maxRecDepth 20000 in
theorem gX6_part_X6_full : GoodIn wsX6_part (wsV RX6 109 RX6 yX6_full wsX6_full) := goodIn_app (goodIn_of _ (by decide +kernel)) ggX6_part_X6_full
theorem dX6_part_0 : decode cX6_part 0 = .ok (.iload_n 1, 1) := by decide +kernel
theorem dX6_part_1 : decode cX6_part 1 = .ok (.i2l, 1) := by decide +kernel
theorem dX6_part_2 : decode cX6_part 2 = .ok (.lconst 1, 1) := by decide +kernel
theorem dX6_part_3 : decode cX6_part 3 = .ok (.ldc2_w 171, 3) := by decide +kernel
theorem dX6_part_6 : decode cX6_part 6 = .ok (.invokestatic 100, 3) := by decide +kernel
theorem dX6_part_9 : decode cX6_part 9 = .ok (.ifCond .eq 27, 3) := by decide +kernel
theorem dX6_part_12 : decode cX6_part 12 = .ok (.iload_n 2, 1) := by decide +kernel
theorem dX6_part_13 : decode cX6_part 13 = .ok (.i2l, 1) := by decide +kernel
theorem dX6_part_14 : decode cX6_part 14 = .ok (.lconst 1, 1) := by decide +kernel
theorem dX6_part_15 : decode cX6_part 15 = .ok (.ldc2_w 171, 3) := by decide +kernel
theorem dX6_part_18 : decode cX6_part 18 = .ok (.invokestatic 100, 3) := by decide +kernel
theorem dX6_part_21 : decode cX6_part 21 = .ok (.ifCond .eq 15, 3) := by decide +kernel
theorem dX6_part_24 : decode cX6_part 24 = .ok (.iload_n 3, 1) := by decide +kernel
theorem dX6_part_25 : decode cX6_part 25 = .ok (.i2l, 1) := by decide +kernel
theorem dX6_part_26 : decode cX6_part 26 = .ok (.lconst 0, 1) := by decide +kernel
theorem dX6_part_27 : decode cX6_part 27 = .ok (.ldc2_w 266, 3) := by decide +kernel
theorem dX6_part_30 : decode cX6_part 30 = .ok (.invokestatic 100, 3) := by decide +kernel
theorem dX6_part_33 : decode cX6_part 33 = .ok (.ifCond .ne 8, 3) := by decide +kernel
theorem dX6_part_36 : decode cX6_part 36 = .ok (.aload_n 0, 1) := by decide +kernel
theorem dX6_part_37 : decode cX6_part 37 = .ok (.invokevirtual 97, 3) := by decide +kernel
theorem dX6_part_40 : decode cX6_part 40 = .ok (.ireturn, 1) := by decide +kernel
theorem dX6_part_41 : decode cX6_part 41 = .ok (.aload_n 0, 1) := by decide +kernel
theorem dX6_part_42 : decode cX6_part 42 = .ok (.getfield 7, 3) := by decide +kernel
theorem dX6_part_45 : decode cX6_part 45 = .ok (.iconst 2, 1) := by decide +kernel
theorem dX6_part_46 : decode cX6_part 46 = .ok (.iaload, 1) := by decide +kernel
theorem dX6_part_47 : decode cX6_part 47 = .ok (.bipush 6, 2) := by decide +kernel
theorem dX6_part_49 : decode cX6_part 49 = .ok (.if_icmp .ne 8, 3) := by decide +kernel
theorem dX6_part_52 : decode cX6_part 52 = .ok (.aload_n 0, 1) := by decide +kernel
theorem dX6_part_53 : decode cX6_part 53 = .ok (.invokevirtual 109, 3) := by decide +kernel
theorem dX6_part_56 : decode cX6_part 56 = .ok (.ireturn, 1) := by decide +kernel
theorem dX6_part_57 : decode cX6_part 57 = .ok (.bipush 60, 2) := by decide +kernel
theorem dX6_part_59 : decode cX6_part 59 = .ok (.iconst 3, 1) := by decide +kernel
theorem dX6_part_60 : decode cX6_part 60 = .ok (.aload_n 0, 1) := by decide +kernel
theorem dX6_part_61 : decode cX6_part 61 = .ok (.getfield 7, 3) := by decide +kernel
theorem dX6_part_64 : decode cX6_part 64 = .ok (.iconst 2, 1) := by decide +kernel
theorem dX6_part_65 : decode cX6_part 65 = .ok (.iaload, 1) := by decide +kernel
theorem dX6_part_66 : decode cX6_part 66 = .ok (.imul, 1) := by decide +kernel
theorem dX6_part_67 : decode cX6_part 67 = .ok (.iadd, 1) := by decide +kernel
theorem dX6_part_68 : decode cX6_part 68 = .ok (.istore 4, 2) := by decide +kernel
theorem dX6_part_70 : decode cX6_part 70 = .ok (.aload_n 0, 1) := by decide +kernel
theorem dX6_part_71 : decode cX6_part 71 = .ok (.getfield 7, 3) := by decide +kernel
theorem dX6_part_74 : decode cX6_part 74 = .ok (.iload 4, 2) := by decide +kernel
theorem dX6_part_76 : decode cX6_part 76 = .ok (.iload_n 1, 1) := by decide +kernel
theorem dX6_part_77 : decode cX6_part 77 = .ok (.iastore, 1) := by decide +kernel
theorem dX6_part_78 : decode cX6_part 78 = .ok (.aload_n 0, 1) := by decide +kernel
theorem dX6_part_79 : decode cX6_part 79 = .ok (.getfield 7, 3) := by decide +kernel
theorem dX6_part_82 : decode cX6_part 82 = .ok (.iload 4, 2) := by decide +kernel
theorem dX6_part_84 : decode cX6_part 84 = .ok (.iconst 1, 1) := by decide +kernel
theorem dX6_part_85 : decode cX6_part 85 = .ok (.iadd, 1) := by decide +kernel
theorem dX6_part_86 : decode cX6_part 86 = .ok (.iload_n 2, 1) := by decide +kernel
theorem dX6_part_87 : decode cX6_part 87 = .ok (.iastore, 1) := by decide +kernel
theorem dX6_part_88 : decode cX6_part 88 = .ok (.aload_n 0, 1) := by decide +kernel
theorem dX6_part_89 : decode cX6_part 89 = .ok (.getfield 7, 3) := by decide +kernel
theorem dX6_part_92 : decode cX6_part 92 = .ok (.iload 4, 2) := by decide +kernel
theorem dX6_part_94 : decode cX6_part 94 = .ok (.iconst 2, 1) := by decide +kernel
theorem dX6_part_95 : decode cX6_part 95 = .ok (.iadd, 1) := by decide +kernel
theorem dX6_part_96 : decode cX6_part 96 = .ok (.iload_n 3, 1) := by decide +kernel
theorem dX6_part_97 : decode cX6_part 97 = .ok (.iastore, 1) := by decide +kernel
theorem dX6_part_98 : decode cX6_part 98 = .ok (.aload_n 0, 1) := by decide +kernel
theorem dX6_part_99 : decode cX6_part 99 = .ok (.getfield 7, 3) := by decide +kernel
theorem dX6_part_102 : decode cX6_part 102 = .ok (.iconst 2, 1) := by decide +kernel
theorem dX6_part_103 : decode cX6_part 103 = .ok (.dup2, 1) := by decide +kernel
theorem dX6_part_104 : decode cX6_part 104 = .ok (.iaload, 1) := by decide +kernel
theorem dX6_part_105 : decode cX6_part 105 = .ok (.iconst 1, 1) := by decide +kernel
theorem dX6_part_106 : decode cX6_part 106 = .ok (.iadd, 1) := by decide +kernel
theorem dX6_part_107 : decode cX6_part 107 = .ok (.iastore, 1) := by decide +kernel
theorem dX6_part_108 : decode cX6_part 108 = .ok (.aload_n 0, 1) := by decide +kernel
theorem dX6_part_109 : decode cX6_part 109 = .ok (.getfield 7, 3) := by decide +kernel
theorem dX6_part_112 : decode cX6_part 112 = .ok (.iconst 2, 1) := by decide +kernel
theorem dX6_part_113 : decode cX6_part 113 = .ok (.iaload, 1) := by decide +kernel
theorem dX6_part_114 : decode cX6_part 114 = .ok (.iconst 1, 1) := by decide +kernel
theorem dX6_part_115 : decode cX6_part 115 = .ok (.isub, 1) := by decide +kernel
theorem dX6_part_116 : decode cX6_part 116 = .ok (.ireturn, 1) := by decide +kernel
set_option maxRecDepth 20000 in
theorem ggX6_takes_X6_in : GoodIn wsX6_takes wsX6_in := goodIn_r _ [6] (by decide +kernel) (by decide +kernel)
set_option maxRecDepth 20000 in
theorem gX6_takes_X6_in : GoodIn wsX6_takes (va_wsS RX6 100 yX6_in wsX6_in) := goodIn_app (goodIn_of _ (by decide +kernel)) ggX6_takes_X6_in
set_option maxRecDepth 20000 in
theorem ggX6_takes_X6_bad : GoodIn wsX6_takes wsX6_bad := goodIn_r _ [10, 11, 12, 13, 5, 14, 15, 16, 17, 18, 19, 20, 21, 22, 23, 24, 25, 26, 27, 28, 29, 30, 31, 32, 33, 34, 35, 36, 37, 38, 39, 40, 41] (by decide +kernel) (by decide +kernel)
set_option maxRecDepth 20000 in
theorem gX6_takes_X6_bad : GoodIn wsX6_takes (wsV RX6 97 RX6 yX6_bad wsX6_bad) := goodIn_app (goodIn_of _ (by decide +kernel)) ggX6_takes_X6_bad
theorem dX6_takes_0 : decode cX6_takes 0 = .ok (.iload_n 1, 1) := by decide +kernel
theorem dX6_takes_1 : decode cX6_takes 1 = .ok (.i2l, 1) := by decide +kernel
theorem dX6_takes_2 : decode cX6_takes 2 = .ok (.lconst 0, 1) := by decide +kernel
theorem dX6_takes_3 : decode cX6_takes 3 = .ok (.ldc2_w 260, 3) := by decide +kernel
theorem dX6_takes_6 : decode cX6_takes 6 = .ok (.invokestatic 100, 3) := by decide +kernel
theorem dX6_takes_9 : decode cX6_takes 9 = .ok (.ifCond .ne 8, 3) := by decide +kernel
theorem dX6_takes_12 : decode cX6_takes 12 = .ok (.aload_n 0, 1) := by decide +kernel
theorem dX6_takes_13 : decode cX6_takes 13 = .ok (.invokevirtual 97, 3) := by decide +kernel
theorem dX6_takes_16 : decode cX6_takes 16 = .ok (.ireturn, 1) := by decide +kernel
theorem dX6_takes_17 : decode cX6_takes 17 = .ok (.iconst 0, 1) := by decide +kernel
theorem dX6_takes_18 : decode cX6_takes 18 = .ok (.istore_n 2, 1) := by decide +kernel
theorem dX6_takes_19 : decode cX6_takes 19 = .ok (.iconst 0, 1) := by decide +kernel
theorem dX6_takes_20 : decode cX6_takes 20 = .ok (.istore_n 3, 1) := by decide +kernel
theorem dX6_takes_21 : decode cX6_takes 21 = .ok (.iconst 0, 1) := by decide +kernel
theorem dX6_takes_22 : decode cX6_takes 22 = .ok (.istore 4, 2) := by decide +kernel
theorem dX6_takes_24 : decode cX6_takes 24 = .ok (.iconst 1, 1) := by decide +kernel
theorem dX6_takes_25 : decode cX6_takes 25 = .ok (.istore 5, 2) := by decide +kernel
theorem dX6_takes_27 : decode cX6_takes 27 = .ok (.iload 5, 2) := by decide +kernel
theorem dX6_takes_29 : decode cX6_takes 29 = .ok (.iconst 1, 1) := by decide +kernel
theorem dX6_takes_30 : decode cX6_takes 30 = .ok (.aload_n 0, 1) := by decide +kernel
theorem dX6_takes_31 : decode cX6_takes 31 = .ok (.getfield 7, 3) := by decide +kernel
theorem dX6_takes_34 : decode cX6_takes 34 = .ok (.iconst 2, 1) := by decide +kernel
theorem dX6_takes_35 : decode cX6_takes 35 = .ok (.iaload, 1) := by decide +kernel
theorem dX6_takes_36 : decode cX6_takes 36 = .ok (.ishl, 1) := by decide +kernel
theorem dX6_takes_37 : decode cX6_takes 37 = .ok (.if_icmp .ge 131, 3) := by decide +kernel
theorem dX6_takes_40 : decode cX6_takes 40 = .ok (.iconst 0, 1) := by decide +kernel
theorem dX6_takes_41 : decode cX6_takes 41 = .ok (.istore 6, 2) := by decide +kernel
theorem dX6_takes_43 : decode cX6_takes 43 = .ok (.iconst 0, 1) := by decide +kernel
theorem dX6_takes_44 : decode cX6_takes 44 = .ok (.istore 7, 2) := by decide +kernel
theorem dX6_takes_46 : decode cX6_takes 46 = .ok (.iconst 0, 1) := by decide +kernel
theorem dX6_takes_47 : decode cX6_takes 47 = .ok (.istore 8, 2) := by decide +kernel
theorem dX6_takes_49 : decode cX6_takes 49 = .ok (.iload 8, 2) := by decide +kernel
theorem dX6_takes_51 : decode cX6_takes 51 = .ok (.aload_n 0, 1) := by decide +kernel
theorem dX6_takes_52 : decode cX6_takes 52 = .ok (.getfield 7, 3) := by decide +kernel
theorem dX6_takes_55 : decode cX6_takes 55 = .ok (.iconst 2, 1) := by decide +kernel
theorem dX6_takes_56 : decode cX6_takes 56 = .ok (.iaload, 1) := by decide +kernel
theorem dX6_takes_57 : decode cX6_takes 57 = .ok (.if_icmp .ge 70, 3) := by decide +kernel
theorem dX6_takes_60 : decode cX6_takes 60 = .ok (.bipush 60, 2) := by decide +kernel
theorem dX6_takes_62 : decode cX6_takes 62 = .ok (.iconst 3, 1) := by decide +kernel
theorem dX6_takes_63 : decode cX6_takes 63 = .ok (.iload 8, 2) := by decide +kernel
theorem dX6_takes_65 : decode cX6_takes 65 = .ok (.imul, 1) := by decide +kernel
theorem dX6_takes_66 : decode cX6_takes 66 = .ok (.iadd, 1) := by decide +kernel
theorem dX6_takes_67 : decode cX6_takes 67 = .ok (.istore 9, 2) := by decide +kernel
theorem dX6_takes_69 : decode cX6_takes 69 = .ok (.iload 6, 2) := by decide +kernel
theorem dX6_takes_71 : decode cX6_takes 71 = .ok (.iload 5, 2) := by decide +kernel
theorem dX6_takes_73 : decode cX6_takes 73 = .ok (.iload 8, 2) := by decide +kernel
theorem dX6_takes_75 : decode cX6_takes 75 = .ok (.ishr, 1) := by decide +kernel
theorem dX6_takes_76 : decode cX6_takes 76 = .ok (.iconst 1, 1) := by decide +kernel
theorem dX6_takes_77 : decode cX6_takes 77 = .ok (.iand, 1) := by decide +kernel
theorem dX6_takes_78 : decode cX6_takes 78 = .ok (.aload_n 0, 1) := by decide +kernel
theorem dX6_takes_79 : decode cX6_takes 79 = .ok (.getfield 7, 3) := by decide +kernel
theorem dX6_takes_82 : decode cX6_takes 82 = .ok (.iload 9, 2) := by decide +kernel
theorem dX6_takes_84 : decode cX6_takes 84 = .ok (.iaload, 1) := by decide +kernel
theorem dX6_takes_85 : decode cX6_takes 85 = .ok (.imul, 1) := by decide +kernel
theorem dX6_takes_86 : decode cX6_takes 86 = .ok (.iadd, 1) := by decide +kernel
theorem dX6_takes_87 : decode cX6_takes 87 = .ok (.istore 6, 2) := by decide +kernel
theorem dX6_takes_89 : decode cX6_takes 89 = .ok (.iload 7, 2) := by decide +kernel
theorem dX6_takes_91 : decode cX6_takes 91 = .ok (.iload 5, 2) := by decide +kernel
theorem dX6_takes_93 : decode cX6_takes 93 = .ok (.iload 8, 2) := by decide +kernel
theorem dX6_takes_95 : decode cX6_takes 95 = .ok (.ishr, 1) := by decide +kernel
theorem dX6_takes_96 : decode cX6_takes 96 = .ok (.iconst 1, 1) := by decide +kernel
theorem dX6_takes_97 : decode cX6_takes 97 = .ok (.iand, 1) := by decide +kernel
theorem dX6_takes_98 : decode cX6_takes 98 = .ok (.aload_n 0, 1) := by decide +kernel
theorem dX6_takes_99 : decode cX6_takes 99 = .ok (.getfield 7, 3) := by decide +kernel
theorem dX6_takes_102 : decode cX6_takes 102 = .ok (.iload 9, 2) := by decide +kernel
theorem dX6_takes_104 : decode cX6_takes 104 = .ok (.iconst 1, 1) := by decide +kernel
theorem dX6_takes_105 : decode cX6_takes 105 = .ok (.iadd, 1) := by decide +kernel
theorem dX6_takes_106 : decode cX6_takes 106 = .ok (.iaload, 1) := by decide +kernel
theorem dX6_takes_107 : decode cX6_takes 107 = .ok (.imul, 1) := by decide +kernel
theorem dX6_takes_108 : decode cX6_takes 108 = .ok (.aload_n 0, 1) := by decide +kernel
theorem dX6_takes_109 : decode cX6_takes 109 = .ok (.getfield 7, 3) := by decide +kernel
theorem dX6_takes_112 : decode cX6_takes 112 = .ok (.iload 9, 2) := by decide +kernel
theorem dX6_takes_114 : decode cX6_takes 114 = .ok (.iconst 2, 1) := by decide +kernel
theorem dX6_takes_115 : decode cX6_takes 115 = .ok (.iadd, 1) := by decide +kernel
theorem dX6_takes_116 : decode cX6_takes 116 = .ok (.iaload, 1) := by decide +kernel
theorem dX6_takes_117 : decode cX6_takes 117 = .ok (.imul, 1) := by decide +kernel
theorem dX6_takes_118 : decode cX6_takes 118 = .ok (.iadd, 1) := by decide +kernel
theorem dX6_takes_119 : decode cX6_takes 119 = .ok (.istore 7, 2) := by decide +kernel
theorem dX6_takes_121 : decode cX6_takes 121 = .ok (.iinc 8 1, 3) := by decide +kernel
theorem dX6_takes_124 : decode cX6_takes 124 = .ok (.goto (-75), 3) := by decide +kernel
theorem dX6_takes_127 : decode cX6_takes 127 = .ok (.iload 6, 2) := by decide +kernel
theorem dX6_takes_129 : decode cX6_takes 129 = .ok (.iload_n 1, 1) := by decide +kernel
theorem dX6_takes_130 : decode cX6_takes 130 = .ok (.if_icmp .gt 32, 3) := by decide +kernel
theorem dX6_takes_133 : decode cX6_takes 133 = .ok (.iload 7, 2) := by decide +kernel
theorem dX6_takes_135 : decode cX6_takes 135 = .ok (.iload_n 3, 1) := by decide +kernel
theorem dX6_takes_136 : decode cX6_takes 136 = .ok (.if_icmp .gt 16, 3) := by decide +kernel
theorem dX6_takes_139 : decode cX6_takes 139 = .ok (.iload 7, 2) := by decide +kernel
theorem dX6_takes_141 : decode cX6_takes 141 = .ok (.iload_n 3, 1) := by decide +kernel
theorem dX6_takes_142 : decode cX6_takes 142 = .ok (.if_icmp .ne 20, 3) := by decide +kernel
theorem dX6_takes_145 : decode cX6_takes 145 = .ok (.iload 6, 2) := by decide +kernel
theorem dX6_takes_147 : decode cX6_takes 147 = .ok (.iload 4, 2) := by decide +kernel
theorem dX6_takes_149 : decode cX6_takes 149 = .ok (.if_icmp .ge 13, 3) := by decide +kernel
theorem dX6_takes_152 : decode cX6_takes 152 = .ok (.iload 5, 2) := by decide +kernel
theorem dX6_takes_154 : decode cX6_takes 154 = .ok (.istore_n 2, 1) := by decide +kernel
theorem dX6_takes_155 : decode cX6_takes 155 = .ok (.iload 7, 2) := by decide +kernel
theorem dX6_takes_157 : decode cX6_takes 157 = .ok (.istore_n 3, 1) := by decide +kernel
theorem dX6_takes_158 : decode cX6_takes 158 = .ok (.iload 6, 2) := by decide +kernel
theorem dX6_takes_160 : decode cX6_takes 160 = .ok (.istore 4, 2) := by decide +kernel
theorem dX6_takes_162 : decode cX6_takes 162 = .ok (.iinc 5 1, 3) := by decide +kernel
theorem dX6_takes_165 : decode cX6_takes 165 = .ok (.goto (-138), 3) := by decide +kernel
theorem dX6_takes_168 : decode cX6_takes 168 = .ok (.iload_n 2, 1) := by decide +kernel
theorem dX6_takes_169 : decode cX6_takes 169 = .ok (.ireturn, 1) := by decide +kernel
set_option maxRecDepth 20000 in
theorem ggX6_image_X6_in : GoodIn wsX6_image wsX6_in := goodIn_r _ [7] (by decide +kernel) (by decide +kernel)
set_option maxRecDepth 20000 in
theorem gX6_image_X6_in : GoodIn wsX6_image (va_wsS RX6 100 yX6_in wsX6_in) := goodIn_app (goodIn_of _ (by decide +kernel)) ggX6_image_X6_in
set_option maxRecDepth 20000 in
theorem ggX6_image_X6_bad : GoodIn wsX6_image wsX6_bad := goodIn_r _ [11, 12, 13, 14, 6, 15, 16, 17, 18, 19, 20, 21, 22, 23, 24, 25, 26, 27, 28, 29, 30, 31, 32, 33, 34, 35, 36, 37, 38, 39, 40, 41, 42] (by decide +kernel) (by decide +kernel)
set_option maxRecDepth 20000 in
theorem gX6_image_X6_bad : GoodIn wsX6_image (wsV RX6 97 RX6 yX6_bad wsX6_bad) := goodIn_app (goodIn_of _ (by decide +kernel)) ggX6_image_X6_bad
theorem dX6_image_0 : decode cX6_image 0 = .ok (.iload_n 1, 1) := by decide +kernel
theorem dX6_image_1 : decode cX6_image 1 = .ok (.i2l, 1) := by decide +kernel
theorem dX6_image_2 : decode cX6_image 2 = .ok (.lconst 0, 1) := by decide +kernel
theorem dX6_image_3 : decode cX6_image 3 = .ok (.lconst 1, 1) := by decide +kernel
theorem dX6_image_4 : decode cX6_image 4 = .ok (.invokestatic 100, 3) := by decide +kernel
theorem dX6_image_7 : decode cX6_image 7 = .ok (.ifCond .ne 8, 3) := by decide +kernel
theorem dX6_image_10 : decode cX6_image 10 = .ok (.aload_n 0, 1) := by decide +kernel
theorem dX6_image_11 : decode cX6_image 11 = .ok (.invokevirtual 97, 3) := by decide +kernel
theorem dX6_image_14 : decode cX6_image 14 = .ok (.ireturn, 1) := by decide +kernel
theorem dX6_image_15 : decode cX6_image 15 = .ok (.iconst 0, 1) := by decide +kernel
theorem dX6_image_16 : decode cX6_image 16 = .ok (.istore_n 2, 1) := by decide +kernel
theorem dX6_image_17 : decode cX6_image 17 = .ok (.iload_n 2, 1) := by decide +kernel
theorem dX6_image_18 : decode cX6_image 18 = .ok (.sipush 200, 3) := by decide +kernel
theorem dX6_image_21 : decode cX6_image 21 = .ok (.if_icmp .ge 27, 3) := by decide +kernel
theorem dX6_image_24 : decode cX6_image 24 = .ok (.aload_n 0, 1) := by decide +kernel
theorem dX6_image_25 : decode cX6_image 25 = .ok (.getfield 13, 3) := by decide +kernel
theorem dX6_image_28 : decode cX6_image 28 = .ok (.sipush 200, 3) := by decide +kernel
theorem dX6_image_31 : decode cX6_image 31 = .ok (.iload_n 1, 1) := by decide +kernel
theorem dX6_image_32 : decode cX6_image 32 = .ok (.imul, 1) := by decide +kernel
theorem dX6_image_33 : decode cX6_image 33 = .ok (.iload_n 2, 1) := by decide +kernel
theorem dX6_image_34 : decode cX6_image 34 = .ok (.iadd, 1) := by decide +kernel
theorem dX6_image_35 : decode cX6_image 35 = .ok (.aload_n 0, 1) := by decide +kernel
theorem dX6_image_36 : decode cX6_image 36 = .ok (.getfield 7, 3) := by decide +kernel
theorem dX6_image_39 : decode cX6_image 39 = .ok (.iload_n 2, 1) := by decide +kernel
theorem dX6_image_40 : decode cX6_image 40 = .ok (.iaload, 1) := by decide +kernel
theorem dX6_image_41 : decode cX6_image 41 = .ok (.iastore, 1) := by decide +kernel
theorem dX6_image_42 : decode cX6_image 42 = .ok (.iinc 2 1, 3) := by decide +kernel
theorem dX6_image_45 : decode cX6_image 45 = .ok (.goto (-28), 3) := by decide +kernel
theorem dX6_image_48 : decode cX6_image 48 = .ok (.aload_n 0, 1) := by decide +kernel
theorem dX6_image_49 : decode cX6_image 49 = .ok (.getfield 16, 3) := by decide +kernel
theorem dX6_image_52 : decode cX6_image 52 = .ok (.iload_n 1, 1) := by decide +kernel
theorem dX6_image_53 : decode cX6_image 53 = .ok (.iconst 1, 1) := by decide +kernel
theorem dX6_image_54 : decode cX6_image 54 = .ok (.bastore, 1) := by decide +kernel
theorem dX6_image_55 : decode cX6_image 55 = .ok (.iconst 1, 1) := by decide +kernel
theorem dX6_image_56 : decode cX6_image 56 = .ok (.ireturn, 1) := by decide +kernel
set_option maxRecDepth 20000 in
theorem ggX6_from_X6_in : GoodIn wsX6_from wsX6_in := goodIn_r _ [7] (by decide +kernel) (by decide +kernel)
set_option maxRecDepth 20000 in
theorem gX6_from_X6_in : GoodIn wsX6_from (va_wsS RX6 100 yX6_in wsX6_in) := goodIn_app (goodIn_of _ (by decide +kernel)) ggX6_from_X6_in
set_option maxRecDepth 20000 in
theorem ggX6_from_X6_bad : GoodIn wsX6_from wsX6_bad := goodIn_r _ [11, 12, 13, 14, 6, 15, 16, 21, 22, 23, 24, 25, 26, 27, 28, 29, 30, 31, 32, 33, 34, 35, 36, 37, 38, 39, 40, 41, 42, 43, 44, 45, 46] (by decide +kernel) (by decide +kernel)
set_option maxRecDepth 20000 in
theorem gX6_from_X6_bad : GoodIn wsX6_from (wsV RX6 97 RX6 yX6_bad wsX6_bad) := goodIn_app (goodIn_of _ (by decide +kernel)) ggX6_from_X6_bad
set_option maxRecDepth 20000 in
theorem ggX6_from_X6_no : GoodIn wsX6_from wsX6_no := goodIn_r _ [20, 12, 13, 14, 6, 15, 16, 21, 22, 23, 24, 25, 26, 27, 28, 29, 30, 31, 32, 33, 34, 35, 36, 37, 38, 39, 40, 41, 42, 43, 44, 45, 46] (by decide +kernel) (by decide +kernel)
set_option maxRecDepth 20000 in
theorem gX6_from_X6_no : GoodIn wsX6_from (wsV RX6 164 RX6 yX6_no wsX6_no) := goodIn_app (goodIn_of _ (by decide +kernel)) ggX6_from_X6_no
theorem dX6_from_0 : decode cX6_from 0 = .ok (.iload_n 1, 1) := by decide +kernel
theorem dX6_from_1 : decode cX6_from 1 = .ok (.i2l, 1) := by decide +kernel
theorem dX6_from_2 : decode cX6_from 2 = .ok (.lconst 0, 1) := by decide +kernel
theorem dX6_from_3 : decode cX6_from 3 = .ok (.lconst 1, 1) := by decide +kernel
theorem dX6_from_4 : decode cX6_from 4 = .ok (.invokestatic 100, 3) := by decide +kernel
theorem dX6_from_7 : decode cX6_from 7 = .ok (.ifCond .ne 8, 3) := by decide +kernel
theorem dX6_from_10 : decode cX6_from 10 = .ok (.aload_n 0, 1) := by decide +kernel
theorem dX6_from_11 : decode cX6_from 11 = .ok (.invokevirtual 97, 3) := by decide +kernel
theorem dX6_from_14 : decode cX6_from 14 = .ok (.ireturn, 1) := by decide +kernel
theorem dX6_from_15 : decode cX6_from 15 = .ok (.aload_n 0, 1) := by decide +kernel
theorem dX6_from_16 : decode cX6_from 16 = .ok (.getfield 16, 3) := by decide +kernel
theorem dX6_from_19 : decode cX6_from 19 = .ok (.iload_n 1, 1) := by decide +kernel
theorem dX6_from_20 : decode cX6_from 20 = .ok (.baload, 1) := by decide +kernel
theorem dX6_from_21 : decode cX6_from 21 = .ok (.ifCond .ne 8, 3) := by decide +kernel
theorem dX6_from_24 : decode cX6_from 24 = .ok (.aload_n 0, 1) := by decide +kernel
theorem dX6_from_25 : decode cX6_from 25 = .ok (.invokevirtual 164, 3) := by decide +kernel
theorem dX6_from_28 : decode cX6_from 28 = .ok (.ireturn, 1) := by decide +kernel
theorem dX6_from_29 : decode cX6_from 29 = .ok (.iconst 0, 1) := by decide +kernel
theorem dX6_from_30 : decode cX6_from 30 = .ok (.istore_n 2, 1) := by decide +kernel
theorem dX6_from_31 : decode cX6_from 31 = .ok (.iload_n 2, 1) := by decide +kernel
theorem dX6_from_32 : decode cX6_from 32 = .ok (.sipush 200, 3) := by decide +kernel
theorem dX6_from_35 : decode cX6_from 35 = .ok (.if_icmp .ge 27, 3) := by decide +kernel
theorem dX6_from_38 : decode cX6_from 38 = .ok (.aload_n 0, 1) := by decide +kernel
theorem dX6_from_39 : decode cX6_from 39 = .ok (.getfield 7, 3) := by decide +kernel
theorem dX6_from_42 : decode cX6_from 42 = .ok (.iload_n 2, 1) := by decide +kernel
theorem dX6_from_43 : decode cX6_from 43 = .ok (.aload_n 0, 1) := by decide +kernel
theorem dX6_from_44 : decode cX6_from 44 = .ok (.getfield 13, 3) := by decide +kernel
theorem dX6_from_47 : decode cX6_from 47 = .ok (.sipush 200, 3) := by decide +kernel
theorem dX6_from_50 : decode cX6_from 50 = .ok (.iload_n 1, 1) := by decide +kernel
theorem dX6_from_51 : decode cX6_from 51 = .ok (.imul, 1) := by decide +kernel
theorem dX6_from_52 : decode cX6_from 52 = .ok (.iload_n 2, 1) := by decide +kernel
theorem dX6_from_53 : decode cX6_from 53 = .ok (.iadd, 1) := by decide +kernel
theorem dX6_from_54 : decode cX6_from 54 = .ok (.iaload, 1) := by decide +kernel
theorem dX6_from_55 : decode cX6_from 55 = .ok (.iastore, 1) := by decide +kernel
theorem dX6_from_56 : decode cX6_from 56 = .ok (.iinc 2 1, 3) := by decide +kernel
theorem dX6_from_59 : decode cX6_from 59 = .ok (.goto (-28), 3) := by decide +kernel
theorem dX6_from_62 : decode cX6_from 62 = .ok (.iconst 1, 1) := by decide +kernel
theorem dX6_from_63 : decode cX6_from 63 = .ok (.ireturn, 1) := by decide +kernel
set_option maxRecDepth 20000 in
theorem ggX6_status_X6_in : GoodIn wsX6_status wsX6_in := goodIn_r _ [6] (by decide +kernel) (by decide +kernel)
set_option maxRecDepth 20000 in
theorem gX6_status_X6_in : GoodIn wsX6_status (va_wsS RX6 100 yX6_in wsX6_in) := goodIn_app (goodIn_of _ (by decide +kernel)) ggX6_status_X6_in
set_option maxRecDepth 20000 in
theorem ggX6_status_X6_refuses : GoodIn wsX6_status wsX6_refuses := goodIn_r _ [10, 2, 11, 12, 13, 14, 15, 16, 17, 18, 19, 20, 21, 22, 23, 24, 25, 26, 27, 28, 29, 30, 31, 32, 33, 34, 35, 36] (by decide +kernel) (by decide +kernel)
set_option maxRecDepth 20000 in
theorem gX6_status_X6_refuses : GoodIn wsX6_status (wsV RX6 58 RX6 yX6_refuses wsX6_refuses) := goodIn_app (goodIn_of _ (by decide +kernel)) ggX6_status_X6_refuses
theorem dX6_status_0 : decode cX6_status 0 = .ok (.iload_n 1, 1) := by decide +kernel
theorem dX6_status_1 : decode cX6_status 1 = .ok (.i2l, 1) := by decide +kernel
theorem dX6_status_2 : decode cX6_status 2 = .ok (.lconst 0, 1) := by decide +kernel
theorem dX6_status_3 : decode cX6_status 3 = .ok (.ldc2_w 204, 3) := by decide +kernel
theorem dX6_status_6 : decode cX6_status 6 = .ok (.invokestatic 100, 3) := by decide +kernel
theorem dX6_status_9 : decode cX6_status 9 = .ok (.ifCond .eq 12, 3) := by decide +kernel
theorem dX6_status_12 : decode cX6_status 12 = .ok (.aload_n 0, 1) := by decide +kernel
theorem dX6_status_13 : decode cX6_status 13 = .ok (.getfield 20, 3) := by decide +kernel
theorem dX6_status_16 : decode cX6_status 16 = .ok (.iload_n 1, 1) := by decide +kernel
theorem dX6_status_17 : decode cX6_status 17 = .ok (.iaload, 1) := by decide +kernel
theorem dX6_status_18 : decode cX6_status 18 = .ok (.goto 9, 3) := by decide +kernel
theorem dX6_status_21 : decode cX6_status 21 = .ok (.aload_n 0, 1) := by decide +kernel
theorem dX6_status_22 : decode cX6_status 22 = .ok (.iconst 0, 1) := by decide +kernel
theorem dX6_status_23 : decode cX6_status 23 = .ok (.iconst (-1), 1) := by decide +kernel
theorem dX6_status_24 : decode cX6_status 24 = .ok (.invokevirtual 58, 3) := by decide +kernel
theorem dX6_status_27 : decode cX6_status 27 = .ok (.ireturn, 1) := by decide +kernel
theorem dX6_faults_0 : decode cX6_faults 0 = .ok (.iconst 0, 1) := by decide +kernel
theorem dX6_faults_1 : decode cX6_faults 1 = .ok (.istore_n 1, 1) := by decide +kernel
theorem dX6_faults_2 : decode cX6_faults 2 = .ok (.iconst 0, 1) := by decide +kernel
theorem dX6_faults_3 : decode cX6_faults 3 = .ok (.istore_n 2, 1) := by decide +kernel
theorem dX6_faults_4 : decode cX6_faults 4 = .ok (.iload_n 2, 1) := by decide +kernel
theorem dX6_faults_5 : decode cX6_faults 5 = .ok (.iconst 4, 1) := by decide +kernel
theorem dX6_faults_6 : decode cX6_faults 6 = .ok (.if_icmp .ge 30, 3) := by decide +kernel
theorem dX6_faults_9 : decode cX6_faults 9 = .ok (.iload_n 1, 1) := by decide +kernel
theorem dX6_faults_10 : decode cX6_faults 10 = .ok (.aload_n 0, 1) := by decide +kernel
theorem dX6_faults_11 : decode cX6_faults 11 = .ok (.getfield 7, 3) := by decide +kernel
theorem dX6_faults_14 : decode cX6_faults 14 = .ok (.bipush 15, 2) := by decide +kernel
theorem dX6_faults_16 : decode cX6_faults 16 = .ok (.iload_n 2, 1) := by decide +kernel
theorem dX6_faults_17 : decode cX6_faults 17 = .ok (.iadd, 1) := by decide +kernel
theorem dX6_faults_18 : decode cX6_faults 18 = .ok (.iaload, 1) := by decide +kernel
theorem dX6_faults_19 : decode cX6_faults 19 = .ok (.iconst (-1), 1) := by decide +kernel
theorem dX6_faults_20 : decode cX6_faults 20 = .ok (.if_icmp .ne 7, 3) := by decide +kernel
theorem dX6_faults_23 : decode cX6_faults 23 = .ok (.iconst 0, 1) := by decide +kernel
theorem dX6_faults_24 : decode cX6_faults 24 = .ok (.goto 4, 3) := by decide +kernel
theorem dX6_faults_27 : decode cX6_faults 27 = .ok (.iconst 1, 1) := by decide +kernel
theorem dX6_faults_28 : decode cX6_faults 28 = .ok (.iadd, 1) := by decide +kernel
theorem dX6_faults_29 : decode cX6_faults 29 = .ok (.istore_n 1, 1) := by decide +kernel
theorem dX6_faults_30 : decode cX6_faults 30 = .ok (.iinc 2 1, 3) := by decide +kernel
theorem dX6_faults_33 : decode cX6_faults 33 = .ok (.goto (-29), 3) := by decide +kernel
theorem dX6_faults_36 : decode cX6_faults 36 = .ok (.iload_n 1, 1) := by decide +kernel
theorem dX6_faults_37 : decode cX6_faults 37 = .ok (.ireturn, 1) := by decide +kernel
set_option maxRecDepth 20000 in
theorem ggX6_count_X6_in : GoodIn wsX6_count wsX6_in := goodIn_r _ [6] (by decide +kernel) (by decide +kernel)
set_option maxRecDepth 20000 in
theorem gX6_count_X6_in : GoodIn wsX6_count (va_wsS RX6 100 yX6_in wsX6_in) := goodIn_app (goodIn_of _ (by decide +kernel)) ggX6_count_X6_in
set_option maxRecDepth 20000 in
theorem ggX6_count_X6_faults : GoodIn wsX6_count wsX6_faults := goodIn_r _ [10, 2, 20, 21, 22, 23, 24, 25, 26, 27, 28, 29, 30, 31, 32, 33, 34, 35, 36, 37, 38, 39, 40, 41, 42, 43, 44, 45] (by decide +kernel) (by decide +kernel)
set_option maxRecDepth 20000 in
theorem gX6_count_X6_faults : GoodIn wsX6_count (wsV RX6 272 RX6 yX6_faults wsX6_faults) := goodIn_app (goodIn_of _ (by decide +kernel)) ggX6_count_X6_faults
set_option maxRecDepth 20000 in
theorem ggX6_count_X6_bad : GoodIn wsX6_count wsX6_bad := goodIn_r _ [14, 15, 16, 17, 5, 18, 19, 20, 21, 22, 23, 24, 25, 26, 27, 28, 29, 30, 31, 32, 33, 34, 35, 36, 37, 38, 39, 40, 41, 42, 43, 44, 45] (by decide +kernel) (by decide +kernel)
set_option maxRecDepth 20000 in
theorem gX6_count_X6_bad : GoodIn wsX6_count (wsV RX6 97 RX6 yX6_bad wsX6_bad) := goodIn_app (goodIn_of _ (by decide +kernel)) ggX6_count_X6_bad
theorem dX6_count_0 : decode cX6_count 0 = .ok (.iload_n 1, 1) := by decide +kernel
theorem dX6_count_1 : decode cX6_count 1 = .ok (.i2l, 1) := by decide +kernel
theorem dX6_count_2 : decode cX6_count 2 = .ok (.lconst 0, 1) := by decide +kernel
theorem dX6_count_3 : decode cX6_count 3 = .ok (.ldc2_w 204, 3) := by decide +kernel
theorem dX6_count_6 : decode cX6_count 6 = .ok (.invokestatic 100, 3) := by decide +kernel
theorem dX6_count_9 : decode cX6_count 9 = .ok (.ifCond .eq 12, 3) := by decide +kernel
theorem dX6_count_12 : decode cX6_count 12 = .ok (.aload_n 0, 1) := by decide +kernel
theorem dX6_count_13 : decode cX6_count 13 = .ok (.getfield 7, 3) := by decide +kernel
theorem dX6_count_16 : decode cX6_count 16 = .ok (.iload_n 1, 1) := by decide +kernel
theorem dX6_count_17 : decode cX6_count 17 = .ok (.iaload, 1) := by decide +kernel
theorem dX6_count_18 : decode cX6_count 18 = .ok (.goto 19, 3) := by decide +kernel
theorem dX6_count_21 : decode cX6_count 21 = .ok (.iload_n 1, 1) := by decide +kernel
theorem dX6_count_22 : decode cX6_count 22 = .ok (.iconst 3, 1) := by decide +kernel
theorem dX6_count_23 : decode cX6_count 23 = .ok (.if_icmp .ne 10, 3) := by decide +kernel
theorem dX6_count_26 : decode cX6_count 26 = .ok (.aload_n 0, 1) := by decide +kernel
theorem dX6_count_27 : decode cX6_count 27 = .ok (.invokevirtual 272, 3) := by decide +kernel
theorem dX6_count_30 : decode cX6_count 30 = .ok (.goto 7, 3) := by decide +kernel
theorem dX6_count_33 : decode cX6_count 33 = .ok (.aload_n 0, 1) := by decide +kernel
theorem dX6_count_34 : decode cX6_count 34 = .ok (.invokevirtual 97, 3) := by decide +kernel
theorem dX6_count_37 : decode cX6_count 37 = .ok (.ireturn, 1) := by decide +kernel
theorem dX6_mixed_0 : decode cX6_mixed 0 = .ok (.lload_n 0, 1) := by decide +kernel
theorem dX6_mixed_1 : decode cX6_mixed 1 = .ok (.lstore 5, 2) := by decide +kernel
theorem dX6_mixed_3 : decode cX6_mixed 3 = .ok (.iconst 0, 1) := by decide +kernel
theorem dX6_mixed_4 : decode cX6_mixed 4 = .ok (.istore 7, 2) := by decide +kernel
theorem dX6_mixed_6 : decode cX6_mixed 6 = .ok (.iload 7, 2) := by decide +kernel
theorem dX6_mixed_8 : decode cX6_mixed 8 = .ok (.iload 4, 2) := by decide +kernel
theorem dX6_mixed_10 : decode cX6_mixed 10 = .ok (.if_icmp .ge 25, 3) := by decide +kernel
theorem dX6_mixed_13 : decode cX6_mixed 13 = .ok (.ldc2_w 275, 3) := by decide +kernel
theorem dX6_mixed_16 : decode cX6_mixed 16 = .ok (.lload 5, 2) := by decide +kernel
theorem dX6_mixed_18 : decode cX6_mixed 18 = .ok (.lmul, 1) := by decide +kernel
theorem dX6_mixed_19 : decode cX6_mixed 19 = .ok (.aload_n 2, 1) := by decide +kernel
theorem dX6_mixed_20 : decode cX6_mixed 20 = .ok (.iload_n 3, 1) := by decide +kernel
theorem dX6_mixed_21 : decode cX6_mixed 21 = .ok (.iload 7, 2) := by decide +kernel
theorem dX6_mixed_23 : decode cX6_mixed 23 = .ok (.iadd, 1) := by decide +kernel
theorem dX6_mixed_24 : decode cX6_mixed 24 = .ok (.iaload, 1) := by decide +kernel
theorem dX6_mixed_25 : decode cX6_mixed 25 = .ok (.i2l, 1) := by decide +kernel
theorem dX6_mixed_26 : decode cX6_mixed 26 = .ok (.ladd, 1) := by decide +kernel
theorem dX6_mixed_27 : decode cX6_mixed 27 = .ok (.lstore 5, 2) := by decide +kernel
theorem dX6_mixed_29 : decode cX6_mixed 29 = .ok (.iinc 7 1, 3) := by decide +kernel
theorem dX6_mixed_32 : decode cX6_mixed 32 = .ok (.goto (-26), 3) := by decide +kernel
theorem dX6_mixed_35 : decode cX6_mixed 35 = .ok (.lload 5, 2) := by decide +kernel
theorem dX6_mixed_37 : decode cX6_mixed 37 = .ok (.lreturn, 1) := by decide +kernel
set_option maxRecDepth 20000 in
theorem ggX6_digest_X6_mixed : GoodIn wsX6_digest wsX6_mixed := goodIn_r _ [9, 1] (by decide +kernel) (by decide +kernel)
set_option maxRecDepth 20000 in
theorem gX6_digest_X6_mixed : GoodIn wsX6_digest (va_wsS RX6 279 yX6_mixed wsX6_mixed) := goodIn_app (goodIn_of _ (by decide +kernel)) ggX6_digest_X6_mixed
set_option maxRecDepth 20000 in
theorem ggX6_digest_X6_faults : GoodIn wsX6_digest wsX6_faults := goodIn_r _ [13, 3, 19, 20, 21, 22, 23, 24, 25, 26, 27, 28, 29, 30, 31, 32, 33, 34, 35, 36, 37, 38, 39, 40, 41, 42, 43, 44] (by decide +kernel) (by decide +kernel)
set_option maxRecDepth 20000 in
theorem gX6_digest_X6_faults : GoodIn wsX6_digest (wsV RX6 272 RX6 yX6_faults wsX6_faults) := goodIn_app (goodIn_of _ (by decide +kernel)) ggX6_digest_X6_faults
set_option maxRecDepth 20000 in
theorem ggX6_digest_X6_signNow : GoodIn wsX6_digest wsX6_signNow := goodIn_r _ [17, 4, 18, 19, 20, 21, 22, 23, 24, 25, 26, 27, 28, 29, 30, 31, 32, 33, 34, 35, 36, 37, 38, 39, 40, 41, 42, 43, 44] (by decide +kernel) (by decide +kernel)
set_option maxRecDepth 20000 in
theorem gX6_digest_X6_signNow : GoodIn wsX6_digest (wsV RX6 93 RX6 yX6_signNow wsX6_signNow) := goodIn_app (goodIn_of _ (by decide +kernel)) ggX6_digest_X6_signNow
theorem dX6_digest_0 : decode cX6_digest 0 = .ok (.ldc2_w 275, 3) := by decide +kernel
theorem dX6_digest_3 : decode cX6_digest 3 = .ok (.ldc2_w 277, 3) := by decide +kernel
theorem dX6_digest_6 : decode cX6_digest 6 = .ok (.aload_n 0, 1) := by decide +kernel
theorem dX6_digest_7 : decode cX6_digest 7 = .ok (.getfield 7, 3) := by decide +kernel
theorem dX6_digest_10 : decode cX6_digest 10 = .ok (.iconst 0, 1) := by decide +kernel
theorem dX6_digest_11 : decode cX6_digest 11 = .ok (.iconst 3, 1) := by decide +kernel
theorem dX6_digest_12 : decode cX6_digest 12 = .ok (.invokestatic 279, 3) := by decide +kernel
theorem dX6_digest_15 : decode cX6_digest 15 = .ok (.lmul, 1) := by decide +kernel
theorem dX6_digest_16 : decode cX6_digest 16 = .ok (.aload_n 0, 1) := by decide +kernel
theorem dX6_digest_17 : decode cX6_digest 17 = .ok (.invokevirtual 272, 3) := by decide +kernel
theorem dX6_digest_20 : decode cX6_digest 20 = .ok (.i2l, 1) := by decide +kernel
theorem dX6_digest_21 : decode cX6_digest 21 = .ok (.ladd, 1) := by decide +kernel
theorem dX6_digest_22 : decode cX6_digest 22 = .ok (.lstore_n 1, 1) := by decide +kernel
theorem dX6_digest_23 : decode cX6_digest 23 = .ok (.lload_n 1, 1) := by decide +kernel
theorem dX6_digest_24 : decode cX6_digest 24 = .ok (.aload_n 0, 1) := by decide +kernel
theorem dX6_digest_25 : decode cX6_digest 25 = .ok (.getfield 7, 3) := by decide +kernel
theorem dX6_digest_28 : decode cX6_digest 28 = .ok (.bipush 80, 2) := by decide +kernel
theorem dX6_digest_30 : decode cX6_digest 30 = .ok (.aload_n 0, 1) := by decide +kernel
theorem dX6_digest_31 : decode cX6_digest 31 = .ok (.getfield 7, 3) := by decide +kernel
theorem dX6_digest_34 : decode cX6_digest 34 = .ok (.iconst 0, 1) := by decide +kernel
theorem dX6_digest_35 : decode cX6_digest 35 = .ok (.iaload, 1) := by decide +kernel
theorem dX6_digest_36 : decode cX6_digest 36 = .ok (.invokestatic 279, 3) := by decide +kernel
theorem dX6_digest_39 : decode cX6_digest 39 = .ok (.lstore_n 1, 1) := by decide +kernel
theorem dX6_digest_40 : decode cX6_digest 40 = .ok (.lload_n 1, 1) := by decide +kernel
theorem dX6_digest_41 : decode cX6_digest 41 = .ok (.aload_n 0, 1) := by decide +kernel
theorem dX6_digest_42 : decode cX6_digest 42 = .ok (.getfield 7, 3) := by decide +kernel
theorem dX6_digest_45 : decode cX6_digest 45 = .ok (.iconst 4, 1) := by decide +kernel
theorem dX6_digest_46 : decode cX6_digest 46 = .ok (.iconst 4, 1) := by decide +kernel
theorem dX6_digest_47 : decode cX6_digest 47 = .ok (.invokestatic 279, 3) := by decide +kernel
theorem dX6_digest_50 : decode cX6_digest 50 = .ok (.lstore_n 1, 1) := by decide +kernel
theorem dX6_digest_51 : decode cX6_digest 51 = .ok (.lload_n 1, 1) := by decide +kernel
theorem dX6_digest_52 : decode cX6_digest 52 = .ok (.aload_n 0, 1) := by decide +kernel
theorem dX6_digest_53 : decode cX6_digest 53 = .ok (.getfield 7, 3) := by decide +kernel
theorem dX6_digest_56 : decode cX6_digest 56 = .ok (.bipush 8, 2) := by decide +kernel
theorem dX6_digest_58 : decode cX6_digest 58 = .ok (.bipush 7, 2) := by decide +kernel
theorem dX6_digest_60 : decode cX6_digest 60 = .ok (.invokestatic 279, 3) := by decide +kernel
theorem dX6_digest_63 : decode cX6_digest 63 = .ok (.lstore_n 1, 1) := by decide +kernel
theorem dX6_digest_64 : decode cX6_digest 64 = .ok (.lload_n 1, 1) := by decide +kernel
theorem dX6_digest_65 : decode cX6_digest 65 = .ok (.aload_n 0, 1) := by decide +kernel
theorem dX6_digest_66 : decode cX6_digest 66 = .ok (.getfield 7, 3) := by decide +kernel
theorem dX6_digest_69 : decode cX6_digest 69 = .ok (.bipush 15, 2) := by decide +kernel
theorem dX6_digest_71 : decode cX6_digest 71 = .ok (.iconst 4, 1) := by decide +kernel
theorem dX6_digest_72 : decode cX6_digest 72 = .ok (.invokestatic 279, 3) := by decide +kernel
theorem dX6_digest_75 : decode cX6_digest 75 = .ok (.lstore_n 1, 1) := by decide +kernel
theorem dX6_digest_76 : decode cX6_digest 76 = .ok (.lload_n 1, 1) := by decide +kernel
theorem dX6_digest_77 : decode cX6_digest 77 = .ok (.aload_n 0, 1) := by decide +kernel
theorem dX6_digest_78 : decode cX6_digest 78 = .ok (.getfield 7, 3) := by decide +kernel
theorem dX6_digest_81 : decode cX6_digest 81 = .ok (.bipush 20, 2) := by decide +kernel
theorem dX6_digest_83 : decode cX6_digest 83 = .ok (.iconst 4, 1) := by decide +kernel
theorem dX6_digest_84 : decode cX6_digest 84 = .ok (.aload_n 0, 1) := by decide +kernel
theorem dX6_digest_85 : decode cX6_digest 85 = .ok (.getfield 7, 3) := by decide +kernel
theorem dX6_digest_88 : decode cX6_digest 88 = .ok (.iconst 1, 1) := by decide +kernel
theorem dX6_digest_89 : decode cX6_digest 89 = .ok (.iaload, 1) := by decide +kernel
theorem dX6_digest_90 : decode cX6_digest 90 = .ok (.imul, 1) := by decide +kernel
theorem dX6_digest_91 : decode cX6_digest 91 = .ok (.invokestatic 279, 3) := by decide +kernel
theorem dX6_digest_94 : decode cX6_digest 94 = .ok (.lstore_n 1, 1) := by decide +kernel
theorem dX6_digest_95 : decode cX6_digest 95 = .ok (.lload_n 1, 1) := by decide +kernel
theorem dX6_digest_96 : decode cX6_digest 96 = .ok (.aload_n 0, 1) := by decide +kernel
theorem dX6_digest_97 : decode cX6_digest 97 = .ok (.getfield 7, 3) := by decide +kernel
theorem dX6_digest_100 : decode cX6_digest 100 = .ok (.bipush 60, 2) := by decide +kernel
theorem dX6_digest_102 : decode cX6_digest 102 = .ok (.iconst 3, 1) := by decide +kernel
theorem dX6_digest_103 : decode cX6_digest 103 = .ok (.aload_n 0, 1) := by decide +kernel
theorem dX6_digest_104 : decode cX6_digest 104 = .ok (.getfield 7, 3) := by decide +kernel
theorem dX6_digest_107 : decode cX6_digest 107 = .ok (.iconst 2, 1) := by decide +kernel
theorem dX6_digest_108 : decode cX6_digest 108 = .ok (.iaload, 1) := by decide +kernel
theorem dX6_digest_109 : decode cX6_digest 109 = .ok (.imul, 1) := by decide +kernel
theorem dX6_digest_110 : decode cX6_digest 110 = .ok (.invokestatic 279, 3) := by decide +kernel
theorem dX6_digest_113 : decode cX6_digest 113 = .ok (.lstore_n 1, 1) := by decide +kernel
theorem dX6_digest_114 : decode cX6_digest 114 = .ok (.ldc2_w 275, 3) := by decide +kernel
theorem dX6_digest_117 : decode cX6_digest 117 = .ok (.ldc2_w 275, 3) := by decide +kernel
theorem dX6_digest_120 : decode cX6_digest 120 = .ok (.ldc2_w 275, 3) := by decide +kernel
theorem dX6_digest_123 : decode cX6_digest 123 = .ok (.lload_n 1, 1) := by decide +kernel
theorem dX6_digest_124 : decode cX6_digest 124 = .ok (.lmul, 1) := by decide +kernel
theorem dX6_digest_125 : decode cX6_digest 125 = .ok (.aload_n 0, 1) := by decide +kernel
theorem dX6_digest_126 : decode cX6_digest 126 = .ok (.invokevirtual 93, 3) := by decide +kernel
theorem dX6_digest_129 : decode cX6_digest 129 = .ok (.i2l, 1) := by decide +kernel
theorem dX6_digest_130 : decode cX6_digest 130 = .ok (.ladd, 1) := by decide +kernel
theorem dX6_digest_131 : decode cX6_digest 131 = .ok (.lmul, 1) := by decide +kernel
theorem dX6_digest_132 : decode cX6_digest 132 = .ok (.aload_n 0, 1) := by decide +kernel
theorem dX6_digest_133 : decode cX6_digest 133 = .ok (.getfield 26, 3) := by decide +kernel
theorem dX6_digest_136 : decode cX6_digest 136 = .ok (.iconst 0, 1) := by decide +kernel
theorem dX6_digest_137 : decode cX6_digest 137 = .ok (.iaload, 1) := by decide +kernel
theorem dX6_digest_138 : decode cX6_digest 138 = .ok (.i2l, 1) := by decide +kernel
theorem dX6_digest_139 : decode cX6_digest 139 = .ok (.ladd, 1) := by decide +kernel
theorem dX6_digest_140 : decode cX6_digest 140 = .ok (.lmul, 1) := by decide +kernel
theorem dX6_digest_141 : decode cX6_digest 141 = .ok (.aload_n 0, 1) := by decide +kernel
theorem dX6_digest_142 : decode cX6_digest 142 = .ok (.getfield 26, 3) := by decide +kernel
theorem dX6_digest_145 : decode cX6_digest 145 = .ok (.iconst 1, 1) := by decide +kernel
theorem dX6_digest_146 : decode cX6_digest 146 = .ok (.iaload, 1) := by decide +kernel
theorem dX6_digest_147 : decode cX6_digest 147 = .ok (.i2l, 1) := by decide +kernel
theorem dX6_digest_148 : decode cX6_digest 148 = .ok (.ladd, 1) := by decide +kernel
theorem dX6_digest_149 : decode cX6_digest 149 = .ok (.lstore_n 1, 1) := by decide +kernel
theorem dX6_digest_150 : decode cX6_digest 150 = .ok (.lload_n 1, 1) := by decide +kernel
theorem dX6_digest_151 : decode cX6_digest 151 = .ok (.aload_n 0, 1) := by decide +kernel
theorem dX6_digest_152 : decode cX6_digest 152 = .ok (.getfield 23, 3) := by decide +kernel
theorem dX6_digest_155 : decode cX6_digest 155 = .ok (.iconst 0, 1) := by decide +kernel
theorem dX6_digest_156 : decode cX6_digest 156 = .ok (.aload_n 0, 1) := by decide +kernel
theorem dX6_digest_157 : decode cX6_digest 157 = .ok (.getfield 26, 3) := by decide +kernel
theorem dX6_digest_160 : decode cX6_digest 160 = .ok (.iconst 0, 1) := by decide +kernel
theorem dX6_digest_161 : decode cX6_digest 161 = .ok (.iaload, 1) := by decide +kernel
theorem dX6_digest_162 : decode cX6_digest 162 = .ok (.invokestatic 279, 3) := by decide +kernel
theorem dX6_digest_165 : decode cX6_digest 165 = .ok (.lstore_n 1, 1) := by decide +kernel
theorem dX6_digest_166 : decode cX6_digest 166 = .ok (.lload_n 1, 1) := by decide +kernel
theorem dX6_digest_167 : decode cX6_digest 167 = .ok (.aload_n 0, 1) := by decide +kernel
theorem dX6_digest_168 : decode cX6_digest 168 = .ok (.getfield 23, 3) := by decide +kernel
theorem dX6_digest_171 : decode cX6_digest 171 = .ok (.bipush 12, 2) := by decide +kernel
theorem dX6_digest_173 : decode cX6_digest 173 = .ok (.aload_n 0, 1) := by decide +kernel
theorem dX6_digest_174 : decode cX6_digest 174 = .ok (.getfield 26, 3) := by decide +kernel
theorem dX6_digest_177 : decode cX6_digest 177 = .ok (.iconst 1, 1) := by decide +kernel
theorem dX6_digest_178 : decode cX6_digest 178 = .ok (.iaload, 1) := by decide +kernel
theorem dX6_digest_179 : decode cX6_digest 179 = .ok (.invokestatic 279, 3) := by decide +kernel
theorem dX6_digest_182 : decode cX6_digest 182 = .ok (.lreturn, 1) := by decide +kernel
theorem dJ9_max_7cf53_0 : decode cJ9_max_7cf53 0 = .ok (.iload_n 0, 1) := by decide +kernel
theorem dJ9_max_7cf53_1 : decode cJ9_max_7cf53 1 = .ok (.iload_n 1, 1) := by decide +kernel
theorem dJ9_max_7cf53_2 : decode cJ9_max_7cf53 2 = .ok (.if_icmp .lt 7, 3) := by decide +kernel
theorem dJ9_max_7cf53_5 : decode cJ9_max_7cf53 5 = .ok (.iload_n 0, 1) := by decide +kernel
theorem dJ9_max_7cf53_6 : decode cJ9_max_7cf53 6 = .ok (.goto 4, 3) := by decide +kernel
theorem dJ9_max_7cf53_9 : decode cJ9_max_7cf53 9 = .ok (.iload_n 1, 1) := by decide +kernel
theorem dJ9_max_7cf53_10 : decode cJ9_max_7cf53 10 = .ok (.ireturn, 1) := by decide +kernel
theorem dJ9_max_f86c9_0 : decode cJ9_max_f86c9 0 = .ok (.lload_n 0, 1) := by decide +kernel
theorem dJ9_max_f86c9_1 : decode cJ9_max_f86c9 1 = .ok (.lload_n 2, 1) := by decide +kernel
theorem dJ9_max_f86c9_2 : decode cJ9_max_f86c9 2 = .ok (.lcmp, 1) := by decide +kernel
theorem dJ9_max_f86c9_3 : decode cJ9_max_f86c9 3 = .ok (.ifCond .lt 7, 3) := by decide +kernel
theorem dJ9_max_f86c9_6 : decode cJ9_max_f86c9 6 = .ok (.lload_n 0, 1) := by decide +kernel
theorem dJ9_max_f86c9_7 : decode cJ9_max_f86c9 7 = .ok (.goto 4, 3) := by decide +kernel
theorem dJ9_max_f86c9_10 : decode cJ9_max_f86c9 10 = .ok (.lload_n 2, 1) := by decide +kernel
theorem dJ9_max_f86c9_11 : decode cJ9_max_f86c9 11 = .ok (.lreturn, 1) := by decide +kernel
theorem dJ9_min_7cf53_0 : decode cJ9_min_7cf53 0 = .ok (.iload_n 0, 1) := by decide +kernel
theorem dJ9_min_7cf53_1 : decode cJ9_min_7cf53 1 = .ok (.iload_n 1, 1) := by decide +kernel
theorem dJ9_min_7cf53_2 : decode cJ9_min_7cf53 2 = .ok (.if_icmp .gt 7, 3) := by decide +kernel
theorem dJ9_min_7cf53_5 : decode cJ9_min_7cf53 5 = .ok (.iload_n 0, 1) := by decide +kernel
theorem dJ9_min_7cf53_6 : decode cJ9_min_7cf53 6 = .ok (.goto 4, 3) := by decide +kernel
theorem dJ9_min_7cf53_9 : decode cJ9_min_7cf53 9 = .ok (.iload_n 1, 1) := by decide +kernel
theorem dJ9_min_7cf53_10 : decode cJ9_min_7cf53 10 = .ok (.ireturn, 1) := by decide +kernel
set_option maxRecDepth 20000 in
theorem ggJ0_length_8abf5_J0_coder_7d493 : GoodIn wsJ0_length_8abf5 wsJ0_coder_7d493 := goodIn_r _ [6, 7, 8] (by decide +kernel) (by decide +kernel)
set_option maxRecDepth 20000 in
theorem gJ0_length_8abf5_J0_coder_7d493 : GoodIn wsJ0_length_8abf5 (wsV RJ0 335 RJ0 yJ0_coder_7d493 wsJ0_coder_7d493) := goodIn_app (goodIn_of _ (by decide +kernel)) ggJ0_length_8abf5_J0_coder_7d493
theorem dJ0_length_8abf5_0 : decode cJ0_length_8abf5 0 = .ok (.aload_n 0, 1) := by decide +kernel
theorem dJ0_length_8abf5_1 : decode cJ0_length_8abf5 1 = .ok (.getfield 9, 3) := by decide +kernel
theorem dJ0_length_8abf5_4 : decode cJ0_length_8abf5 4 = .ok (.arraylength, 1) := by decide +kernel
theorem dJ0_length_8abf5_5 : decode cJ0_length_8abf5 5 = .ok (.aload_n 0, 1) := by decide +kernel
theorem dJ0_length_8abf5_6 : decode cJ0_length_8abf5 6 = .ok (.invokevirtual 335, 3) := by decide +kernel
theorem dJ0_length_8abf5_9 : decode cJ0_length_8abf5 9 = .ok (.ishr, 1) := by decide +kernel
theorem dJ0_length_8abf5_10 : decode cJ0_length_8abf5 10 = .ok (.ireturn, 1) := by decide +kernel
set_option maxRecDepth 20000 in
theorem ggJ0_charAt_5068e_J0_isLatin1_aae02 : GoodIn wsJ0_charAt_5068e wsJ0_isLatin1_aae02 := goodIn_r _ [6, 7, 8] (by decide +kernel) (by decide +kernel)
set_option maxRecDepth 20000 in
theorem gJ0_charAt_5068e_J0_isLatin1_aae02 : GoodIn wsJ0_charAt_5068e (wsV RJ0 492 RJ0 yJ0_isLatin1_aae02 wsJ0_isLatin1_aae02) := goodIn_app (goodIn_of _ (by decide +kernel)) ggJ0_charAt_5068e_J0_isLatin1_aae02
set_option maxRecDepth 20000 in
theorem ggJ0_charAt_5068e_J1_charAt_3b067 : GoodIn wsJ0_charAt_5068e wsJ1_charAt_3b067 := goodIn_r _ [12, 13, 14, 5, 15, 16, 17, 18, 19, 20] (by decide +kernel) (by decide +kernel)
set_option maxRecDepth 20000 in
theorem gJ0_charAt_5068e_J1_charAt_3b067 : GoodIn wsJ0_charAt_5068e (va_wsS RJ0 495 yJ1_charAt_3b067 wsJ1_charAt_3b067) := goodIn_app (goodIn_of _ (by decide +kernel)) ggJ0_charAt_5068e_J1_charAt_3b067
set_option maxRecDepth 20000 in
theorem ggJ0_charAt_5068e_J2_charAt_3b067 : GoodIn wsJ0_charAt_5068e wsJ2_charAt_3b067 := goodIn_r _ [24, 25, 26, 23, 27, 28, 29, 30, 31, 14, 5, 15, 16, 17, 18, 19, 20, 32, 33, 34, 35, 36, 37] (by decide +kernel) (by decide +kernel)
set_option maxRecDepth 20000 in
theorem gJ0_charAt_5068e_J2_charAt_3b067 : GoodIn wsJ0_charAt_5068e (va_wsS RJ0 498 yJ2_charAt_3b067 wsJ2_charAt_3b067) := goodIn_app (goodIn_of _ (by decide +kernel)) ggJ0_charAt_5068e_J2_charAt_3b067
theorem dJ0_charAt_5068e_0 : decode cJ0_charAt_5068e 0 = .ok (.aload_n 0, 1) := by decide +kernel
theorem dJ0_charAt_5068e_1 : decode cJ0_charAt_5068e 1 = .ok (.invokevirtual 492, 3) := by decide +kernel
theorem dJ0_charAt_5068e_4 : decode cJ0_charAt_5068e 4 = .ok (.ifCond .eq 12, 3) := by decide +kernel
theorem dJ0_charAt_5068e_7 : decode cJ0_charAt_5068e 7 = .ok (.aload_n 0, 1) := by decide +kernel
theorem dJ0_charAt_5068e_8 : decode cJ0_charAt_5068e 8 = .ok (.getfield 9, 3) := by decide +kernel
theorem dJ0_charAt_5068e_11 : decode cJ0_charAt_5068e 11 = .ok (.iload_n 1, 1) := by decide +kernel
theorem dJ0_charAt_5068e_12 : decode cJ0_charAt_5068e 12 = .ok (.invokestatic 495, 3) := by decide +kernel
theorem dJ0_charAt_5068e_15 : decode cJ0_charAt_5068e 15 = .ok (.ireturn, 1) := by decide +kernel
theorem dJ0_charAt_5068e_16 : decode cJ0_charAt_5068e 16 = .ok (.aload_n 0, 1) := by decide +kernel
theorem dJ0_charAt_5068e_17 : decode cJ0_charAt_5068e 17 = .ok (.getfield 9, 3) := by decide +kernel
theorem dJ0_charAt_5068e_20 : decode cJ0_charAt_5068e 20 = .ok (.iload_n 1, 1) := by decide +kernel
theorem dJ0_charAt_5068e_21 : decode cJ0_charAt_5068e 21 = .ok (.invokestatic 498, 3) := by decide +kernel
theorem dJ0_charAt_5068e_24 : decode cJ0_charAt_5068e 24 = .ok (.ireturn, 1) := by decide +kernel
theorem dJ0_coder_7d493_0 : decode cJ0_coder_7d493 0 = .ok (.getstatic 38, 3) := by decide +kernel
theorem dJ0_coder_7d493_3 : decode cJ0_coder_7d493 3 = .ok (.ifCond .eq 10, 3) := by decide +kernel
theorem dJ0_coder_7d493_6 : decode cJ0_coder_7d493 6 = .ok (.aload_n 0, 1) := by decide +kernel
theorem dJ0_coder_7d493_7 : decode cJ0_coder_7d493 7 = .ok (.getfield 15, 3) := by decide +kernel
theorem dJ0_coder_7d493_10 : decode cJ0_coder_7d493 10 = .ok (.goto 4, 3) := by decide +kernel
theorem dJ0_coder_7d493_13 : decode cJ0_coder_7d493 13 = .ok (.iconst 1, 1) := by decide +kernel
theorem dJ0_coder_7d493_14 : decode cJ0_coder_7d493 14 = .ok (.ireturn, 1) := by decide +kernel
theorem dJ0_isLatin1_aae02_0 : decode cJ0_isLatin1_aae02 0 = .ok (.getstatic 38, 3) := by decide +kernel
theorem dJ0_isLatin1_aae02_3 : decode cJ0_isLatin1_aae02 3 = .ok (.ifCond .eq 14, 3) := by decide +kernel
theorem dJ0_isLatin1_aae02_6 : decode cJ0_isLatin1_aae02 6 = .ok (.aload_n 0, 1) := by decide +kernel
theorem dJ0_isLatin1_aae02_7 : decode cJ0_isLatin1_aae02 7 = .ok (.getfield 15, 3) := by decide +kernel
theorem dJ0_isLatin1_aae02_10 : decode cJ0_isLatin1_aae02 10 = .ok (.ifCond .ne 7, 3) := by decide +kernel
theorem dJ0_isLatin1_aae02_13 : decode cJ0_isLatin1_aae02 13 = .ok (.iconst 1, 1) := by decide +kernel
theorem dJ0_isLatin1_aae02_14 : decode cJ0_isLatin1_aae02 14 = .ok (.goto 4, 3) := by decide +kernel
theorem dJ0_isLatin1_aae02_17 : decode cJ0_isLatin1_aae02 17 = .ok (.iconst 0, 1) := by decide +kernel
theorem dJ0_isLatin1_aae02_18 : decode cJ0_isLatin1_aae02 18 = .ok (.ireturn, 1) := by decide +kernel
set_option maxRecDepth 20000 in
theorem ggJ0_checkIndex_df160_J3_checkIndex_8e157 : GoodIn wsJ0_checkIndex_df160 wsJ3_checkIndex_8e157 := goodIn_r _ [5] (by decide +kernel) (by decide +kernel)
set_option maxRecDepth 20000 in
theorem gJ0_checkIndex_df160_J3_checkIndex_8e157 : GoodIn wsJ0_checkIndex_df160 (va_wsS RJ0 1059 yJ3_checkIndex_8e157 wsJ3_checkIndex_8e157) := goodIn_app (goodIn_of _ (by decide +kernel)) ggJ0_checkIndex_df160_J3_checkIndex_8e157
theorem dJ0_checkIndex_df160_0 : decode cJ0_checkIndex_df160 0 = .ok (.iload_n 0, 1) := by decide +kernel
theorem dJ0_checkIndex_df160_1 : decode cJ0_checkIndex_df160 1 = .ok (.iload_n 1, 1) := by decide +kernel
theorem dJ0_checkIndex_df160_2 : decode cJ0_checkIndex_df160 2 = .ok (.getstatic 1053, 3) := by decide +kernel
theorem dJ0_checkIndex_df160_5 : decode cJ0_checkIndex_df160 5 = .ok (.invokestatic 1059, 3) := by decide +kernel
theorem dJ0_checkIndex_df160_8 : decode cJ0_checkIndex_df160 8 = .ok (.pop, 1) := by decide +kernel
theorem dJ0_checkIndex_df160_9 : decode cJ0_checkIndex_df160 9 = .ok (.return_, 1) := by decide +kernel
set_option maxRecDepth 20000 in
theorem ggJ1_charAt_3b067_J0_checkIndex_df160 : GoodIn wsJ1_charAt_3b067 wsJ0_checkIndex_df160 := goodIn_r _ [4, 5, 6, 7, 8, 9] (by decide +kernel) (by decide +kernel)
set_option maxRecDepth 20000 in
theorem gJ1_charAt_3b067_J0_checkIndex_df160 : GoodIn wsJ1_charAt_3b067 (va_wsS RJ1 9 yJ0_checkIndex_df160 wsJ0_checkIndex_df160) := goodIn_app (goodIn_of _ (by decide +kernel)) ggJ1_charAt_3b067_J0_checkIndex_df160
theorem dJ1_charAt_3b067_0 : decode cJ1_charAt_3b067 0 = .ok (.iload_n 1, 1) := by decide +kernel
theorem dJ1_charAt_3b067_1 : decode cJ1_charAt_3b067 1 = .ok (.aload_n 0, 1) := by decide +kernel
theorem dJ1_charAt_3b067_2 : decode cJ1_charAt_3b067 2 = .ok (.arraylength, 1) := by decide +kernel
theorem dJ1_charAt_3b067_3 : decode cJ1_charAt_3b067 3 = .ok (.invokestatic 9, 3) := by decide +kernel
theorem dJ1_charAt_3b067_6 : decode cJ1_charAt_3b067 6 = .ok (.aload_n 0, 1) := by decide +kernel
theorem dJ1_charAt_3b067_7 : decode cJ1_charAt_3b067 7 = .ok (.iload_n 1, 1) := by decide +kernel
theorem dJ1_charAt_3b067_8 : decode cJ1_charAt_3b067 8 = .ok (.baload, 1) := by decide +kernel
theorem dJ1_charAt_3b067_9 : decode cJ1_charAt_3b067 9 = .ok (.sipush 255, 3) := by decide +kernel
theorem dJ1_charAt_3b067_12 : decode cJ1_charAt_3b067 12 = .ok (.iand, 1) := by decide +kernel
theorem dJ1_charAt_3b067_13 : decode cJ1_charAt_3b067 13 = .ok (.i2c, 1) := by decide +kernel
theorem dJ1_charAt_3b067_14 : decode cJ1_charAt_3b067 14 = .ok (.ireturn, 1) := by decide +kernel
set_option maxRecDepth 20000 in
theorem ggJ2_getChar_3b067_J2_length_9d52b : GoodIn wsJ2_getChar_3b067 wsJ2_length_9d52b := goodIn_r _ [7] (by decide +kernel) (by decide +kernel)
set_option maxRecDepth 20000 in
theorem gJ2_getChar_3b067_J2_length_9d52b : GoodIn wsJ2_getChar_3b067 (va_wsS RJ2 48 yJ2_length_9d52b wsJ2_length_9d52b) := goodIn_app (goodIn_of _ (by decide +kernel)) ggJ2_getChar_3b067_J2_length_9d52b
theorem dJ2_getChar_3b067_0 : decode cJ2_getChar_3b067 0 = .ok (.getstatic 44, 3) := by decide +kernel
theorem dJ2_getChar_3b067_3 : decode cJ2_getChar_3b067 3 = .ok (.ifCond .ne 25, 3) := by decide +kernel
theorem dJ2_getChar_3b067_6 : decode cJ2_getChar_3b067 6 = .ok (.iload_n 1, 1) := by decide +kernel
theorem dJ2_getChar_3b067_7 : decode cJ2_getChar_3b067 7 = .ok (.ifCond .lt 11, 3) := by decide +kernel
theorem dJ2_getChar_3b067_10 : decode cJ2_getChar_3b067 10 = .ok (.iload_n 1, 1) := by decide +kernel
theorem dJ2_getChar_3b067_11 : decode cJ2_getChar_3b067 11 = .ok (.aload_n 0, 1) := by decide +kernel
theorem dJ2_getChar_3b067_12 : decode cJ2_getChar_3b067 12 = .ok (.invokestatic 48, 3) := by decide +kernel
theorem dJ2_getChar_3b067_15 : decode cJ2_getChar_3b067 15 = .ok (.if_icmp .lt 13, 3) := by decide +kernel
theorem dJ2_getChar_3b067_18 : decode cJ2_getChar_3b067 18 = .ok (.new 52, 3) := by decide +kernel
theorem dJ2_getChar_3b067_21 : decode cJ2_getChar_3b067 21 = .ok (.dup, 1) := by decide +kernel
theorem dJ2_getChar_3b067_22 : decode cJ2_getChar_3b067 22 = .ok (.ldc 54, 2) := by decide +kernel
theorem dJ2_getChar_3b067_24 : decode cJ2_getChar_3b067 24 = .ok (.invokespecial 56, 3) := by decide +kernel
theorem dJ2_getChar_3b067_27 : decode cJ2_getChar_3b067 27 = .ok (.athrow, 1) := by decide +kernel
theorem dJ2_getChar_3b067_28 : decode cJ2_getChar_3b067 28 = .ok (.iload_n 1, 1) := by decide +kernel
theorem dJ2_getChar_3b067_29 : decode cJ2_getChar_3b067 29 = .ok (.iconst 1, 1) := by decide +kernel
theorem dJ2_getChar_3b067_30 : decode cJ2_getChar_3b067 30 = .ok (.ishl, 1) := by decide +kernel
theorem dJ2_getChar_3b067_31 : decode cJ2_getChar_3b067 31 = .ok (.istore_n 1, 1) := by decide +kernel
theorem dJ2_getChar_3b067_32 : decode cJ2_getChar_3b067 32 = .ok (.aload_n 0, 1) := by decide +kernel
theorem dJ2_getChar_3b067_33 : decode cJ2_getChar_3b067 33 = .ok (.iload_n 1, 1) := by decide +kernel
theorem dJ2_getChar_3b067_34 : decode cJ2_getChar_3b067 34 = .ok (.iinc 1 1, 3) := by decide +kernel
theorem dJ2_getChar_3b067_37 : decode cJ2_getChar_3b067 37 = .ok (.baload, 1) := by decide +kernel
theorem dJ2_getChar_3b067_38 : decode cJ2_getChar_3b067 38 = .ok (.sipush 255, 3) := by decide +kernel
theorem dJ2_getChar_3b067_41 : decode cJ2_getChar_3b067 41 = .ok (.iand, 1) := by decide +kernel
theorem dJ2_getChar_3b067_42 : decode cJ2_getChar_3b067 42 = .ok (.getstatic 59, 3) := by decide +kernel
theorem dJ2_getChar_3b067_45 : decode cJ2_getChar_3b067 45 = .ok (.ishl, 1) := by decide +kernel
theorem dJ2_getChar_3b067_46 : decode cJ2_getChar_3b067 46 = .ok (.aload_n 0, 1) := by decide +kernel
theorem dJ2_getChar_3b067_47 : decode cJ2_getChar_3b067 47 = .ok (.iload_n 1, 1) := by decide +kernel
theorem dJ2_getChar_3b067_48 : decode cJ2_getChar_3b067 48 = .ok (.baload, 1) := by decide +kernel
theorem dJ2_getChar_3b067_49 : decode cJ2_getChar_3b067 49 = .ok (.sipush 255, 3) := by decide +kernel
theorem dJ2_getChar_3b067_52 : decode cJ2_getChar_3b067 52 = .ok (.iand, 1) := by decide +kernel
theorem dJ2_getChar_3b067_53 : decode cJ2_getChar_3b067 53 = .ok (.getstatic 63, 3) := by decide +kernel
theorem dJ2_getChar_3b067_56 : decode cJ2_getChar_3b067 56 = .ok (.ishl, 1) := by decide +kernel
theorem dJ2_getChar_3b067_57 : decode cJ2_getChar_3b067 57 = .ok (.ior, 1) := by decide +kernel
theorem dJ2_getChar_3b067_58 : decode cJ2_getChar_3b067 58 = .ok (.i2c, 1) := by decide +kernel
theorem dJ2_getChar_3b067_59 : decode cJ2_getChar_3b067 59 = .ok (.ireturn, 1) := by decide +kernel
theorem dJ2_length_9d52b_0 : decode cJ2_length_9d52b 0 = .ok (.aload_n 0, 1) := by decide +kernel
theorem dJ2_length_9d52b_1 : decode cJ2_length_9d52b 1 = .ok (.arraylength, 1) := by decide +kernel
theorem dJ2_length_9d52b_2 : decode cJ2_length_9d52b 2 = .ok (.iconst 1, 1) := by decide +kernel
theorem dJ2_length_9d52b_3 : decode cJ2_length_9d52b 3 = .ok (.ishr, 1) := by decide +kernel
theorem dJ2_length_9d52b_4 : decode cJ2_length_9d52b 4 = .ok (.ireturn, 1) := by decide +kernel
set_option maxRecDepth 20000 in
theorem ggJ2_charAt_3b067_J2_checkIndex_2214a : GoodIn wsJ2_charAt_3b067 wsJ2_checkIndex_2214a := goodIn_r _ [4, 5, 6, 3, 7, 8, 9, 10, 11, 12, 13, 14, 15, 16] (by decide +kernel) (by decide +kernel)
set_option maxRecDepth 20000 in
theorem gJ2_charAt_3b067_J2_checkIndex_2214a : GoodIn wsJ2_charAt_3b067 (va_wsS RJ2 67 yJ2_checkIndex_2214a wsJ2_checkIndex_2214a) := goodIn_app (goodIn_of _ (by decide +kernel)) ggJ2_charAt_3b067_J2_checkIndex_2214a
set_option maxRecDepth 20000 in
theorem ggJ2_charAt_3b067_J2_getChar_3b067 : GoodIn wsJ2_charAt_3b067 wsJ2_getChar_3b067 := goodIn_r _ [19, 20, 21, 22, 5, 6, 3, 7] (by decide +kernel) (by decide +kernel)
set_option maxRecDepth 20000 in
theorem gJ2_charAt_3b067_J2_getChar_3b067 : GoodIn wsJ2_charAt_3b067 (va_wsS RJ2 71 yJ2_getChar_3b067 wsJ2_getChar_3b067) := goodIn_app (goodIn_of _ (by decide +kernel)) ggJ2_charAt_3b067_J2_getChar_3b067
theorem dJ2_charAt_3b067_0 : decode cJ2_charAt_3b067 0 = .ok (.iload_n 1, 1) := by decide +kernel
theorem dJ2_charAt_3b067_1 : decode cJ2_charAt_3b067 1 = .ok (.aload_n 0, 1) := by decide +kernel
theorem dJ2_charAt_3b067_2 : decode cJ2_charAt_3b067 2 = .ok (.invokestatic 67, 3) := by decide +kernel
theorem dJ2_charAt_3b067_5 : decode cJ2_charAt_3b067 5 = .ok (.aload_n 0, 1) := by decide +kernel
theorem dJ2_charAt_3b067_6 : decode cJ2_charAt_3b067 6 = .ok (.iload_n 1, 1) := by decide +kernel
theorem dJ2_charAt_3b067_7 : decode cJ2_charAt_3b067 7 = .ok (.invokestatic 71, 3) := by decide +kernel
theorem dJ2_charAt_3b067_10 : decode cJ2_charAt_3b067 10 = .ok (.ireturn, 1) := by decide +kernel
set_option maxRecDepth 20000 in
theorem ggJ2_checkIndex_2214a_J2_length_9d52b : GoodIn wsJ2_checkIndex_2214a wsJ2_length_9d52b := goodIn_r _ [4] (by decide +kernel) (by decide +kernel)
set_option maxRecDepth 20000 in
theorem gJ2_checkIndex_2214a_J2_length_9d52b : GoodIn wsJ2_checkIndex_2214a (va_wsS RJ2 48 yJ2_length_9d52b wsJ2_length_9d52b) := goodIn_app (goodIn_of _ (by decide +kernel)) ggJ2_checkIndex_2214a_J2_length_9d52b
set_option maxRecDepth 20000 in
theorem ggJ2_checkIndex_2214a_J0_checkIndex_df160 : GoodIn wsJ2_checkIndex_2214a wsJ0_checkIndex_df160 := goodIn_r _ [8, 9, 10, 11, 12, 13] (by decide +kernel) (by decide +kernel)
set_option maxRecDepth 20000 in
theorem gJ2_checkIndex_2214a_J0_checkIndex_df160 : GoodIn wsJ2_checkIndex_2214a (va_wsS RJ2 414 yJ0_checkIndex_df160 wsJ0_checkIndex_df160) := goodIn_app (goodIn_of _ (by decide +kernel)) ggJ2_checkIndex_2214a_J0_checkIndex_df160
theorem dJ2_checkIndex_2214a_0 : decode cJ2_checkIndex_2214a 0 = .ok (.iload_n 0, 1) := by decide +kernel
theorem dJ2_checkIndex_2214a_1 : decode cJ2_checkIndex_2214a 1 = .ok (.aload_n 1, 1) := by decide +kernel
theorem dJ2_checkIndex_2214a_2 : decode cJ2_checkIndex_2214a 2 = .ok (.invokestatic 48, 3) := by decide +kernel
theorem dJ2_checkIndex_2214a_5 : decode cJ2_checkIndex_2214a 5 = .ok (.invokestatic 414, 3) := by decide +kernel
theorem dJ2_checkIndex_2214a_8 : decode cJ2_checkIndex_2214a 8 = .ok (.return_, 1) := by decide +kernel
theorem dJ7_fill_d0a16_0 : decode cJ7_fill_d0a16 0 = .ok (.iconst 0, 1) := by decide +kernel
theorem dJ7_fill_d0a16_1 : decode cJ7_fill_d0a16 1 = .ok (.istore_n 3, 1) := by decide +kernel
theorem dJ7_fill_d0a16_2 : decode cJ7_fill_d0a16 2 = .ok (.aload_n 0, 1) := by decide +kernel
theorem dJ7_fill_d0a16_3 : decode cJ7_fill_d0a16 3 = .ok (.arraylength, 1) := by decide +kernel
theorem dJ7_fill_d0a16_4 : decode cJ7_fill_d0a16 4 = .ok (.istore 4, 2) := by decide +kernel
theorem dJ7_fill_d0a16_6 : decode cJ7_fill_d0a16 6 = .ok (.iload_n 3, 1) := by decide +kernel
theorem dJ7_fill_d0a16_7 : decode cJ7_fill_d0a16 7 = .ok (.iload 4, 2) := by decide +kernel
theorem dJ7_fill_d0a16_9 : decode cJ7_fill_d0a16 9 = .ok (.if_icmp .ge 13, 3) := by decide +kernel
theorem dJ7_fill_d0a16_12 : decode cJ7_fill_d0a16 12 = .ok (.aload_n 0, 1) := by decide +kernel
theorem dJ7_fill_d0a16_13 : decode cJ7_fill_d0a16 13 = .ok (.iload_n 3, 1) := by decide +kernel
theorem dJ7_fill_d0a16_14 : decode cJ7_fill_d0a16 14 = .ok (.lload_n 1, 1) := by decide +kernel
theorem dJ7_fill_d0a16_15 : decode cJ7_fill_d0a16 15 = .ok (.lastore, 1) := by decide +kernel
theorem dJ7_fill_d0a16_16 : decode cJ7_fill_d0a16 16 = .ok (.iinc 3 1, 3) := by decide +kernel
theorem dJ7_fill_d0a16_19 : decode cJ7_fill_d0a16 19 = .ok (.goto (-13), 3) := by decide +kernel
theorem dJ7_fill_d0a16_22 : decode cJ7_fill_d0a16 22 = .ok (.return_, 1) := by decide +kernel
theorem dJ3_checkIndex_8e157_0 : decode cJ3_checkIndex_8e157 0 = .ok (.iload_n 0, 1) := by decide +kernel
theorem dJ3_checkIndex_8e157_1 : decode cJ3_checkIndex_8e157 1 = .ok (.ifCond .lt 8, 3) := by decide +kernel
theorem dJ3_checkIndex_8e157_4 : decode cJ3_checkIndex_8e157 4 = .ok (.iload_n 0, 1) := by decide +kernel
theorem dJ3_checkIndex_8e157_5 : decode cJ3_checkIndex_8e157 5 = .ok (.iload_n 1, 1) := by decide +kernel
theorem dJ3_checkIndex_8e157_6 : decode cJ3_checkIndex_8e157 6 = .ok (.if_icmp .lt 10, 3) := by decide +kernel
theorem dJ3_checkIndex_8e157_9 : decode cJ3_checkIndex_8e157 9 = .ok (.aload_n 2, 1) := by decide +kernel
theorem dJ3_checkIndex_8e157_10 : decode cJ3_checkIndex_8e157 10 = .ok (.iload_n 0, 1) := by decide +kernel
theorem dJ3_checkIndex_8e157_11 : decode cJ3_checkIndex_8e157 11 = .ok (.iload_n 1, 1) := by decide +kernel
theorem dJ3_checkIndex_8e157_12 : decode cJ3_checkIndex_8e157 12 = .ok (.invokestatic 95, 3) := by decide +kernel
theorem dJ3_checkIndex_8e157_15 : decode cJ3_checkIndex_8e157 15 = .ok (.athrow, 1) := by decide +kernel
theorem dJ3_checkIndex_8e157_16 : decode cJ3_checkIndex_8e157 16 = .ok (.iload_n 0, 1) := by decide +kernel
theorem dJ3_checkIndex_8e157_17 : decode cJ3_checkIndex_8e157 17 = .ok (.ireturn, 1) := by decide +kernel
set_option maxRecDepth 20000 in
theorem ggL_law_X5_init : GoodIn wsL_law wsX5_init := goodIn_r _ [9, 10, 11, 12, 13, 14, 15, 16, 17, 18, 19, 20, 21, 22, 23, 24, 25, 26, 27, 28, 29, 30, 31, 32, 33, 34, 35, 36, 37, 38, 39, 40, 41, 42, 43, 44, 45, 46, 47, 48, 49, 50, 51, 52, 53, 54, 55, 56, 57, 58, 59, 60, 61, 62, 63, 64, 65, 66, 67, 68, 69, 70, 71, 72, 73, 74, 946, 947, 948, 949, 950, 951, 952, 953, 954, 911, 912, 913, 914, 915, 916, 917, 918, 919, 955, 956, 957, 958, 959, 960, 961, 962, 963, 964, 965, 966, 967, 968, 969, 970, 971, 972, 973, 974, 975] (by decide +kernel) (by decide +kernel)
set_option maxRecDepth 20000 in
theorem gL_law_X5_init : GoodIn wsL_law (wsX5_init) := ggL_law_X5_init
set_option maxRecDepth 20000 in
theorem ggL_law_X6_init : GoodIn wsL_law wsX6_init := goodIn_r _ [77, 78, 11, 12, 34, 79, 80, 81, 82, 83, 84, 85, 86, 87, 88, 89, 59, 90, 91, 92, 93, 94, 95, 96, 5, 97, 98, 99, 100, 101, 102, 920, 921, 922, 923, 924, 925, 926, 927, 928, 929, 930, 931, 932, 933, 934, 935, 936, 937, 938, 939, 940, 941, 942, 943, 944, 945] (by decide +kernel) (by decide +kernel)
set_option maxRecDepth 20000 in
theorem gL_law_X6_init : GoodIn wsL_law (wsX6_init) := ggL_law_X6_init
set_option maxRecDepth 20000 in
theorem ggL_law_X5_type : GoodIn wsL_law wsX5_type := goodIn_r _ [106, 16, 107, 108, 109, 110, 111, 2, 112, 35, 113, 114, 115, 116, 117, 118, 119, 120, 121, 122, 123, 36, 37, 911, 912, 913, 914, 915, 916, 917, 918, 919, 946, 947, 948, 949, 950, 951, 952, 953, 954] (by decide +kernel) (by decide +kernel)
set_option maxRecDepth 20000 in
theorem gL_law_X5_type : GoodIn wsL_law (wsV RL 15 RX5 yX5_type wsX5_type) := goodIn_app (goodIn_of _ (by decide +kernel)) ggL_law_X5_type
set_option maxRecDepth 20000 in
theorem ggL_law_X6_type : GoodIn wsL_law wsX6_type := goodIn_r _ [127, 128, 79, 129, 130, 131, 5, 132, 133, 134, 135, 136, 137, 138, 139, 140, 83, 141, 142, 143, 144, 920, 921, 922, 923, 924, 925, 926, 927, 928, 929, 930, 931, 932, 933, 934, 935, 936, 937, 938, 939, 940, 941, 942, 943, 944, 945] (by decide +kernel) (by decide +kernel)
set_option maxRecDepth 20000 in
theorem gL_law_X6_type : GoodIn wsL_law (wsV RL 19 RX6 yX6_type wsX6_type) := goodIn_app (goodIn_of _ (by decide +kernel)) ggL_law_X6_type
set_option maxRecDepth 20000 in
theorem ggL_law_X5_clear : GoodIn wsL_law wsX5_clear := goodIn_r _ [148, 16, 107, 120, 121, 122, 2, 123, 36, 37, 911, 912, 913, 914, 915, 916, 917, 918, 919, 946, 947, 948, 949, 950, 951, 952, 953, 954] (by decide +kernel) (by decide +kernel)
set_option maxRecDepth 20000 in
theorem gL_law_X5_clear : GoodIn wsL_law (wsV RL 20 RX5 yX5_clear wsX5_clear) := goodIn_app (goodIn_of _ (by decide +kernel)) ggL_law_X5_clear
set_option maxRecDepth 20000 in
theorem ggL_law_X6_clear : GoodIn wsL_law wsX6_clear := goodIn_r _ [152, 153, 154, 155, 5, 156, 79, 920, 921, 922, 923, 924, 925, 926, 927, 928, 929, 930, 931, 932, 933, 934, 935, 936, 937, 938, 939, 940, 941, 942, 943, 944, 945] (by decide +kernel) (by decide +kernel)
set_option maxRecDepth 20000 in
theorem gL_law_X6_clear : GoodIn wsL_law (wsV RL 24 RX6 yX6_clear wsX6_clear) := goodIn_app (goodIn_of _ (by decide +kernel)) ggL_law_X6_clear
set_option maxRecDepth 20000 in
theorem ggL_law_X5_faulty : GoodIn wsL_law wsX5_faulty := goodIn_r _ [160, 21, 161, 162, 163, 164, 2, 165, 36, 16, 108, 107, 166, 167, 168, 169, 20, 170, 50, 171, 172, 173, 174, 175, 176, 177, 178, 179, 180, 181, 182, 183, 184, 185, 186, 187, 188, 189, 190, 191, 192, 193, 194, 195, 196, 197, 198, 199, 200, 201, 202, 203, 204, 205, 206, 207, 208, 209, 210, 211, 212, 213, 214, 215, 216, 217, 218, 219, 220, 221, 222, 223, 224, 225, 226, 227, 228, 229, 230, 231, 232, 233, 234, 235, 236, 237, 238, 239, 240, 241, 242, 243, 244, 245, 246, 247, 248, 249, 250, 251, 52, 53, 118, 119, 252, 253, 254, 255, 256, 257, 258, 259, 54, 260, 261, 262, 263, 264, 265, 266, 267, 51, 268, 269, 270, 911, 912, 913, 914, 915, 916, 917, 918, 919, 955, 956, 957, 958, 959, 960, 961, 962, 963, 946, 947, 948, 949, 950, 951, 952, 953, 954] (by decide +kernel) (by decide +kernel)
set_option maxRecDepth 20000 in
theorem gL_law_X5_faulty : GoodIn wsL_law (wsV RL 25 RX5 yX5_faulty wsX5_faulty) := goodIn_app (goodIn_of _ (by decide +kernel)) ggL_law_X5_faulty
set_option maxRecDepth 20000 in
theorem ggL_law_X6_faulty : GoodIn wsL_law wsX6_faulty := goodIn_r _ [274, 275, 276, 277, 278, 5, 279, 280, 281, 282, 283, 284, 285, 86, 87, 286, 287, 288, 289, 79, 290, 291, 292, 293, 294, 295, 130, 131, 132, 296, 297, 298, 299, 300, 301, 302, 920, 921, 922, 923, 924, 925, 926, 927, 928, 929, 930, 931, 932, 933, 934, 935, 936, 937, 938, 939, 940, 941, 942, 943, 944, 945] (by decide +kernel) (by decide +kernel)
set_option maxRecDepth 20000 in
theorem gL_law_X6_faulty : GoodIn wsL_law (wsV RL 28 RX6 yX6_faulty wsX6_faulty) := goodIn_app (goodIn_of _ (by decide +kernel)) ggL_law_X6_faulty
set_option maxRecDepth 20000 in
theorem ggL_law_X5_minutes : GoodIn wsL_law wsX5_minutes := goodIn_r _ [306, 21, 307, 308, 309, 310, 2, 311, 161, 162, 163, 164, 165, 36, 16, 108, 107, 166, 167, 168, 169, 20, 170, 50, 171, 172, 173, 174, 175, 176, 177, 178, 179, 180, 181, 182, 183, 184, 185, 186, 187, 188, 189, 190, 191, 192, 193, 194, 195, 196, 197, 198, 199, 200, 201, 202, 203, 204, 205, 206, 207, 208, 209, 210, 211, 212, 213, 214, 215, 216, 217, 218, 219, 220, 221, 222, 223, 224, 225, 226, 227, 228, 229, 230, 231, 232, 233, 234, 235, 236, 237, 238, 239, 240, 241, 242, 243, 244, 245, 246, 247, 248, 249, 250, 251, 52, 53, 118, 119, 252, 253, 254, 255, 256, 257, 258, 259, 54, 260, 261, 262, 263, 264, 265, 266, 267, 51, 268, 269, 270, 312, 313, 314, 315, 35, 911, 912, 913, 914, 915, 916, 917, 918, 919, 955, 956, 957, 958, 959, 960, 961, 962, 963, 946, 947, 948, 949, 950, 951, 952, 953, 954] (by decide +kernel) (by decide +kernel)
set_option maxRecDepth 20000 in
theorem gL_law_X5_minutes : GoodIn wsL_law (wsV RL 29 RX5 yX5_minutes wsX5_minutes) := goodIn_app (goodIn_of _ (by decide +kernel)) ggL_law_X5_minutes
set_option maxRecDepth 20000 in
theorem ggL_law_X6_minutes : GoodIn wsL_law wsX6_minutes := goodIn_r _ [319, 281, 276, 277, 278, 5, 279, 280, 282, 283, 284, 285, 86, 87, 286, 287, 288, 289, 275, 79, 290, 291, 292, 293, 294, 295, 130, 131, 132, 296, 297, 298, 299, 300, 301, 302, 320, 321, 322, 323, 137, 138, 139, 140, 83, 920, 921, 922, 923, 924, 925, 926, 927, 928, 929, 930, 931, 932, 933, 934, 935, 936, 937, 938, 939, 940, 941, 942, 943, 944, 945] (by decide +kernel) (by decide +kernel)
set_option maxRecDepth 20000 in
theorem gL_law_X6_minutes : GoodIn wsL_law (wsV RL 32 RX6 yX6_minutes wsX6_minutes) := goodIn_app (goodIn_of _ (by decide +kernel)) ggL_law_X6_minutes
set_option maxRecDepth 20000 in
theorem ggL_law_X5_put : GoodIn wsL_law wsX5_put := goodIn_r _ [327, 16, 166, 328, 329, 2, 330, 331, 332, 109, 110, 111, 112, 35, 263, 176, 177, 117, 118, 119, 120, 121, 122, 123, 36, 37, 911, 912, 913, 914, 915, 916, 917, 918, 919, 946, 947, 948, 949, 950, 951, 952, 953, 954] (by decide +kernel) (by decide +kernel)
set_option maxRecDepth 20000 in
theorem gL_law_X5_put : GoodIn wsL_law (wsV RL 33 RX5 yX5_put wsX5_put) := goodIn_app (goodIn_of _ (by decide +kernel)) ggL_law_X5_put
set_option maxRecDepth 20000 in
theorem ggL_law_X6_put : GoodIn wsL_law wsX6_put := goodIn_r _ [336, 337, 338, 284, 339, 130, 131, 5, 132, 153, 154, 155, 156, 79, 133, 134, 135, 136, 137, 138, 139, 140, 83, 920, 921, 922, 923, 924, 925, 926, 927, 928, 929, 930, 931, 932, 933, 934, 935, 936, 937, 938, 939, 940, 941, 942, 943, 944, 945] (by decide +kernel) (by decide +kernel)
set_option maxRecDepth 20000 in
theorem gL_law_X6_put : GoodIn wsL_law (wsV RL 37 RX6 yX6_put wsX6_put) := goodIn_app (goodIn_of _ (by decide +kernel)) ggL_law_X6_put
set_option maxRecDepth 20000 in
theorem ggL_law_X5_prior : GoodIn wsL_law wsX5_prior := goodIn_r _ [343, 16, 344, 37, 109, 110, 111, 2, 112, 35, 263, 176, 177, 117, 118, 119, 911, 912, 913, 914, 915, 916, 917, 918, 919, 946, 947, 948, 949, 950, 951, 952, 953, 954] (by decide +kernel) (by decide +kernel)
set_option maxRecDepth 20000 in
theorem gL_law_X5_prior : GoodIn wsL_law (wsV RL 38 RX5 yX5_prior wsX5_prior) := goodIn_app (goodIn_of _ (by decide +kernel)) ggL_law_X5_prior
set_option maxRecDepth 20000 in
theorem ggL_law_X6_prior : GoodIn wsL_law wsX6_prior := goodIn_r _ [348, 349, 284, 130, 131, 5, 132, 153, 154, 155, 156, 79, 133, 134, 135, 136, 137, 138, 139, 140, 83, 920, 921, 922, 923, 924, 925, 926, 927, 928, 929, 930, 931, 932, 933, 934, 935, 936, 937, 938, 939, 940, 941, 942, 943, 944, 945] (by decide +kernel) (by decide +kernel)
set_option maxRecDepth 20000 in
theorem gL_law_X6_prior : GoodIn wsL_law (wsV RL 41 RX6 yX6_prior wsX6_prior) := goodIn_app (goodIn_of _ (by decide +kernel)) ggL_law_X6_prior
set_option maxRecDepth 20000 in
theorem ggL_law_X5_fault : GoodIn wsL_law wsX5_fault := goodIn_r _ [353, 16, 354, 355, 356, 2, 357, 358, 359, 360, 109, 110, 111, 112, 35, 361, 362, 363, 117, 118, 119, 911, 912, 913, 914, 915, 916, 917, 918, 919, 946, 947, 948, 949, 950, 951, 952, 953, 954] (by decide +kernel) (by decide +kernel)
set_option maxRecDepth 20000 in
theorem gL_law_X5_fault : GoodIn wsL_law (wsV RL 42 RX5 yX5_fault wsX5_fault) := goodIn_app (goodIn_of _ (by decide +kernel)) ggL_law_X5_fault
set_option maxRecDepth 20000 in
theorem ggL_law_X6_fault : GoodIn wsL_law wsX6_fault := goodIn_r _ [367, 368, 349, 79, 130, 131, 5, 132, 133, 134, 135, 136, 137, 138, 139, 140, 83, 920, 921, 922, 923, 924, 925, 926, 927, 928, 929, 930, 931, 932, 933, 934, 935, 936, 937, 938, 939, 940, 941, 942, 943, 944, 945] (by decide +kernel) (by decide +kernel)
set_option maxRecDepth 20000 in
theorem gL_law_X6_fault : GoodIn wsL_law (wsV RL 46 RX6 yX6_fault wsX6_fault) := goodIn_app (goodIn_of _ (by decide +kernel)) ggL_law_X6_fault
set_option maxRecDepth 20000 in
theorem ggL_law_X5_warm : GoodIn wsL_law wsX5_warm := goodIn_r _ [372, 21, 307, 373, 308, 309, 310, 2, 311, 161, 162, 163, 164, 165, 36, 16, 108, 107, 166, 167, 168, 169, 20, 170, 50, 171, 172, 173, 174, 175, 176, 177, 178, 179, 180, 181, 182, 183, 184, 185, 186, 187, 188, 189, 190, 191, 192, 193, 194, 195, 196, 197, 198, 199, 200, 201, 202, 203, 204, 205, 206, 207, 208, 209, 210, 211, 212, 213, 214, 215, 216, 217, 218, 219, 220, 221, 222, 223, 224, 225, 226, 227, 228, 229, 230, 231, 232, 233, 234, 235, 236, 237, 238, 239, 240, 241, 242, 243, 244, 245, 246, 247, 248, 249, 250, 251, 52, 53, 118, 119, 252, 253, 254, 255, 256, 257, 258, 259, 54, 260, 261, 262, 263, 264, 265, 266, 267, 51, 268, 269, 270, 312, 313, 314, 315, 35, 109, 110, 111, 112, 911, 912, 913, 914, 915, 916, 917, 918, 919, 955, 956, 957, 958, 959, 960, 961, 962, 963, 946, 947, 948, 949, 950, 951, 952, 953, 954] (by decide +kernel) (by decide +kernel)
set_option maxRecDepth 20000 in
theorem gL_law_X5_warm : GoodIn wsL_law (wsV RL 47 RX5 yX5_warm wsX5_warm) := goodIn_app (goodIn_of _ (by decide +kernel)) ggL_law_X5_warm
set_option maxRecDepth 20000 in
theorem ggL_law_X6_warm : GoodIn wsL_law wsX6_warm := goodIn_r _ [377, 79, 281, 88, 378, 379, 380, 5, 381, 86, 87, 89, 276, 277, 278, 279, 280, 282, 283, 284, 285, 286, 287, 288, 289, 275, 290, 291, 292, 293, 294, 295, 130, 131, 132, 296, 297, 298, 299, 300, 301, 302, 382, 383, 384, 385, 386, 387, 388, 389, 390, 391, 392, 320, 321, 322, 323, 137, 138, 139, 140, 83, 133, 134, 135, 136, 920, 921, 922, 923, 924, 925, 926, 927, 928, 929, 930, 931, 932, 933, 934, 935, 936, 937, 938, 939, 940, 941, 942, 943, 944, 945] (by decide +kernel) (by decide +kernel)
set_option maxRecDepth 20000 in
theorem gL_law_X6_warm : GoodIn wsL_law (wsV RL 51 RX6 yX6_warm wsX6_warm) := goodIn_app (goodIn_of _ (by decide +kernel)) ggL_law_X6_warm
set_option maxRecDepth 20000 in
theorem ggL_law_X5_gives : GoodIn wsL_law wsX5_gives := goodIn_r _ [396, 21, 308, 309, 310, 2, 311, 161, 162, 163, 164, 165, 36, 16, 108, 107, 166, 167, 168, 169, 20, 170, 50, 171, 172, 173, 174, 175, 176, 177, 178, 179, 180, 181, 182, 183, 184, 185, 186, 187, 188, 189, 190, 191, 192, 193, 194, 195, 196, 197, 198, 199, 200, 201, 202, 203, 204, 205, 206, 207, 208, 209, 210, 211, 212, 213, 214, 215, 216, 217, 218, 219, 220, 221, 222, 223, 224, 225, 226, 227, 228, 229, 230, 231, 232, 233, 234, 235, 236, 237, 238, 239, 240, 241, 242, 243, 244, 245, 246, 247, 248, 249, 250, 251, 52, 53, 118, 119, 252, 253, 254, 255, 256, 257, 258, 259, 54, 260, 261, 262, 263, 264, 265, 266, 267, 51, 268, 269, 270, 312, 313, 314, 315, 35, 355, 356, 357, 358, 359, 360, 397, 398, 399, 400, 401, 402, 403, 109, 110, 111, 112, 361, 362, 363, 404, 405, 406, 407, 408, 409, 410, 411, 412, 413, 414, 415, 416, 417, 418, 419, 420, 421, 422, 423, 424, 425, 911, 912, 913, 914, 915, 916, 917, 918, 919, 955, 956, 957, 958, 959, 960, 961, 962, 963, 946, 947, 948, 949, 950, 951, 952, 953, 954] (by decide +kernel) (by decide +kernel)
set_option maxRecDepth 20000 in
theorem gL_law_X5_gives : GoodIn wsL_law (wsV RL 52 RX5 yX5_gives wsX5_gives) := goodIn_app (goodIn_of _ (by decide +kernel)) ggL_law_X5_gives
set_option maxRecDepth 20000 in
theorem ggL_law_X6_gives : GoodIn wsL_law wsX6_gives := goodIn_r _ [429, 79, 349, 368, 378, 379, 380, 5, 381, 88, 281, 86, 87, 89, 276, 277, 278, 279, 280, 282, 283, 284, 285, 286, 287, 288, 289, 275, 290, 291, 292, 293, 294, 295, 130, 131, 132, 296, 297, 298, 299, 300, 301, 302, 382, 383, 384, 385, 386, 387, 388, 389, 390, 391, 392, 320, 321, 322, 323, 137, 138, 139, 140, 83, 430, 431, 432, 433, 434, 435, 436, 437, 133, 134, 135, 136, 920, 921, 922, 923, 924, 925, 926, 927, 928, 929, 930, 931, 932, 933, 934, 935, 936, 937, 938, 939, 940, 941, 942, 943, 944, 945] (by decide +kernel) (by decide +kernel)
set_option maxRecDepth 20000 in
theorem gL_law_X6_gives : GoodIn wsL_law (wsV RL 56 RX6 yX6_gives wsX6_gives) := goodIn_app (goodIn_of _ (by decide +kernel)) ggL_law_X6_gives
set_option maxRecDepth 20000 in
theorem ggL_law_X5_smoke : GoodIn wsL_law wsX5_smoke := goodIn_r _ [441, 21, 308, 309, 310, 2, 311, 161, 162, 163, 164, 165, 36, 16, 108, 107, 166, 167, 168, 169, 20, 170, 50, 171, 172, 173, 174, 175, 176, 177, 178, 179, 180, 181, 182, 183, 184, 185, 186, 187, 188, 189, 190, 191, 192, 193, 194, 195, 196, 197, 198, 199, 200, 201, 202, 203, 204, 205, 206, 207, 208, 209, 210, 211, 212, 213, 214, 215, 216, 217, 218, 219, 220, 221, 222, 223, 224, 225, 226, 227, 228, 229, 230, 231, 232, 233, 234, 235, 236, 237, 238, 239, 240, 241, 242, 243, 244, 245, 246, 247, 248, 249, 250, 251, 52, 53, 118, 119, 252, 253, 254, 255, 256, 257, 258, 259, 54, 260, 261, 262, 263, 264, 265, 266, 267, 51, 268, 269, 270, 312, 313, 314, 315, 35, 397, 398, 399, 400, 401, 402, 403, 442, 443, 444, 109, 110, 111, 112, 445, 446, 447, 448, 354, 404, 405, 406, 407, 408, 409, 410, 411, 412, 413, 414, 415, 416, 417, 418, 419, 420, 421, 422, 423, 424, 425, 911, 912, 913, 914, 915, 916, 917, 918, 919, 955, 956, 957, 958, 959, 960, 961, 962, 963, 946, 947, 948, 949, 950, 951, 952, 953, 954] (by decide +kernel) (by decide +kernel)
set_option maxRecDepth 20000 in
theorem gL_law_X5_smoke : GoodIn wsL_law (wsV RL 57 RX5 yX5_smoke wsX5_smoke) := goodIn_app (goodIn_of _ (by decide +kernel)) ggL_law_X5_smoke
set_option maxRecDepth 20000 in
theorem ggL_law_X6_smoke : GoodIn wsL_law wsX6_smoke := goodIn_r _ [452, 79, 368, 453, 378, 379, 380, 5, 381, 88, 281, 86, 87, 89, 276, 277, 278, 279, 280, 282, 283, 284, 285, 286, 287, 288, 289, 275, 290, 291, 292, 293, 294, 295, 130, 131, 132, 296, 297, 298, 299, 300, 301, 302, 382, 383, 384, 385, 386, 387, 388, 389, 390, 391, 392, 320, 321, 322, 323, 137, 138, 139, 140, 83, 430, 431, 432, 433, 454, 455, 456, 457, 434, 435, 436, 437, 133, 134, 135, 136, 920, 921, 922, 923, 924, 925, 926, 927, 928, 929, 930, 931, 932, 933, 934, 935, 936, 937, 938, 939, 940, 941, 942, 943, 944, 945] (by decide +kernel) (by decide +kernel)
set_option maxRecDepth 20000 in
theorem gL_law_X6_smoke : GoodIn wsL_law (wsV RL 60 RX6 yX6_smoke wsX6_smoke) := goodIn_app (goodIn_of _ (by decide +kernel)) ggL_law_X6_smoke
set_option maxRecDepth 20000 in
theorem ggL_law_X5_goes : GoodIn wsL_law wsX5_goes := goodIn_r _ [461, 21, 307, 109, 110, 111, 2, 112, 35, 308, 309, 310, 311, 161, 162, 163, 164, 165, 36, 16, 108, 107, 166, 167, 168, 169, 20, 170, 50, 171, 172, 173, 174, 175, 176, 177, 178, 179, 180, 181, 182, 183, 184, 185, 186, 187, 188, 189, 190, 191, 192, 193, 194, 195, 196, 197, 198, 199, 200, 201, 202, 203, 204, 205, 206, 207, 208, 209, 210, 211, 212, 213, 214, 215, 216, 217, 218, 219, 220, 221, 222, 223, 224, 225, 226, 227, 228, 229, 230, 231, 232, 233, 234, 235, 236, 237, 238, 239, 240, 241, 242, 243, 244, 245, 246, 247, 248, 249, 250, 251, 52, 53, 118, 119, 252, 253, 254, 255, 256, 257, 258, 259, 54, 260, 261, 262, 263, 264, 265, 266, 267, 51, 268, 269, 270, 312, 313, 314, 315, 445, 446, 447, 448, 354, 404, 405, 406, 407, 408, 409, 410, 411, 412, 413, 414, 415, 416, 417, 418, 419, 420, 421, 422, 423, 424, 425, 911, 912, 913, 914, 915, 916, 917, 918, 919, 955, 956, 957, 958, 959, 960, 961, 962, 963, 946, 947, 948, 949, 950, 951, 952, 953, 954] (by decide +kernel) (by decide +kernel)
set_option maxRecDepth 20000 in
theorem gL_law_X5_goes : GoodIn wsL_law (wsV RL 61 RX5 yX5_goes wsX5_goes) := goodIn_app (goodIn_of _ (by decide +kernel)) ggL_law_X5_goes
set_option maxRecDepth 20000 in
theorem ggL_law_X6_goes : GoodIn wsL_law wsX6_goes := goodIn_r _ [465, 79, 281, 130, 131, 5, 132, 133, 134, 135, 136, 137, 138, 139, 140, 83, 378, 379, 380, 381, 88, 86, 87, 89, 276, 277, 278, 279, 280, 282, 283, 284, 285, 286, 287, 288, 289, 275, 290, 291, 292, 293, 294, 295, 296, 297, 298, 299, 300, 301, 302, 382, 383, 384, 385, 386, 387, 388, 389, 390, 391, 392, 320, 321, 322, 323, 454, 455, 456, 457, 434, 435, 436, 437, 920, 921, 922, 923, 924, 925, 926, 927, 928, 929, 930, 931, 932, 933, 934, 935, 936, 937, 938, 939, 940, 941, 942, 943, 944, 945] (by decide +kernel) (by decide +kernel)
set_option maxRecDepth 20000 in
theorem gL_law_X6_goes : GoodIn wsL_law (wsV RL 64 RX6 yX6_goes wsX6_goes) := goodIn_app (goodIn_of _ (by decide +kernel)) ggL_law_X6_goes
set_option maxRecDepth 20000 in
theorem ggL_law_X5_look : GoodIn wsL_law wsX5_look := goodIn_r _ [469, 16, 470, 471, 37, 401, 402, 2, 403, 442, 443, 444, 109, 110, 111, 112, 35, 113, 114, 115, 116, 117, 118, 119, 911, 912, 913, 914, 915, 916, 917, 918, 919, 946, 947, 948, 949, 950, 951, 952, 953, 954] (by decide +kernel) (by decide +kernel)
set_option maxRecDepth 20000 in
theorem gL_law_X5_look : GoodIn wsL_law (wsV RL 65 RX5 yX5_look wsX5_look) := goodIn_app (goodIn_of _ (by decide +kernel)) ggL_law_X5_look
set_option maxRecDepth 20000 in
theorem ggL_law_X6_look : GoodIn wsL_law wsX6_look := goodIn_r _ [475, 476, 368, 453, 477, 79, 130, 131, 5, 132, 133, 134, 135, 136, 137, 138, 139, 140, 83, 141, 142, 143, 144, 920, 921, 922, 923, 924, 925, 926, 927, 928, 929, 930, 931, 932, 933, 934, 935, 936, 937, 938, 939, 940, 941, 942, 943, 944, 945] (by decide +kernel) (by decide +kernel)
set_option maxRecDepth 20000 in
theorem gL_law_X6_look : GoodIn wsL_law (wsV RL 68 RX6 yX6_look wsX6_look) := goodIn_app (goodIn_of _ (by decide +kernel)) ggL_law_X6_look
set_option maxRecDepth 20000 in
theorem ggL_law_X5_forget : GoodIn wsL_law wsX5_forget := goodIn_r _ [481, 16, 470, 37, 911, 912, 913, 914, 915, 916, 917, 918, 919, 946, 947, 948, 949, 950, 951, 952, 953, 954] (by decide +kernel) (by decide +kernel)
set_option maxRecDepth 20000 in
theorem gL_law_X5_forget : GoodIn wsL_law (wsV RL 69 RX5 yX5_forget wsX5_forget) := goodIn_app (goodIn_of _ (by decide +kernel)) ggL_law_X5_forget
set_option maxRecDepth 20000 in
theorem ggL_law_X6_forget : GoodIn wsL_law wsX6_forget := goodIn_r _ [485, 153, 154, 155, 5, 156, 79, 920, 921, 922, 923, 924, 925, 926, 927, 928, 929, 930, 931, 932, 933, 934, 935, 936, 937, 938, 939, 940, 941, 942, 943, 944, 945] (by decide +kernel) (by decide +kernel)
set_option maxRecDepth 20000 in
theorem gL_law_X6_forget : GoodIn wsL_law (wsV RL 72 RX6 yX6_forget wsX6_forget) := goodIn_app (goodIn_of _ (by decide +kernel)) ggL_law_X6_forget
set_option maxRecDepth 20000 in
theorem ggL_law_X5_odds : GoodIn wsL_law wsX5_odds := goodIn_r _ [489, 33, 25, 490, 109, 110, 111, 2, 112, 35, 491, 492, 493, 494, 21, 161, 37, 162, 163, 164, 165, 36, 16, 108, 107, 166, 167, 168, 169, 20, 170, 50, 171, 172, 173, 174, 175, 176, 177, 178, 179, 180, 181, 182, 183, 184, 185, 186, 187, 188, 189, 190, 191, 192, 193, 194, 195, 196, 197, 198, 199, 200, 201, 202, 203, 204, 205, 206, 207, 208, 209, 210, 211, 212, 213, 214, 215, 216, 217, 218, 219, 220, 221, 222, 223, 224, 225, 226, 227, 228, 229, 230, 231, 232, 233, 234, 235, 236, 237, 238, 239, 240, 241, 242, 243, 244, 245, 246, 247, 248, 249, 250, 251, 52, 53, 118, 119, 252, 253, 254, 255, 256, 257, 258, 259, 54, 260, 261, 262, 263, 264, 265, 266, 267, 51, 268, 269, 270, 495, 496, 497, 498, 344, 470, 471, 499, 500, 501, 502, 24, 503, 58, 60, 504, 505, 397, 398, 399, 400, 506, 507, 508, 509, 510, 405, 406, 407, 408, 409, 410, 411, 412, 413, 414, 415, 416, 417, 418, 419, 420, 421, 422, 423, 424, 425, 511, 512, 513, 514, 61, 515, 516, 517, 518, 519, 520, 521, 522, 523, 524, 525, 526, 527, 528, 529, 530, 312, 313, 314, 315, 531, 532, 533, 534, 535, 536, 537, 538, 539, 540, 32, 541, 70, 71, 542, 543, 544, 545, 546, 547, 548, 911, 912, 913, 914, 915, 916, 917, 918, 919, 964, 965, 966, 967, 955, 956, 957, 958, 959, 960, 961, 962, 963, 946, 947, 948, 949, 950, 951, 952, 953, 954, 971, 972, 973, 974, 975] (by decide +kernel) (by decide +kernel)
set_option maxRecDepth 20000 in
theorem gL_law_X5_odds : GoodIn wsL_law (wsV RL 73 RX5 yX5_odds wsX5_odds) := goodIn_app (goodIn_of _ (by decide +kernel)) ggL_law_X5_odds
set_option maxRecDepth 20000 in
theorem ggL_law_X6_odds : GoodIn wsL_law wsX6_odds := goodIn_r _ [552, 368, 553, 554, 555, 556, 557, 90, 558, 130, 131, 5, 132, 133, 134, 135, 136, 137, 138, 139, 140, 83, 559, 560, 561, 562, 79, 284, 281, 378, 379, 380, 381, 88, 86, 87, 89, 276, 277, 278, 279, 280, 282, 283, 285, 286, 287, 288, 289, 275, 290, 291, 292, 293, 294, 295, 296, 297, 298, 299, 300, 301, 302, 382, 383, 384, 385, 386, 387, 388, 389, 390, 391, 392, 563, 564, 565, 566, 567, 568, 569, 570, 571, 572, 573, 574, 575, 434, 435, 436, 437, 320, 321, 322, 323, 576, 577, 578, 579, 580, 94, 95, 96, 97, 84, 98, 85, 99, 100, 101, 102, 581, 582, 583, 584, 585, 586, 587, 588, 589, 590, 591, 592, 593, 594, 595, 596, 597, 598, 599, 600, 601, 602, 603, 604, 605, 606, 607, 608, 609, 920, 921, 922, 923, 924, 925, 926, 927, 928, 929, 930, 931, 932, 933, 934, 935, 936, 937, 938, 939, 940, 941, 942, 943, 944, 945] (by decide +kernel) (by decide +kernel)
set_option maxRecDepth 20000 in
theorem gL_law_X6_odds : GoodIn wsL_law (wsV RL 76 RX6 yX6_odds wsX6_odds) := goodIn_app (goodIn_of _ (by decide +kernel)) ggL_law_X6_odds
set_option maxRecDepth 20000 in
theorem ggL_law_X5_two : GoodIn wsL_law wsX5_two := goodIn_r _ [613, 33, 25, 490, 491, 492, 493, 2, 494, 21, 161, 37, 162, 163, 164, 165, 36, 16, 108, 107, 166, 167, 168, 169, 20, 170, 50, 171, 172, 173, 174, 175, 176, 177, 178, 179, 180, 181, 182, 183, 184, 185, 186, 187, 188, 189, 190, 191, 192, 193, 194, 195, 196, 197, 198, 199, 200, 201, 202, 203, 204, 205, 206, 207, 208, 209, 210, 211, 212, 213, 214, 215, 216, 217, 218, 219, 220, 221, 222, 223, 224, 225, 226, 227, 228, 229, 230, 231, 232, 233, 234, 235, 236, 237, 238, 239, 240, 241, 242, 243, 244, 245, 246, 247, 248, 249, 250, 251, 52, 53, 118, 119, 252, 253, 254, 255, 256, 257, 258, 259, 54, 260, 261, 262, 263, 264, 265, 266, 267, 51, 268, 269, 270, 495, 496, 497, 498, 344, 470, 471, 499, 500, 501, 502, 24, 503, 58, 60, 504, 505, 397, 398, 399, 400, 506, 507, 508, 509, 510, 405, 406, 407, 408, 409, 410, 411, 412, 413, 414, 415, 416, 417, 418, 419, 420, 421, 422, 423, 424, 425, 511, 512, 513, 514, 61, 515, 516, 517, 518, 519, 520, 521, 522, 523, 524, 525, 526, 527, 528, 529, 530, 312, 313, 314, 315, 35, 614, 615, 616, 617, 538, 539, 540, 32, 541, 70, 71, 542, 543, 544, 545, 546, 547, 548, 911, 912, 913, 914, 915, 916, 917, 918, 919, 964, 965, 966, 967, 955, 956, 957, 958, 959, 960, 961, 962, 963, 946, 947, 948, 949, 950, 951, 952, 953, 954, 971, 972, 973, 974, 975] (by decide +kernel) (by decide +kernel)
set_option maxRecDepth 20000 in
theorem gL_law_X5_two : GoodIn wsL_law (wsV RL 77 RX5 yX5_two wsX5_two) := goodIn_app (goodIn_of _ (by decide +kernel)) ggL_law_X5_two
set_option maxRecDepth 20000 in
theorem ggL_law_X6_two : GoodIn wsL_law wsX6_two := goodIn_r _ [621, 90, 558, 559, 560, 561, 5, 562, 79, 284, 555, 557, 281, 378, 379, 380, 381, 88, 86, 87, 89, 276, 277, 278, 279, 280, 282, 283, 285, 286, 287, 288, 289, 275, 290, 291, 292, 293, 294, 295, 130, 131, 132, 296, 297, 298, 299, 300, 301, 302, 382, 383, 384, 385, 386, 387, 388, 389, 390, 391, 392, 563, 564, 565, 566, 554, 556, 567, 568, 569, 570, 571, 572, 573, 574, 575, 434, 435, 436, 437, 320, 321, 322, 323, 137, 138, 139, 140, 83, 576, 577, 578, 579, 580, 94, 95, 96, 97, 84, 98, 85, 99, 100, 101, 102, 581, 582, 583, 584, 585, 586, 587, 588, 589, 590, 591, 592, 593, 594, 595, 596, 597, 598, 599, 600, 601, 602, 603, 604, 605, 606, 607, 608, 609, 920, 921, 922, 923, 924, 925, 926, 927, 928, 929, 930, 931, 932, 933, 934, 935, 936, 937, 938, 939, 940, 941, 942, 943, 944, 945] (by decide +kernel) (by decide +kernel)
set_option maxRecDepth 20000 in
theorem gL_law_X6_two : GoodIn wsL_law (wsV RL 80 RX6 yX6_two wsX6_two) := goodIn_app (goodIn_of _ (by decide +kernel)) ggL_law_X6_two
set_option maxRecDepth 20000 in
theorem ggL_law_X5_likeliest : GoodIn wsL_law wsX5_likeliest := goodIn_r _ [625, 25, 491, 492, 493, 2, 494, 21, 161, 37, 490, 162, 163, 164, 165, 36, 16, 108, 107, 166, 167, 168, 169, 20, 170, 50, 171, 172, 173, 174, 175, 176, 177, 178, 179, 180, 181, 182, 183, 184, 185, 186, 187, 188, 189, 190, 191, 192, 193, 194, 195, 196, 197, 198, 199, 200, 201, 202, 203, 204, 205, 206, 207, 208, 209, 210, 211, 212, 213, 214, 215, 216, 217, 218, 219, 220, 221, 222, 223, 224, 225, 226, 227, 228, 229, 230, 231, 232, 233, 234, 235, 236, 237, 238, 239, 240, 241, 242, 243, 244, 245, 246, 247, 248, 249, 250, 251, 52, 53, 118, 119, 252, 253, 254, 255, 256, 257, 258, 259, 54, 260, 261, 262, 263, 264, 265, 266, 267, 51, 268, 269, 270, 495, 496, 497, 498, 344, 470, 471, 499, 500, 501, 502, 24, 503, 58, 60, 504, 505, 397, 398, 399, 400, 506, 507, 508, 509, 510, 405, 406, 407, 408, 409, 410, 411, 412, 413, 414, 415, 416, 417, 418, 419, 420, 421, 422, 423, 424, 425, 511, 512, 513, 514, 61, 515, 516, 517, 518, 519, 520, 521, 522, 523, 524, 525, 526, 527, 528, 529, 530, 312, 313, 314, 315, 35, 626, 627, 628, 629, 630, 631, 911, 912, 913, 914, 915, 916, 917, 918, 919, 955, 956, 957, 958, 959, 960, 961, 962, 963, 964, 965, 966, 967, 946, 947, 948, 949, 950, 951, 952, 953, 954] (by decide +kernel) (by decide +kernel)
set_option maxRecDepth 20000 in
theorem gL_law_X5_likeliest : GoodIn wsL_law (wsV RL 81 RX5 yX5_likeliest wsX5_likeliest) := goodIn_app (goodIn_of _ (by decide +kernel)) ggL_law_X5_likeliest
set_option maxRecDepth 20000 in
theorem ggL_law_X6_likeliest : GoodIn wsL_law wsX6_likeliest := goodIn_r _ [635, 90, 559, 560, 561, 5, 562, 558, 79, 284, 555, 557, 281, 378, 379, 380, 381, 88, 86, 87, 89, 276, 277, 278, 279, 280, 282, 283, 285, 286, 287, 288, 289, 275, 290, 291, 292, 293, 294, 295, 130, 131, 132, 296, 297, 298, 299, 300, 301, 302, 382, 383, 384, 385, 386, 387, 388, 389, 390, 391, 392, 563, 564, 565, 566, 554, 556, 567, 568, 569, 570, 571, 572, 573, 574, 575, 434, 435, 436, 437, 320, 321, 322, 323, 137, 138, 139, 140, 83, 920, 921, 922, 923, 924, 925, 926, 927, 928, 929, 930, 931, 932, 933, 934, 935, 936, 937, 938, 939, 940, 941, 942, 943, 944, 945] (by decide +kernel) (by decide +kernel)
set_option maxRecDepth 20000 in
theorem gL_law_X6_likeliest : GoodIn wsL_law (wsV RL 84 RX6 yX6_likeliest wsX6_likeliest) := goodIn_app (goodIn_of _ (by decide +kernel)) ggL_law_X6_likeliest
set_option maxRecDepth 20000 in
theorem ggL_law_X5_guess : GoodIn wsL_law wsX5_guess := goodIn_r _ [639, 109, 110, 111, 2, 112, 35, 640, 536, 24, 537, 911, 912, 913, 914, 915, 916, 917, 918, 919] (by decide +kernel) (by decide +kernel)
set_option maxRecDepth 20000 in
theorem gL_law_X5_guess : GoodIn wsL_law (wsV RL 85 RX5 yX5_guess wsX5_guess) := goodIn_app (goodIn_of _ (by decide +kernel)) ggL_law_X5_guess
set_option maxRecDepth 20000 in
theorem ggL_law_X6_guess : GoodIn wsL_law wsX6_guess := goodIn_r _ [644, 645, 368, 554, 555, 556, 557, 130, 131, 5, 132, 137, 138, 139, 140, 83, 563, 564, 565, 566, 567, 920, 921, 922, 923, 924, 925, 926, 927, 928, 929, 930, 931, 932, 933, 934, 935, 936, 937, 938, 939, 940, 941, 942, 943, 944, 945] (by decide +kernel) (by decide +kernel)
set_option maxRecDepth 20000 in
theorem gL_law_X6_guess : GoodIn wsL_law (wsV RL 88 RX6 yX6_guess wsX6_guess) := goodIn_app (goodIn_of _ (by decide +kernel)) ggL_law_X6_guess
set_option maxRecDepth 20000 in
theorem ggL_law_X5_next : GoodIn wsL_law wsX5_next := goodIn_r _ [649, 21, 650, 25, 499, 16, 166, 491, 492, 493, 2, 494, 161, 37, 490, 162, 163, 164, 165, 36, 108, 107, 167, 168, 169, 20, 170, 50, 171, 172, 173, 174, 175, 176, 177, 178, 179, 180, 181, 182, 183, 184, 185, 186, 187, 188, 189, 190, 191, 192, 193, 194, 195, 196, 197, 198, 199, 200, 201, 202, 203, 204, 205, 206, 207, 208, 209, 210, 211, 212, 213, 214, 215, 216, 217, 218, 219, 220, 221, 222, 223, 224, 225, 226, 227, 228, 229, 230, 231, 232, 233, 234, 235, 236, 237, 238, 239, 240, 241, 242, 243, 244, 245, 246, 247, 248, 249, 250, 251, 52, 53, 118, 119, 252, 253, 254, 255, 256, 257, 258, 259, 54, 260, 261, 262, 263, 264, 265, 266, 267, 51, 268, 269, 270, 495, 496, 497, 498, 344, 470, 471, 500, 501, 502, 24, 503, 58, 60, 504, 505, 397, 398, 399, 400, 506, 507, 508, 509, 510, 405, 406, 407, 408, 409, 410, 411, 412, 413, 414, 415, 416, 417, 418, 419, 420, 421, 422, 423, 424, 425, 511, 512, 513, 514, 61, 515, 516, 517, 518, 519, 520, 521, 522, 523, 524, 525, 526, 527, 528, 529, 530, 312, 313, 314, 315, 35, 109, 110, 111, 112, 651, 652, 653, 654, 655, 656, 657, 911, 912, 913, 914, 915, 916, 917, 918, 919, 964, 965, 966, 967, 946, 947, 948, 949, 950, 951, 952, 953, 954, 955, 956, 957, 958, 959, 960, 961, 962, 963] (by decide +kernel) (by decide +kernel)
set_option maxRecDepth 20000 in
theorem gL_law_X5_next : GoodIn wsL_law (wsV RL 89 RX5 yX5_next wsX5_next) := goodIn_app (goodIn_of _ (by decide +kernel)) ggL_law_X5_next
set_option maxRecDepth 20000 in
theorem ggL_law_X6_next : GoodIn wsL_law wsX6_next := goodIn_r _ [661, 91, 90, 559, 560, 561, 5, 562, 558, 79, 284, 555, 557, 281, 378, 379, 380, 381, 88, 86, 87, 89, 276, 277, 278, 279, 280, 282, 283, 285, 286, 287, 288, 289, 275, 290, 291, 292, 293, 294, 295, 130, 131, 132, 296, 297, 298, 299, 300, 301, 302, 382, 383, 384, 385, 386, 387, 388, 389, 390, 391, 392, 563, 564, 565, 566, 554, 556, 567, 568, 569, 570, 571, 572, 573, 574, 575, 434, 435, 436, 437, 320, 321, 322, 323, 137, 138, 139, 140, 83, 430, 431, 432, 433, 133, 134, 135, 136, 920, 921, 922, 923, 924, 925, 926, 927, 928, 929, 930, 931, 932, 933, 934, 935, 936, 937, 938, 939, 940, 941, 942, 943, 944, 945] (by decide +kernel) (by decide +kernel)
set_option maxRecDepth 20000 in
theorem gL_law_X6_next : GoodIn wsL_law (wsV RL 92 RX6 yX6_next wsX6_next) := goodIn_app (goodIn_of _ (by decide +kernel)) ggL_law_X6_next
set_option maxRecDepth 20000 in
theorem ggL_law_X5_leaks : GoodIn wsL_law wsX5_leaks := goodIn_r _ [665, 666, 21, 25, 499, 33, 490, 109, 110, 111, 2, 112, 35, 491, 492, 493, 494, 161, 37, 162, 163, 164, 165, 36, 16, 108, 107, 166, 167, 168, 169, 20, 170, 50, 171, 172, 173, 174, 175, 176, 177, 178, 179, 180, 181, 182, 183, 184, 185, 186, 187, 188, 189, 190, 191, 192, 193, 194, 195, 196, 197, 198, 199, 200, 201, 202, 203, 204, 205, 206, 207, 208, 209, 210, 211, 212, 213, 214, 215, 216, 217, 218, 219, 220, 221, 222, 223, 224, 225, 226, 227, 228, 229, 230, 231, 232, 233, 234, 235, 236, 237, 238, 239, 240, 241, 242, 243, 244, 245, 246, 247, 248, 249, 250, 251, 52, 53, 118, 119, 252, 253, 254, 255, 256, 257, 258, 259, 54, 260, 261, 262, 263, 264, 265, 266, 267, 51, 268, 269, 270, 495, 496, 497, 498, 344, 470, 471, 500, 501, 502, 24, 503, 58, 60, 504, 505, 397, 398, 399, 400, 506, 507, 508, 509, 510, 405, 406, 407, 408, 409, 410, 411, 412, 413, 414, 415, 416, 417, 418, 419, 420, 421, 422, 423, 424, 425, 511, 512, 513, 514, 61, 515, 516, 517, 518, 519, 520, 521, 522, 523, 524, 525, 526, 527, 528, 529, 530, 312, 313, 314, 315, 667, 668, 669, 670, 671, 672, 673, 674, 538, 539, 540, 32, 541, 70, 71, 542, 543, 544, 545, 546, 547, 548, 911, 912, 913, 914, 915, 916, 917, 918, 919, 964, 965, 966, 967, 955, 956, 957, 958, 959, 960, 961, 962, 963, 946, 947, 948, 949, 950, 951, 952, 953, 954, 971, 972, 973, 974, 975] (by decide +kernel) (by decide +kernel)
set_option maxRecDepth 20000 in
theorem gL_law_X5_leaks : GoodIn wsL_law (wsV RL 93 RX5 yX5_leaks wsX5_leaks) := goodIn_app (goodIn_of _ (by decide +kernel)) ggL_law_X5_leaks
set_option maxRecDepth 20000 in
theorem ggL_law_X6_leaks : GoodIn wsL_law wsX6_leaks := goodIn_r _ [678, 679, 92, 281, 555, 557, 90, 558, 130, 131, 5, 132, 133, 134, 135, 136, 137, 138, 139, 140, 83, 559, 560, 561, 562, 79, 284, 378, 379, 380, 381, 88, 86, 87, 89, 276, 277, 278, 279, 280, 282, 283, 285, 286, 287, 288, 289, 275, 290, 291, 292, 293, 294, 295, 296, 297, 298, 299, 300, 301, 302, 382, 383, 384, 385, 386, 387, 388, 389, 390, 391, 392, 563, 564, 565, 566, 554, 556, 567, 568, 569, 570, 571, 572, 573, 574, 575, 434, 435, 436, 437, 320, 321, 322, 323, 576, 577, 578, 579, 580, 94, 95, 96, 97, 84, 98, 85, 99, 100, 101, 102, 581, 582, 583, 584, 585, 586, 587, 588, 589, 590, 591, 592, 593, 594, 595, 596, 597, 598, 599, 600, 601, 602, 603, 604, 605, 606, 607, 608, 609, 920, 921, 922, 923, 924, 925, 926, 927, 928, 929, 930, 931, 932, 933, 934, 935, 936, 937, 938, 939, 940, 941, 942, 943, 944, 945] (by decide +kernel) (by decide +kernel)
set_option maxRecDepth 20000 in
theorem gL_law_X6_leaks : GoodIn wsL_law (wsV RL 96 RX6 yX6_leaks wsX6_leaks) := goodIn_app (goodIn_of _ (by decide +kernel)) ggL_law_X6_leaks
set_option maxRecDepth 20000 in
theorem ggL_law_X5_hidden : GoodIn wsL_law wsX5_hidden := goodIn_r _ [683, 21, 16, 166, 308, 309, 310, 2, 311, 161, 162, 163, 164, 165, 36, 108, 107, 167, 168, 169, 20, 170, 50, 171, 172, 173, 174, 175, 176, 177, 178, 179, 180, 181, 182, 183, 184, 185, 186, 187, 188, 189, 190, 191, 192, 193, 194, 195, 196, 197, 198, 199, 200, 201, 202, 203, 204, 205, 206, 207, 208, 209, 210, 211, 212, 213, 214, 215, 216, 217, 218, 219, 220, 221, 222, 223, 224, 225, 226, 227, 228, 229, 230, 231, 232, 233, 234, 235, 236, 237, 238, 239, 240, 241, 242, 243, 244, 245, 246, 247, 248, 249, 250, 251, 52, 53, 118, 119, 252, 253, 254, 255, 256, 257, 258, 259, 54, 260, 261, 262, 263, 264, 265, 266, 267, 51, 268, 269, 270, 312, 313, 314, 315, 35, 361, 362, 363, 684, 685, 686, 687, 510, 405, 406, 407, 408, 409, 410, 411, 412, 413, 414, 415, 416, 417, 418, 419, 420, 421, 422, 423, 424, 425, 911, 912, 913, 914, 915, 916, 917, 918, 919, 946, 947, 948, 949, 950, 951, 952, 953, 954, 955, 956, 957, 958, 959, 960, 961, 962, 963] (by decide +kernel) (by decide +kernel)
set_option maxRecDepth 20000 in
theorem gL_law_X5_hidden : GoodIn wsL_law (wsV RL 97 RX5 yX5_hidden wsX5_hidden) := goodIn_app (goodIn_of _ (by decide +kernel)) ggL_law_X5_hidden
set_option maxRecDepth 20000 in
theorem ggL_law_X6_hidden : GoodIn wsL_law wsX6_hidden := goodIn_r _ [691, 281, 89, 378, 379, 380, 5, 381, 88, 86, 87, 276, 277, 278, 279, 280, 282, 283, 284, 285, 286, 287, 288, 289, 275, 79, 290, 291, 292, 293, 294, 295, 130, 131, 132, 296, 297, 298, 299, 300, 301, 302, 382, 383, 384, 385, 386, 387, 388, 389, 390, 391, 392, 320, 321, 322, 323, 137, 138, 139, 140, 83, 920, 921, 922, 923, 924, 925, 926, 927, 928, 929, 930, 931, 932, 933, 934, 935, 936, 937, 938, 939, 940, 941, 942, 943, 944, 945] (by decide +kernel) (by decide +kernel)
set_option maxRecDepth 20000 in
theorem gL_law_X6_hidden : GoodIn wsL_law (wsV RL 100 RX6 yX6_hidden wsX6_hidden) := goodIn_app (goodIn_of _ (by decide +kernel)) ggL_law_X6_hidden
set_option maxRecDepth 20000 in
theorem ggL_law_X5_gone : GoodIn wsL_law wsX5_gone := goodIn_r _ [695, 33, 358, 359, 2, 360, 109, 110, 111, 112, 35, 696, 697, 698, 32, 699, 72, 73, 74, 70, 71, 545, 546, 547, 548, 700, 701, 702, 630, 631, 703, 704, 705, 706, 707, 708, 709, 710, 711, 712, 504, 505, 911, 912, 913, 914, 915, 916, 917, 918, 919, 971, 972, 973, 974, 975] (by decide +kernel) (by decide +kernel)
set_option maxRecDepth 20000 in
theorem gL_law_X5_gone : GoodIn wsL_law (wsV RL 101 RX5 yX5_gone wsX5_gone) := goodIn_app (goodIn_of _ (by decide +kernel)) ggL_law_X5_gone
set_option maxRecDepth 20000 in
theorem ggL_law_X6_gone : GoodIn wsL_law wsX6_gone := goodIn_r _ [716, 284, 717, 580, 718, 719, 5, 720, 368, 130, 131, 132, 133, 134, 135, 136, 137, 138, 139, 140, 83, 94, 95, 96, 97, 84, 98, 85, 99, 100, 101, 102, 721, 722, 723, 724, 725, 726, 727, 728, 605, 593, 594, 595, 596, 601, 602, 603, 604, 581, 582, 583, 584, 585, 586, 587, 588, 589, 590, 591, 592, 597, 598, 599, 600, 606, 607, 608, 609, 920, 921, 922, 923, 924, 925, 926, 927, 928, 929, 930, 931, 932, 933, 934, 935, 936, 937, 938, 939, 940, 941, 942, 943, 944, 945] (by decide +kernel) (by decide +kernel)
set_option maxRecDepth 20000 in
theorem gL_law_X6_gone : GoodIn wsL_law (wsV RL 104 RX6 yX6_gone wsX6_gone) := goodIn_app (goodIn_of _ (by decide +kernel)) ggL_law_X6_gone
set_option maxRecDepth 20000 in
theorem ggL_law_X5_harvest : GoodIn wsL_law wsX5_harvest := goodIn_r _ [732, 29, 33, 733, 734, 735, 736, 2, 737, 666, 358, 359, 360, 109, 110, 111, 112, 35, 738, 739, 740, 28, 741, 65, 742, 743, 744, 745, 746, 747, 748, 504, 505, 749, 750, 751, 752, 753, 754, 755, 756, 630, 631, 757, 538, 539, 540, 32, 541, 70, 71, 542, 543, 544, 545, 546, 547, 548, 911, 912, 913, 914, 915, 916, 917, 918, 919, 968, 969, 970, 971, 972, 973, 974, 975] (by decide +kernel) (by decide +kernel)
set_option maxRecDepth 20000 in
theorem gL_law_X5_harvest : GoodIn wsL_law (wsV RL 105 RX5 yX5_harvest wsX5_harvest) := goodIn_app (goodIn_of _ (by decide +kernel)) ggL_law_X5_harvest
set_option maxRecDepth 20000 in
theorem ggL_law_X6_harvest : GoodIn wsL_law wsX6_harvest := goodIn_r _ [761, 762, 93, 763, 764, 5, 765, 766, 679, 718, 719, 720, 368, 130, 131, 132, 133, 134, 135, 136, 137, 138, 139, 140, 83, 767, 768, 769, 770, 771, 717, 453, 576, 577, 578, 579, 580, 94, 95, 96, 97, 84, 98, 85, 99, 100, 101, 102, 581, 582, 583, 584, 585, 586, 587, 588, 589, 590, 591, 592, 593, 594, 595, 596, 597, 598, 599, 600, 601, 602, 603, 604, 605, 606, 607, 608, 609, 920, 921, 922, 923, 924, 925, 926, 927, 928, 929, 930, 931, 932, 933, 934, 935, 936, 937, 938, 939, 940, 941, 942, 943, 944, 945] (by decide +kernel) (by decide +kernel)
set_option maxRecDepth 20000 in
theorem gL_law_X6_harvest : GoodIn wsL_law (wsV RL 108 RX6 yX6_harvest wsX6_harvest) := goodIn_app (goodIn_of _ (by decide +kernel)) ggL_law_X6_harvest
set_option maxRecDepth 20000 in
theorem ggL_law_X5_drive : GoodIn wsL_law wsX5_drive := goodIn_r _ [775, 29, 776, 735, 736, 2, 737, 666, 358, 359, 360, 109, 110, 111, 112, 35, 738, 739, 740, 28, 741, 65, 742, 743, 744, 745, 746, 747, 748, 504, 505, 749, 750, 751, 752, 753, 754, 755, 756, 630, 631, 911, 912, 913, 914, 915, 916, 917, 918, 919, 968, 969, 970] (by decide +kernel) (by decide +kernel)
set_option maxRecDepth 20000 in
theorem gL_law_X5_drive : GoodIn wsL_law (wsV RL 109 RX5 yX5_drive wsX5_drive) := goodIn_app (goodIn_of _ (by decide +kernel)) ggL_law_X5_drive
set_option maxRecDepth 20000 in
theorem ggL_law_X6_drive : GoodIn wsL_law wsX6_drive := goodIn_r _ [780, 762, 771, 763, 764, 5, 765, 766, 679, 718, 719, 720, 368, 130, 131, 132, 133, 134, 135, 136, 137, 138, 139, 140, 83, 767, 768, 769, 770, 93, 717, 453, 920, 921, 922, 923, 924, 925, 926, 927, 928, 929, 930, 931, 932, 933, 934, 935, 936, 937, 938, 939, 940, 941, 942, 943, 944, 945] (by decide +kernel) (by decide +kernel)
set_option maxRecDepth 20000 in
theorem gL_law_X6_drive : GoodIn wsL_law (wsV RL 112 RX6 yX6_drive wsX6_drive) := goodIn_app (goodIn_of _ (by decide +kernel)) ggL_law_X6_drive
set_option maxRecDepth 20000 in
theorem ggL_law_X5_part : GoodIn wsL_law wsX5_part := goodIn_r _ [784, 16, 785, 786, 109, 110, 111, 2, 112, 35, 113, 114, 115, 116, 117, 118, 119, 911, 912, 913, 914, 915, 916, 917, 918, 919, 946, 947, 948, 949, 950, 951, 952, 953, 954] (by decide +kernel) (by decide +kernel)
set_option maxRecDepth 20000 in
theorem gL_law_X5_part : GoodIn wsL_law (wsV RL 113 RX5 yX5_part wsX5_part) := goodIn_app (goodIn_of _ (by decide +kernel)) ggL_law_X5_part
set_option maxRecDepth 20000 in
theorem ggL_law_X6_part : GoodIn wsL_law wsX6_part := goodIn_r _ [790, 339, 762, 79, 130, 131, 5, 132, 133, 134, 135, 136, 137, 138, 139, 140, 83, 141, 142, 143, 144, 920, 921, 922, 923, 924, 925, 926, 927, 928, 929, 930, 931, 932, 933, 934, 935, 936, 937, 938, 939, 940, 941, 942, 943, 944, 945] (by decide +kernel) (by decide +kernel)
set_option maxRecDepth 20000 in
theorem gL_law_X6_part : GoodIn wsL_law (wsV RL 116 RX6 yX6_part wsX6_part) := goodIn_app (goodIn_of _ (by decide +kernel)) ggL_law_X6_part
set_option maxRecDepth 20000 in
theorem ggL_law_X5_takes : GoodIn wsL_law wsX5_takes := goodIn_r _ [794, 16, 785, 109, 110, 111, 2, 112, 35, 795, 796, 797, 15, 798, 799, 46, 176, 177, 800, 801, 802, 803, 911, 912, 913, 914, 915, 916, 917, 918, 919, 946, 947, 948, 949, 950, 951, 952, 953, 954] (by decide +kernel) (by decide +kernel)
set_option maxRecDepth 20000 in
theorem gL_law_X5_takes : GoodIn wsL_law (wsV RL 117 RX5 yX5_takes wsX5_takes) := goodIn_app (goodIn_of _ (by decide +kernel)) ggL_law_X5_takes
set_option maxRecDepth 20000 in
theorem ggL_law_X6_takes : GoodIn wsL_law wsX6_takes := goodIn_r _ [807, 766, 79, 130, 131, 5, 132, 133, 134, 135, 136, 137, 138, 139, 140, 83, 920, 921, 922, 923, 924, 925, 926, 927, 928, 929, 930, 931, 932, 933, 934, 935, 936, 937, 938, 939, 940, 941, 942, 943, 944, 945] (by decide +kernel) (by decide +kernel)
set_option maxRecDepth 20000 in
theorem gL_law_X6_takes : GoodIn wsL_law (wsV RL 120 RX6 yX6_takes wsX6_takes) := goodIn_app (goodIn_of _ (by decide +kernel)) ggL_law_X6_takes
set_option maxRecDepth 20000 in
theorem ggL_law_X5_sign : GoodIn wsL_law wsX5_sign := goodIn_r _ [811, 109, 110, 111, 2, 112, 35, 812, 813, 814, 815, 33, 816, 817, 818, 819, 32, 820, 630, 631, 911, 912, 913, 914, 915, 916, 917, 918, 919, 971, 972, 973, 974, 975] (by decide +kernel) (by decide +kernel)
set_option maxRecDepth 20000 in
theorem gL_law_X5_sign : GoodIn wsL_law (wsV RL 121 RX5 yX5_sign wsX5_sign) := goodIn_app (goodIn_of _ (by decide +kernel)) ggL_law_X5_sign
set_option maxRecDepth 20000 in
theorem ggL_law_X6_sign : GoodIn wsL_law wsX6_sign := goodIn_r _ [824, 85, 825, 826, 827, 5, 828, 580, 133, 134, 135, 136, 137, 138, 139, 140, 83, 920, 921, 922, 923, 924, 925, 926, 927, 928, 929, 930, 931, 932, 933, 934, 935, 936, 937, 938, 939, 940, 941, 942, 943, 944, 945] (by decide +kernel) (by decide +kernel)
set_option maxRecDepth 20000 in
theorem gL_law_X6_sign : GoodIn wsL_law (wsV RL 124 RX6 yX6_sign wsX6_sign) := goodIn_app (goodIn_of _ (by decide +kernel)) ggL_law_X6_sign
set_option maxRecDepth 20000 in
theorem ggL_law_X5_limb : GoodIn wsL_law wsX5_limb := goodIn_r _ [832, 33, 109, 110, 111, 2, 112, 35, 812, 813, 814, 815, 816, 817, 818, 819, 32, 820, 630, 631, 833, 834, 835, 836, 70, 71, 911, 912, 913, 914, 915, 916, 917, 918, 919, 971, 972, 973, 974, 975] (by decide +kernel) (by decide +kernel)
set_option maxRecDepth 20000 in
theorem gL_law_X5_limb : GoodIn wsL_law (wsV RL 125 RX5 yX5_limb wsX5_limb) := goodIn_app (goodIn_of _ (by decide +kernel)) ggL_law_X5_limb
set_option maxRecDepth 20000 in
theorem ggL_law_X6_limb : GoodIn wsL_law wsX6_limb := goodIn_r _ [840, 85, 84, 130, 131, 5, 132, 133, 134, 135, 136, 137, 138, 139, 140, 83, 920, 921, 922, 923, 924, 925, 926, 927, 928, 929, 930, 931, 932, 933, 934, 935, 936, 937, 938, 939, 940, 941, 942, 943, 944, 945] (by decide +kernel) (by decide +kernel)
set_option maxRecDepth 20000 in
theorem gL_law_X6_limb : GoodIn wsL_law (wsV RL 128 RX6 yX6_limb wsX6_limb) := goodIn_app (goodIn_of _ (by decide +kernel)) ggL_law_X6_limb
set_option maxRecDepth 20000 in
theorem ggL_law_X5_image : GoodIn wsL_law wsX5_image := goodIn_r _ [844, 17, 13, 14, 15, 16, 109, 110, 111, 2, 112, 35, 38, 39, 40, 11, 12, 34, 41, 42, 43, 44, 45, 46, 845, 846, 847, 848, 849, 850, 799, 851, 852, 911, 912, 913, 914, 915, 916, 917, 918, 919, 946, 947, 948, 949, 950, 951, 952, 953, 954] (by decide +kernel) (by decide +kernel)
set_option maxRecDepth 20000 in
theorem gL_law_X5_image : GoodIn wsL_law (wsV RL 129 RX5 yX5_image wsX5_image) := goodIn_app (goodIn_of _ (by decide +kernel)) ggL_law_X5_image
set_option maxRecDepth 20000 in
theorem ggL_law_X6_image : GoodIn wsL_law wsX6_image := goodIn_r _ [856, 80, 79, 82, 130, 131, 5, 132, 133, 134, 135, 136, 137, 138, 139, 140, 83, 920, 921, 922, 923, 924, 925, 926, 927, 928, 929, 930, 931, 932, 933, 934, 935, 936, 937, 938, 939, 940, 941, 942, 943, 944, 945] (by decide +kernel) (by decide +kernel)
set_option maxRecDepth 20000 in
theorem gL_law_X6_image : GoodIn wsL_law (wsV RL 132 RX6 yX6_image wsX6_image) := goodIn_app (goodIn_of _ (by decide +kernel)) ggL_law_X6_image
set_option maxRecDepth 20000 in
theorem ggL_law_X5_from : GoodIn wsL_law wsX5_from := goodIn_r _ [860, 17, 16, 109, 110, 111, 2, 112, 35, 312, 313, 314, 315, 845, 846, 847, 15, 848, 41, 849, 42, 43, 44, 45, 850, 46, 799, 851, 852, 120, 121, 122, 123, 36, 37, 911, 912, 913, 914, 915, 916, 917, 918, 919, 946, 947, 948, 949, 950, 951, 952, 953, 954] (by decide +kernel) (by decide +kernel)
set_option maxRecDepth 20000 in
theorem gL_law_X5_from : GoodIn wsL_law (wsV RL 133 RX5 yX5_from wsX5_from) := goodIn_app (goodIn_of _ (by decide +kernel)) ggL_law_X5_from
set_option maxRecDepth 20000 in
theorem ggL_law_X6_from : GoodIn wsL_law wsX6_from := goodIn_r _ [864, 82, 79, 80, 130, 131, 5, 132, 133, 134, 135, 136, 137, 138, 139, 140, 83, 320, 321, 322, 323, 920, 921, 922, 923, 924, 925, 926, 927, 928, 929, 930, 931, 932, 933, 934, 935, 936, 937, 938, 939, 940, 941, 942, 943, 944, 945] (by decide +kernel) (by decide +kernel)
set_option maxRecDepth 20000 in
theorem gL_law_X6_from : GoodIn wsL_law (wsV RL 136 RX6 yX6_from wsX6_from) := goodIn_app (goodIn_of _ (by decide +kernel)) ggL_law_X6_from
set_option maxRecDepth 20000 in
theorem ggL_law_X5_status : GoodIn wsL_law wsX5_status := goodIn_r _ [868, 35, 109, 110, 111, 2, 112, 911, 912, 913, 914, 915, 916, 917, 918, 919] (by decide +kernel) (by decide +kernel)
set_option maxRecDepth 20000 in
theorem gL_law_X5_status : GoodIn wsL_law (wsV RL 137 RX5 yX5_status wsX5_status) := goodIn_app (goodIn_of _ (by decide +kernel)) ggL_law_X5_status
set_option maxRecDepth 20000 in
theorem ggL_law_X6_status : GoodIn wsL_law wsX6_status := goodIn_r _ [872, 477, 83, 130, 131, 5, 132, 137, 138, 139, 140, 920, 921, 922, 923, 924, 925, 926, 927, 928, 929, 930, 931, 932, 933, 934, 935, 936, 937, 938, 939, 940, 941, 942, 943, 944, 945] (by decide +kernel) (by decide +kernel)
set_option maxRecDepth 20000 in
theorem gL_law_X6_status : GoodIn wsL_law (wsV RL 140 RX6 yX6_status wsX6_status) := goodIn_app (goodIn_of _ (by decide +kernel)) ggL_law_X6_status
set_option maxRecDepth 20000 in
theorem ggL_law_X5_count : GoodIn wsL_law wsX5_count := goodIn_r _ [876, 16, 109, 110, 111, 2, 112, 35, 877, 878, 879, 15, 880, 849, 850, 799, 881, 882, 883, 884, 44, 911, 912, 913, 914, 915, 916, 917, 918, 919, 946, 947, 948, 949, 950, 951, 952, 953, 954] (by decide +kernel) (by decide +kernel)
set_option maxRecDepth 20000 in
theorem gL_law_X5_count : GoodIn wsL_law (wsV RL 141 RX5 yX5_count wsX5_count) := goodIn_app (goodIn_of _ (by decide +kernel)) ggL_law_X5_count
set_option maxRecDepth 20000 in
theorem ggL_law_X6_count : GoodIn wsL_law wsX6_count := goodIn_r _ [888, 477, 79, 130, 131, 5, 132, 889, 890, 891, 892, 133, 134, 135, 136, 137, 138, 139, 140, 83, 920, 921, 922, 923, 924, 925, 926, 927, 928, 929, 930, 931, 932, 933, 934, 935, 936, 937, 938, 939, 940, 941, 942, 943, 944, 945] (by decide +kernel) (by decide +kernel)
set_option maxRecDepth 20000 in
theorem gL_law_X6_count : GoodIn wsL_law (wsV RL 144 RX6 yX6_count wsX6_count) := goodIn_app (goodIn_of _ (by decide +kernel)) ggL_law_X6_count
set_option maxRecDepth 20000 in
theorem ggL_law_X5_digest : GoodIn wsL_law wsX5_digest := goodIn_r _ [896, 897, 898, 16, 108, 107, 166, 344, 354, 471, 470, 786, 785, 33, 877, 878, 879, 15, 880, 849, 850, 799, 881, 882, 883, 884, 44, 899, 900, 2, 901, 812, 813, 814, 815, 816, 817, 818, 819, 32, 820, 630, 631, 833, 834, 835, 836, 70, 71, 911, 912, 913, 914, 915, 916, 917, 918, 919, 946, 947, 948, 949, 950, 951, 952, 953, 954, 971, 972, 973, 974, 975] (by decide +kernel) (by decide +kernel)
set_option maxRecDepth 20000 in
theorem gL_law_X5_digest : GoodIn wsL_law (wsV RL 145 RX5 yX5_digest wsX5_digest) := goodIn_app (goodIn_of _ (by decide +kernel)) ggL_law_X5_digest
set_option maxRecDepth 20000 in
theorem ggL_law_X6_digest : GoodIn wsL_law wsX6_digest := goodIn_r _ [905, 906, 907, 79, 85, 84, 908, 909, 5, 910, 889, 890, 891, 892, 825, 826, 827, 828, 580, 920, 921, 922, 923, 924, 925, 926, 927, 928, 929, 930, 931, 932, 933, 934, 935, 936, 937, 938, 939, 940, 941, 942, 943, 944, 945] (by decide +kernel) (by decide +kernel)
set_option maxRecDepth 20000 in
theorem gL_law_X6_digest : GoodIn wsL_law (wsV RL 149 RX6 yX6_digest wsX6_digest) := goodIn_app (goodIn_of _ (by decide +kernel)) ggL_law_X6_digest
