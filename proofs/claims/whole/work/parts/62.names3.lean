theorem dX6_told_7 : decode cX6_told 7 = .ok (.isub, 1) := by decide +kernel
theorem dX6_told_8 : decode cX6_told 8 = .ok (.invokestatic 45, 3) := by decide +kernel
theorem dX6_told_11 : decode cX6_told 11 = .ok (.ifCond .eq 21, 3) := by decide +kernel
theorem dX6_told_14 : decode cX6_told 14 = .ok (.iload_n 2, 1) := by decide +kernel
theorem dX6_told_15 : decode cX6_told 15 = .ok (.iconst 0, 1) := by decide +kernel
theorem dX6_told_16 : decode cX6_told 16 = .ok (.iconst 3, 1) := by decide +kernel
theorem dX6_told_17 : decode cX6_told 17 = .ok (.invokestatic 45, 3) := by decide +kernel
theorem dX6_told_20 : decode cX6_told 20 = .ok (.ifCond .eq 12, 3) := by decide +kernel
theorem dX6_told_23 : decode cX6_told 23 = .ok (.aload_n 0, 1) := by decide +kernel
theorem dX6_told_24 : decode cX6_told 24 = .ok (.iload_n 1, 1) := by decide +kernel
theorem dX6_told_25 : decode cX6_told 25 = .ok (.iload_n 2, 1) := by decide +kernel
theorem dX6_told_26 : decode cX6_told 26 = .ok (.invokevirtual 41, 3) := by decide +kernel
theorem dX6_told_29 : decode cX6_told 29 = .ok (.goto 4, 3) := by decide +kernel
theorem dX6_told_32 : decode cX6_told 32 = .ok (.iconst (-1), 1) := by decide +kernel
theorem dX6_told_33 : decode cX6_told 33 = .ok (.ireturn, 1) := by decide +kernel
theorem dX6_power_0 : decode cX6_power 0 = .ok (.iconst 1, 1) := by decide +kernel
theorem dX6_power_1 : decode cX6_power 1 = .ok (.istore_n 1, 1) := by decide +kernel
theorem dX6_power_2 : decode cX6_power 2 = .ok (.iconst 0, 1) := by decide +kernel
theorem dX6_power_3 : decode cX6_power 3 = .ok (.istore_n 2, 1) := by decide +kernel
theorem dX6_power_4 : decode cX6_power 4 = .ok (.iload_n 2, 1) := by decide +kernel
theorem dX6_power_5 : decode cX6_power 5 = .ok (.iload_n 0, 1) := by decide +kernel
theorem dX6_power_6 : decode cX6_power 6 = .ok (.if_icmp .ge 13, 3) := by decide +kernel
theorem dX6_power_9 : decode cX6_power 9 = .ok (.iload_n 1, 1) := by decide +kernel
theorem dX6_power_10 : decode cX6_power 10 = .ok (.iconst 3, 1) := by decide +kernel
theorem dX6_power_11 : decode cX6_power 11 = .ok (.imul, 1) := by decide +kernel
theorem dX6_power_12 : decode cX6_power 12 = .ok (.istore_n 1, 1) := by decide +kernel
theorem dX6_power_13 : decode cX6_power 13 = .ok (.iinc 2 1, 3) := by decide +kernel
theorem dX6_power_16 : decode cX6_power 16 = .ok (.goto (-12), 3) := by decide +kernel
theorem dX6_power_19 : decode cX6_power 19 = .ok (.iload_n 1, 1) := by decide +kernel
theorem dX6_power_20 : decode cX6_power 20 = .ok (.ireturn, 1) := by decide +kernel
set_option maxRecDepth 20000 in
theorem ggX6_sign_X6_power : GoodIn wsX6_sign wsX6_power := goodIn_r _ [4] (by decide +kernel) (by decide +kernel)
set_option maxRecDepth 20000 in
theorem gX6_sign_X6_power : GoodIn wsX6_sign (va_wsS RX6 56 yX6_power wsX6_power) := goodIn_app (goodIn_of _ (by decide +kernel)) ggX6_sign_X6_power
theorem dX6_sign_0 : decode cX6_sign 0 = .ok (.iload_n 0, 1) := by decide +kernel
theorem dX6_sign_1 : decode cX6_sign 1 = .ok (.iload_n 1, 1) := by decide +kernel
theorem dX6_sign_2 : decode cX6_sign 2 = .ok (.invokestatic 56, 3) := by decide +kernel
theorem dX6_sign_5 : decode cX6_sign 5 = .ok (.idiv, 1) := by decide +kernel
theorem dX6_sign_6 : decode cX6_sign 6 = .ok (.iconst 3, 1) := by decide +kernel
theorem dX6_sign_7 : decode cX6_sign 7 = .ok (.irem, 1) := by decide +kernel
theorem dX6_sign_8 : decode cX6_sign 8 = .ok (.ireturn, 1) := by decide +kernel
set_option maxRecDepth 20000 in
theorem ggX6_row_X6_in : GoodIn wsX6_row wsX6_in := goodIn_r _ [9] (by decide +kernel) (by decide +kernel)
set_option maxRecDepth 20000 in
theorem gX6_row_X6_in : GoodIn wsX6_row (va_wsS RX6 45 yX6_in wsX6_in) := goodIn_app (goodIn_of _ (by decide +kernel)) ggX6_row_X6_in
set_option maxRecDepth 20000 in
theorem ggX6_row_X6_at : GoodIn wsX6_row wsX6_at := goodIn_r _ [13, 14, 18, 19, 20, 21, 22, 23, 24, 25, 26, 27, 28, 29] (by decide +kernel) (by decide +kernel)
set_option maxRecDepth 20000 in
theorem gX6_row_X6_at : GoodIn wsX6_row (wsV RX6 41 RX6 yX6_at wsX6_at) := goodIn_app (goodIn_of _ (by decide +kernel)) ggX6_row_X6_at
set_option maxRecDepth 20000 in
theorem ggX6_row_X6_power : GoodIn wsX6_row wsX6_power := goodIn_r _ [17] (by decide +kernel) (by decide +kernel)
set_option maxRecDepth 20000 in
theorem gX6_row_X6_power : GoodIn wsX6_row (va_wsS RX6 56 yX6_power wsX6_power) := goodIn_app (goodIn_of _ (by decide +kernel)) ggX6_row_X6_power
theorem dX6_row_0 : decode cX6_row 0 = .ok (.iconst 3, 1) := by decide +kernel
theorem dX6_row_1 : decode cX6_row 1 = .ok (.newarray .int, 2) := by decide +kernel
theorem dX6_row_3 : decode cX6_row 3 = .ok (.dup, 1) := by decide +kernel
theorem dX6_row_4 : decode cX6_row 4 = .ok (.iconst 0, 1) := by decide +kernel
theorem dX6_row_5 : decode cX6_row 5 = .ok (.iload_n 1, 1) := by decide +kernel
theorem dX6_row_6 : decode cX6_row 6 = .ok (.iastore, 1) := by decide +kernel
theorem dX6_row_7 : decode cX6_row 7 = .ok (.dup, 1) := by decide +kernel
theorem dX6_row_8 : decode cX6_row 8 = .ok (.iconst 1, 1) := by decide +kernel
theorem dX6_row_9 : decode cX6_row 9 = .ok (.aload_n 0, 1) := by decide +kernel
theorem dX6_row_10 : decode cX6_row 10 = .ok (.getfield 37, 3) := by decide +kernel
theorem dX6_row_13 : decode cX6_row 13 = .ok (.iconst 1, 1) := by decide +kernel
theorem dX6_row_14 : decode cX6_row 14 = .ok (.if_icmp .le 7, 3) := by decide +kernel
theorem dX6_row_17 : decode cX6_row 17 = .ok (.iload_n 2, 1) := by decide +kernel
theorem dX6_row_18 : decode cX6_row 18 = .ok (.goto 4, 3) := by decide +kernel
theorem dX6_row_21 : decode cX6_row 21 = .ok (.iconst 0, 1) := by decide +kernel
theorem dX6_row_22 : decode cX6_row 22 = .ok (.iastore, 1) := by decide +kernel
theorem dX6_row_23 : decode cX6_row 23 = .ok (.dup, 1) := by decide +kernel
theorem dX6_row_24 : decode cX6_row 24 = .ok (.iconst 2, 1) := by decide +kernel
theorem dX6_row_25 : decode cX6_row 25 = .ok (.aload_n 0, 1) := by decide +kernel
theorem dX6_row_26 : decode cX6_row 26 = .ok (.getfield 37, 3) := by decide +kernel
theorem dX6_row_29 : decode cX6_row 29 = .ok (.iconst 2, 1) := by decide +kernel
theorem dX6_row_30 : decode cX6_row 30 = .ok (.if_icmp .le 7, 3) := by decide +kernel
theorem dX6_row_33 : decode cX6_row 33 = .ok (.iload_n 3, 1) := by decide +kernel
theorem dX6_row_34 : decode cX6_row 34 = .ok (.goto 4, 3) := by decide +kernel
theorem dX6_row_37 : decode cX6_row 37 = .ok (.iconst 0, 1) := by decide +kernel
theorem dX6_row_38 : decode cX6_row 38 = .ok (.iastore, 1) := by decide +kernel
theorem dX6_row_39 : decode cX6_row 39 = .ok (.astore 4, 2) := by decide +kernel
theorem dX6_row_41 : decode cX6_row 41 = .ok (.iconst 0, 1) := by decide +kernel
theorem dX6_row_42 : decode cX6_row 42 = .ok (.istore 5, 2) := by decide +kernel
theorem dX6_row_44 : decode cX6_row 44 = .ok (.iload 5, 2) := by decide +kernel
theorem dX6_row_46 : decode cX6_row 46 = .ok (.iconst 3, 1) := by decide +kernel
theorem dX6_row_47 : decode cX6_row 47 = .ok (.if_icmp .ge 26, 3) := by decide +kernel
theorem dX6_row_50 : decode cX6_row 50 = .ok (.aload 4, 2) := by decide +kernel
theorem dX6_row_52 : decode cX6_row 52 = .ok (.iload 5, 2) := by decide +kernel
theorem dX6_row_54 : decode cX6_row 54 = .ok (.iaload, 1) := by decide +kernel
theorem dX6_row_55 : decode cX6_row 55 = .ok (.ldc 60, 2) := by decide +kernel
theorem dX6_row_57 : decode cX6_row 57 = .ok (.ldc 61, 2) := by decide +kernel
theorem dX6_row_59 : decode cX6_row 59 = .ok (.invokestatic 45, 3) := by decide +kernel
theorem dX6_row_62 : decode cX6_row 62 = .ok (.ifCond .ne 5, 3) := by decide +kernel
theorem dX6_row_65 : decode cX6_row 65 = .ok (.iconst (-1), 1) := by decide +kernel
theorem dX6_row_66 : decode cX6_row 66 = .ok (.ireturn, 1) := by decide +kernel
theorem dX6_row_67 : decode cX6_row 67 = .ok (.iinc 5 1, 3) := by decide +kernel
theorem dX6_row_70 : decode cX6_row 70 = .ok (.goto (-26), 3) := by decide +kernel
theorem dX6_row_73 : decode cX6_row 73 = .ok (.iconst 0, 1) := by decide +kernel
theorem dX6_row_74 : decode cX6_row 74 = .ok (.istore 5, 2) := by decide +kernel
theorem dX6_row_76 : decode cX6_row 76 = .ok (.iconst 0, 1) := by decide +kernel
theorem dX6_row_77 : decode cX6_row 77 = .ok (.istore 6, 2) := by decide +kernel
theorem dX6_row_79 : decode cX6_row 79 = .ok (.iload 6, 2) := by decide +kernel
theorem dX6_row_81 : decode cX6_row 81 = .ok (.aload_n 0, 1) := by decide +kernel
theorem dX6_row_82 : decode cX6_row 82 = .ok (.getfield 49, 3) := by decide +kernel
theorem dX6_row_85 : decode cX6_row 85 = .ok (.if_icmp .ge 93, 3) := by decide +kernel
theorem dX6_row_88 : decode cX6_row 88 = .ok (.aload_n 0, 1) := by decide +kernel
theorem dX6_row_89 : decode cX6_row 89 = .ok (.iload 6, 2) := by decide +kernel
theorem dX6_row_91 : decode cX6_row 91 = .ok (.iconst 0, 1) := by decide +kernel
theorem dX6_row_92 : decode cX6_row 92 = .ok (.invokevirtual 41, 3) := by decide +kernel
theorem dX6_row_95 : decode cX6_row 95 = .ok (.aload 4, 2) := by decide +kernel
theorem dX6_row_97 : decode cX6_row 97 = .ok (.iconst 0, 1) := by decide +kernel
theorem dX6_row_98 : decode cX6_row 98 = .ok (.iaload, 1) := by decide +kernel
theorem dX6_row_99 : decode cX6_row 99 = .ok (.imul, 1) := by decide +kernel
theorem dX6_row_100 : decode cX6_row 100 = .ok (.aload_n 0, 1) := by decide +kernel
theorem dX6_row_101 : decode cX6_row 101 = .ok (.iload 6, 2) := by decide +kernel
theorem dX6_row_103 : decode cX6_row 103 = .ok (.iconst 1, 1) := by decide +kernel
theorem dX6_row_104 : decode cX6_row 104 = .ok (.invokevirtual 41, 3) := by decide +kernel
theorem dX6_row_107 : decode cX6_row 107 = .ok (.aload 4, 2) := by decide +kernel
theorem dX6_row_109 : decode cX6_row 109 = .ok (.iconst 1, 1) := by decide +kernel
theorem dX6_row_110 : decode cX6_row 110 = .ok (.iaload, 1) := by decide +kernel
theorem dX6_row_111 : decode cX6_row 111 = .ok (.imul, 1) := by decide +kernel
theorem dX6_row_112 : decode cX6_row 112 = .ok (.iadd, 1) := by decide +kernel
theorem dX6_row_113 : decode cX6_row 113 = .ok (.aload_n 0, 1) := by decide +kernel
theorem dX6_row_114 : decode cX6_row 114 = .ok (.iload 6, 2) := by decide +kernel
theorem dX6_row_116 : decode cX6_row 116 = .ok (.iconst 2, 1) := by decide +kernel
theorem dX6_row_117 : decode cX6_row 117 = .ok (.invokevirtual 41, 3) := by decide +kernel
theorem dX6_row_120 : decode cX6_row 120 = .ok (.aload 4, 2) := by decide +kernel
theorem dX6_row_122 : decode cX6_row 122 = .ok (.iconst 2, 1) := by decide +kernel
theorem dX6_row_123 : decode cX6_row 123 = .ok (.iaload, 1) := by decide +kernel
theorem dX6_row_124 : decode cX6_row 124 = .ok (.imul, 1) := by decide +kernel
theorem dX6_row_125 : decode cX6_row 125 = .ok (.iadd, 1) := by decide +kernel
theorem dX6_row_126 : decode cX6_row 126 = .ok (.istore 7, 2) := by decide +kernel
theorem dX6_row_128 : decode cX6_row 128 = .ok (.iload 5, 2) := by decide +kernel
theorem dX6_row_130 : decode cX6_row 130 = .ok (.iload 6, 2) := by decide +kernel
theorem dX6_row_132 : decode cX6_row 132 = .ok (.invokestatic 56, 3) := by decide +kernel
theorem dX6_row_135 : decode cX6_row 135 = .ok (.iload 7, 2) := by decide +kernel
theorem dX6_row_137 : decode cX6_row 137 = .ok (.aload_n 0, 1) := by decide +kernel
theorem dX6_row_138 : decode cX6_row 138 = .ok (.iload 6, 2) := by decide +kernel
theorem dX6_row_140 : decode cX6_row 140 = .ok (.iconst 3, 1) := by decide +kernel
theorem dX6_row_141 : decode cX6_row 141 = .ok (.invokevirtual 41, 3) := by decide +kernel
theorem dX6_row_144 : decode cX6_row 144 = .ok (.if_icmp .ge 7, 3) := by decide +kernel
theorem dX6_row_147 : decode cX6_row 147 = .ok (.iconst 0, 1) := by decide +kernel
theorem dX6_row_148 : decode cX6_row 148 = .ok (.goto 20, 3) := by decide +kernel
theorem dX6_row_151 : decode cX6_row 151 = .ok (.iload 7, 2) := by decide +kernel
theorem dX6_row_153 : decode cX6_row 153 = .ok (.aload_n 0, 1) := by decide +kernel
theorem dX6_row_154 : decode cX6_row 154 = .ok (.iload 6, 2) := by decide +kernel
theorem dX6_row_156 : decode cX6_row 156 = .ok (.iconst 3, 1) := by decide +kernel
theorem dX6_row_157 : decode cX6_row 157 = .ok (.invokevirtual 41, 3) := by decide +kernel
theorem dX6_row_160 : decode cX6_row 160 = .ok (.if_icmp .ne 7, 3) := by decide +kernel
theorem dX6_row_163 : decode cX6_row 163 = .ok (.iconst 1, 1) := by decide +kernel
theorem dX6_row_164 : decode cX6_row 164 = .ok (.goto 4, 3) := by decide +kernel
theorem dX6_row_167 : decode cX6_row 167 = .ok (.iconst 2, 1) := by decide +kernel
theorem dX6_row_168 : decode cX6_row 168 = .ok (.imul, 1) := by decide +kernel
theorem dX6_row_169 : decode cX6_row 169 = .ok (.iadd, 1) := by decide +kernel
theorem dX6_row_170 : decode cX6_row 170 = .ok (.istore 5, 2) := by decide +kernel
theorem dX6_row_172 : decode cX6_row 172 = .ok (.iinc 6 1, 3) := by decide +kernel
theorem dX6_row_175 : decode cX6_row 175 = .ok (.goto (-96), 3) := by decide +kernel
theorem dX6_row_178 : decode cX6_row 178 = .ok (.iload 5, 2) := by decide +kernel
theorem dX6_row_180 : decode cX6_row 180 = .ok (.ireturn, 1) := by decide +kernel
theorem dX6_begins_0 : decode cX6_begins 0 = .ok (.aload_n 0, 1) := by decide +kernel
theorem dX6_begins_1 : decode cX6_begins 1 = .ok (.iconst 0, 1) := by decide +kernel
theorem dX6_begins_2 : decode cX6_begins 2 = .ok (.putfield 62, 3) := by decide +kernel
theorem dX6_begins_5 : decode cX6_begins 5 = .ok (.return_, 1) := by decide +kernel
set_option maxRecDepth 20000 in
theorem ggX6_adds_X6_at : GoodIn wsX6_adds wsX6_at := goodIn_r _ [8, 9, 10, 11, 12, 13, 14, 15, 16, 17, 18, 19, 20, 21] (by decide +kernel) (by decide +kernel)
set_option maxRecDepth 20000 in
theorem gX6_adds_X6_at : GoodIn wsX6_adds (wsV RX6 41 RX6 yX6_at wsX6_at) := goodIn_app (goodIn_of _ (by decide +kernel)) ggX6_adds_X6_at
theorem dX6_adds_0 : decode cX6_adds 0 = .ok (.iconst 0, 1) := by decide +kernel
theorem dX6_adds_1 : decode cX6_adds 1 = .ok (.istore_n 3, 1) := by decide +kernel
theorem dX6_adds_2 : decode cX6_adds 2 = .ok (.iload_n 3, 1) := by decide +kernel
theorem dX6_adds_3 : decode cX6_adds 3 = .ok (.iconst 4, 1) := by decide +kernel
theorem dX6_adds_4 : decode cX6_adds 4 = .ok (.if_icmp .ge 45, 3) := by decide +kernel
theorem dX6_adds_7 : decode cX6_adds 7 = .ok (.aload_n 0, 1) := by decide +kernel
theorem dX6_adds_8 : decode cX6_adds 8 = .ok (.getfield 21, 3) := by decide +kernel
theorem dX6_adds_11 : decode cX6_adds 11 = .ok (.iconst 4, 1) := by decide +kernel
theorem dX6_adds_12 : decode cX6_adds 12 = .ok (.aload_n 0, 1) := by decide +kernel
theorem dX6_adds_13 : decode cX6_adds 13 = .ok (.getfield 62, 3) := by decide +kernel
theorem dX6_adds_16 : decode cX6_adds 16 = .ok (.imul, 1) := by decide +kernel
theorem dX6_adds_17 : decode cX6_adds 17 = .ok (.iload_n 3, 1) := by decide +kernel
theorem dX6_adds_18 : decode cX6_adds 18 = .ok (.iadd, 1) := by decide +kernel
theorem dX6_adds_19 : decode cX6_adds 19 = .ok (.iload_n 2, 1) := by decide +kernel
theorem dX6_adds_20 : decode cX6_adds 20 = .ok (.iconst 2, 1) := by decide +kernel
theorem dX6_adds_21 : decode cX6_adds 21 = .ok (.if_icmp .ne 14, 3) := by decide +kernel
theorem dX6_adds_24 : decode cX6_adds 24 = .ok (.aload_n 0, 1) := by decide +kernel
theorem dX6_adds_25 : decode cX6_adds 25 = .ok (.iload_n 1, 1) := by decide +kernel
theorem dX6_adds_26 : decode cX6_adds 26 = .ok (.iload_n 3, 1) := by decide +kernel
theorem dX6_adds_27 : decode cX6_adds 27 = .ok (.invokevirtual 41, 3) := by decide +kernel
theorem dX6_adds_30 : decode cX6_adds 30 = .ok (.ineg, 1) := by decide +kernel
theorem dX6_adds_31 : decode cX6_adds 31 = .ok (.i2l, 1) := by decide +kernel
theorem dX6_adds_32 : decode cX6_adds 32 = .ok (.goto 10, 3) := by decide +kernel
theorem dX6_adds_35 : decode cX6_adds 35 = .ok (.aload_n 0, 1) := by decide +kernel
theorem dX6_adds_36 : decode cX6_adds 36 = .ok (.iload_n 1, 1) := by decide +kernel
theorem dX6_adds_37 : decode cX6_adds 37 = .ok (.iload_n 3, 1) := by decide +kernel
theorem dX6_adds_38 : decode cX6_adds 38 = .ok (.invokevirtual 41, 3) := by decide +kernel
theorem dX6_adds_41 : decode cX6_adds 41 = .ok (.i2l, 1) := by decide +kernel
theorem dX6_adds_42 : decode cX6_adds 42 = .ok (.lastore, 1) := by decide +kernel
theorem dX6_adds_43 : decode cX6_adds 43 = .ok (.iinc 3 1, 3) := by decide +kernel
theorem dX6_adds_46 : decode cX6_adds 46 = .ok (.goto (-44), 3) := by decide +kernel
theorem dX6_adds_49 : decode cX6_adds 49 = .ok (.aload_n 0, 1) := by decide +kernel
theorem dX6_adds_50 : decode cX6_adds 50 = .ok (.getfield 25, 3) := by decide +kernel
theorem dX6_adds_53 : decode cX6_adds 53 = .ok (.aload_n 0, 1) := by decide +kernel
theorem dX6_adds_54 : decode cX6_adds 54 = .ok (.getfield 62, 3) := by decide +kernel
theorem dX6_adds_57 : decode cX6_adds 57 = .ok (.iload_n 2, 1) := by decide +kernel
theorem dX6_adds_58 : decode cX6_adds 58 = .ok (.iconst 1, 1) := by decide +kernel
theorem dX6_adds_59 : decode cX6_adds 59 = .ok (.if_icmp .ne 7, 3) := by decide +kernel
theorem dX6_adds_62 : decode cX6_adds 62 = .ok (.iconst 1, 1) := by decide +kernel
theorem dX6_adds_63 : decode cX6_adds 63 = .ok (.goto 4, 3) := by decide +kernel
theorem dX6_adds_66 : decode cX6_adds 66 = .ok (.iconst 0, 1) := by decide +kernel
theorem dX6_adds_67 : decode cX6_adds 67 = .ok (.bastore, 1) := by decide +kernel
theorem dX6_adds_68 : decode cX6_adds 68 = .ok (.aload_n 0, 1) := by decide +kernel
theorem dX6_adds_69 : decode cX6_adds 69 = .ok (.dup, 1) := by decide +kernel
theorem dX6_adds_70 : decode cX6_adds 70 = .ok (.getfield 62, 3) := by decide +kernel
theorem dX6_adds_73 : decode cX6_adds 73 = .ok (.iconst 1, 1) := by decide +kernel
theorem dX6_adds_74 : decode cX6_adds 74 = .ok (.iadd, 1) := by decide +kernel
theorem dX6_adds_75 : decode cX6_adds 75 = .ok (.putfield 62, 3) := by decide +kernel
theorem dX6_adds_78 : decode cX6_adds 78 = .ok (.return_, 1) := by decide +kernel
theorem dX6_puts_0 : decode cX6_puts 0 = .ok (.iconst 0, 1) := by decide +kernel
theorem dX6_puts_1 : decode cX6_puts 1 = .ok (.istore 8, 2) := by decide +kernel
theorem dX6_puts_3 : decode cX6_puts 3 = .ok (.iload 8, 2) := by decide +kernel
theorem dX6_puts_5 : decode cX6_puts 5 = .ok (.iconst 4, 1) := by decide +kernel
theorem dX6_puts_6 : decode cX6_puts 6 = .ok (.if_icmp .ge 52, 3) := by decide +kernel
theorem dX6_puts_9 : decode cX6_puts 9 = .ok (.aload_n 0, 1) := by decide +kernel
theorem dX6_puts_10 : decode cX6_puts 10 = .ok (.getfield 28, 3) := by decide +kernel
theorem dX6_puts_13 : decode cX6_puts 13 = .ok (.iconst 4, 1) := by decide +kernel
theorem dX6_puts_14 : decode cX6_puts 14 = .ok (.aload_n 0, 1) := by decide +kernel
theorem dX6_puts_15 : decode cX6_puts 15 = .ok (.getfield 65, 3) := by decide +kernel
theorem dX6_puts_18 : decode cX6_puts 18 = .ok (.imul, 1) := by decide +kernel
theorem dX6_puts_19 : decode cX6_puts 19 = .ok (.iload 8, 2) := by decide +kernel
theorem dX6_puts_21 : decode cX6_puts 21 = .ok (.iadd, 1) := by decide +kernel
theorem dX6_puts_22 : decode cX6_puts 22 = .ok (.aload_n 0, 1) := by decide +kernel
theorem dX6_puts_23 : decode cX6_puts 23 = .ok (.getfield 21, 3) := by decide +kernel
theorem dX6_puts_26 : decode cX6_puts 26 = .ok (.iconst 4, 1) := by decide +kernel
theorem dX6_puts_27 : decode cX6_puts 27 = .ok (.iload_n 1, 1) := by decide +kernel
theorem dX6_puts_28 : decode cX6_puts 28 = .ok (.imul, 1) := by decide +kernel
theorem dX6_puts_29 : decode cX6_puts 29 = .ok (.iload 8, 2) := by decide +kernel
theorem dX6_puts_31 : decode cX6_puts 31 = .ok (.iadd, 1) := by decide +kernel
theorem dX6_puts_32 : decode cX6_puts 32 = .ok (.laload, 1) := by decide +kernel
theorem dX6_puts_33 : decode cX6_puts 33 = .ok (.lload_n 2, 1) := by decide +kernel
theorem dX6_puts_34 : decode cX6_puts 34 = .ok (.lmul, 1) := by decide +kernel
theorem dX6_puts_35 : decode cX6_puts 35 = .ok (.aload_n 0, 1) := by decide +kernel
theorem dX6_puts_36 : decode cX6_puts 36 = .ok (.getfield 21, 3) := by decide +kernel
theorem dX6_puts_39 : decode cX6_puts 39 = .ok (.iconst 4, 1) := by decide +kernel
theorem dX6_puts_40 : decode cX6_puts 40 = .ok (.iload 4, 2) := by decide +kernel
theorem dX6_puts_42 : decode cX6_puts 42 = .ok (.imul, 1) := by decide +kernel
theorem dX6_puts_43 : decode cX6_puts 43 = .ok (.iload 8, 2) := by decide +kernel
theorem dX6_puts_45 : decode cX6_puts 45 = .ok (.iadd, 1) := by decide +kernel
theorem dX6_puts_46 : decode cX6_puts 46 = .ok (.laload, 1) := by decide +kernel
theorem dX6_puts_47 : decode cX6_puts 47 = .ok (.lload 5, 2) := by decide +kernel
theorem dX6_puts_49 : decode cX6_puts 49 = .ok (.lmul, 1) := by decide +kernel
theorem dX6_puts_50 : decode cX6_puts 50 = .ok (.ladd, 1) := by decide +kernel
theorem dX6_puts_51 : decode cX6_puts 51 = .ok (.lastore, 1) := by decide +kernel
theorem dX6_puts_52 : decode cX6_puts 52 = .ok (.iinc 8 1, 3) := by decide +kernel
theorem dX6_puts_55 : decode cX6_puts 55 = .ok (.goto (-52), 3) := by decide +kernel
theorem dX6_puts_58 : decode cX6_puts 58 = .ok (.aload_n 0, 1) := by decide +kernel
theorem dX6_puts_59 : decode cX6_puts 59 = .ok (.getfield 31, 3) := by decide +kernel
theorem dX6_puts_62 : decode cX6_puts 62 = .ok (.aload_n 0, 1) := by decide +kernel
theorem dX6_puts_63 : decode cX6_puts 63 = .ok (.getfield 65, 3) := by decide +kernel
theorem dX6_puts_66 : decode cX6_puts 66 = .ok (.iload 7, 2) := by decide +kernel
theorem dX6_puts_68 : decode cX6_puts 68 = .ok (.bastore, 1) := by decide +kernel
theorem dX6_puts_69 : decode cX6_puts 69 = .ok (.aload_n 0, 1) := by decide +kernel
theorem dX6_puts_70 : decode cX6_puts 70 = .ok (.dup, 1) := by decide +kernel
theorem dX6_puts_71 : decode cX6_puts 71 = .ok (.getfield 65, 3) := by decide +kernel
theorem dX6_puts_74 : decode cX6_puts 74 = .ok (.iconst 1, 1) := by decide +kernel
theorem dX6_puts_75 : decode cX6_puts 75 = .ok (.iadd, 1) := by decide +kernel
theorem dX6_puts_76 : decode cX6_puts 76 = .ok (.putfield 65, 3) := by decide +kernel
theorem dX6_puts_79 : decode cX6_puts 79 = .ok (.return_, 1) := by decide +kernel
theorem dX6_size_0 : decode cX6_size 0 = .ok (.lload_n 0, 1) := by decide +kernel
theorem dX6_size_1 : decode cX6_size 1 = .ok (.lconst 0, 1) := by decide +kernel
theorem dX6_size_2 : decode cX6_size 2 = .ok (.lcmp, 1) := by decide +kernel
theorem dX6_size_3 : decode cX6_size 3 = .ok (.ifCond .ge 8, 3) := by decide +kernel
theorem dX6_size_6 : decode cX6_size 6 = .ok (.lload_n 0, 1) := by decide +kernel
theorem dX6_size_7 : decode cX6_size 7 = .ok (.lneg, 1) := by decide +kernel
theorem dX6_size_8 : decode cX6_size 8 = .ok (.goto 4, 3) := by decide +kernel
theorem dX6_size_11 : decode cX6_size 11 = .ok (.lload_n 0, 1) := by decide +kernel
theorem dX6_size_12 : decode cX6_size 12 = .ok (.lreturn, 1) := by decide +kernel
set_option maxRecDepth 20000 in
theorem ggX6_takesOut_X6_puts : GoodIn wsX6_takesOut wsX6_puts := goodIn_r _ [11, 5, 4, 3, 6, 15, 16, 17, 18, 19, 20, 21, 22, 23, 24, 25, 26] (by decide +kernel) (by decide +kernel)
set_option maxRecDepth 20000 in
theorem gX6_takesOut_X6_puts : GoodIn wsX6_takesOut (wsV RX6 68 RX6 yX6_puts wsX6_puts) := goodIn_app (goodIn_of _ (by decide +kernel)) ggX6_takesOut_X6_puts
set_option maxRecDepth 20000 in
theorem ggX6_takesOut_X6_size : GoodIn wsX6_takesOut wsX6_size := goodIn_r _ [14] (by decide +kernel) (by decide +kernel)
set_option maxRecDepth 20000 in
theorem gX6_takesOut_X6_size : GoodIn wsX6_takesOut (va_wsS RX6 72 yX6_size wsX6_size) := goodIn_app (goodIn_of _ (by decide +kernel)) ggX6_takesOut_X6_size
theorem dX6_takesOut_0 : decode cX6_takesOut 0 = .ok (.iconst (-1), 1) := by decide +kernel
theorem dX6_takesOut_1 : decode cX6_takesOut 1 = .ok (.istore_n 2, 1) := by decide +kernel
theorem dX6_takesOut_2 : decode cX6_takesOut 2 = .ok (.iconst 0, 1) := by decide +kernel
theorem dX6_takesOut_3 : decode cX6_takesOut 3 = .ok (.istore_n 3, 1) := by decide +kernel
theorem dX6_takesOut_4 : decode cX6_takesOut 4 = .ok (.iload_n 3, 1) := by decide +kernel
theorem dX6_takesOut_5 : decode cX6_takesOut 5 = .ok (.aload_n 0, 1) := by decide +kernel
theorem dX6_takesOut_6 : decode cX6_takesOut 6 = .ok (.getfield 62, 3) := by decide +kernel
theorem dX6_takesOut_9 : decode cX6_takesOut 9 = .ok (.if_icmp .ge 40, 3) := by decide +kernel
theorem dX6_takesOut_12 : decode cX6_takesOut 12 = .ok (.iload_n 2, 1) := by decide +kernel
theorem dX6_takesOut_13 : decode cX6_takesOut 13 = .ok (.iconst (-1), 1) := by decide +kernel
theorem dX6_takesOut_14 : decode cX6_takesOut 14 = .ok (.if_icmp .ne 35, 3) := by decide +kernel
theorem dX6_takesOut_17 : decode cX6_takesOut 17 = .ok (.aload_n 0, 1) := by decide +kernel
theorem dX6_takesOut_18 : decode cX6_takesOut 18 = .ok (.getfield 25, 3) := by decide +kernel
theorem dX6_takesOut_21 : decode cX6_takesOut 21 = .ok (.iload_n 3, 1) := by decide +kernel
theorem dX6_takesOut_22 : decode cX6_takesOut 22 = .ok (.baload, 1) := by decide +kernel
theorem dX6_takesOut_23 : decode cX6_takesOut 23 = .ok (.ifCond .eq 20, 3) := by decide +kernel
theorem dX6_takesOut_26 : decode cX6_takesOut 26 = .ok (.aload_n 0, 1) := by decide +kernel
theorem dX6_takesOut_27 : decode cX6_takesOut 27 = .ok (.getfield 21, 3) := by decide +kernel
theorem dX6_takesOut_30 : decode cX6_takesOut 30 = .ok (.iconst 4, 1) := by decide +kernel
theorem dX6_takesOut_31 : decode cX6_takesOut 31 = .ok (.iload_n 3, 1) := by decide +kernel
theorem dX6_takesOut_32 : decode cX6_takesOut 32 = .ok (.imul, 1) := by decide +kernel
theorem dX6_takesOut_33 : decode cX6_takesOut 33 = .ok (.iload_n 1, 1) := by decide +kernel
theorem dX6_takesOut_34 : decode cX6_takesOut 34 = .ok (.iadd, 1) := by decide +kernel
theorem dX6_takesOut_35 : decode cX6_takesOut 35 = .ok (.laload, 1) := by decide +kernel
theorem dX6_takesOut_36 : decode cX6_takesOut 36 = .ok (.lconst 0, 1) := by decide +kernel
theorem dX6_takesOut_37 : decode cX6_takesOut 37 = .ok (.lcmp, 1) := by decide +kernel
theorem dX6_takesOut_38 : decode cX6_takesOut 38 = .ok (.ifCond .eq 5, 3) := by decide +kernel
theorem dX6_takesOut_41 : decode cX6_takesOut 41 = .ok (.iload_n 3, 1) := by decide +kernel
theorem dX6_takesOut_42 : decode cX6_takesOut 42 = .ok (.istore_n 2, 1) := by decide +kernel
theorem dX6_takesOut_43 : decode cX6_takesOut 43 = .ok (.iinc 3 1, 3) := by decide +kernel
theorem dX6_takesOut_46 : decode cX6_takesOut 46 = .ok (.goto (-42), 3) := by decide +kernel
theorem dX6_takesOut_49 : decode cX6_takesOut 49 = .ok (.aload_n 0, 1) := by decide +kernel
theorem dX6_takesOut_50 : decode cX6_takesOut 50 = .ok (.iconst 0, 1) := by decide +kernel
theorem dX6_takesOut_51 : decode cX6_takesOut 51 = .ok (.putfield 65, 3) := by decide +kernel
theorem dX6_takesOut_54 : decode cX6_takesOut 54 = .ok (.iconst 0, 1) := by decide +kernel
theorem dX6_takesOut_55 : decode cX6_takesOut 55 = .ok (.istore_n 3, 1) := by decide +kernel
theorem dX6_takesOut_56 : decode cX6_takesOut 56 = .ok (.iload_n 3, 1) := by decide +kernel
theorem dX6_takesOut_57 : decode cX6_takesOut 57 = .ok (.aload_n 0, 1) := by decide +kernel
theorem dX6_takesOut_58 : decode cX6_takesOut 58 = .ok (.getfield 62, 3) := by decide +kernel
theorem dX6_takesOut_61 : decode cX6_takesOut 61 = .ok (.if_icmp .ge 168, 3) := by decide +kernel
theorem dX6_takesOut_64 : decode cX6_takesOut 64 = .ok (.aload_n 0, 1) := by decide +kernel
theorem dX6_takesOut_65 : decode cX6_takesOut 65 = .ok (.getfield 21, 3) := by decide +kernel
theorem dX6_takesOut_68 : decode cX6_takesOut 68 = .ok (.iconst 4, 1) := by decide +kernel
theorem dX6_takesOut_69 : decode cX6_takesOut 69 = .ok (.iload_n 3, 1) := by decide +kernel
theorem dX6_takesOut_70 : decode cX6_takesOut 70 = .ok (.imul, 1) := by decide +kernel
theorem dX6_takesOut_71 : decode cX6_takesOut 71 = .ok (.iload_n 1, 1) := by decide +kernel
theorem dX6_takesOut_72 : decode cX6_takesOut 72 = .ok (.iadd, 1) := by decide +kernel
theorem dX6_takesOut_73 : decode cX6_takesOut 73 = .ok (.laload, 1) := by decide +kernel
theorem dX6_takesOut_74 : decode cX6_takesOut 74 = .ok (.lstore 4, 2) := by decide +kernel
theorem dX6_takesOut_76 : decode cX6_takesOut 76 = .ok (.iload_n 3, 1) := by decide +kernel
theorem dX6_takesOut_77 : decode cX6_takesOut 77 = .ok (.iload_n 2, 1) := by decide +kernel
theorem dX6_takesOut_78 : decode cX6_takesOut 78 = .ok (.if_icmp .ne 6, 3) := by decide +kernel
theorem dX6_takesOut_81 : decode cX6_takesOut 81 = .ok (.goto 142, 3) := by decide +kernel
theorem dX6_takesOut_84 : decode cX6_takesOut 84 = .ok (.lload 4, 2) := by decide +kernel
theorem dX6_takesOut_86 : decode cX6_takesOut 86 = .ok (.lconst 0, 1) := by decide +kernel
theorem dX6_takesOut_87 : decode cX6_takesOut 87 = .ok (.lcmp, 1) := by decide +kernel
theorem dX6_takesOut_88 : decode cX6_takesOut 88 = .ok (.ifCond .ne 20, 3) := by decide +kernel
theorem dX6_takesOut_91 : decode cX6_takesOut 91 = .ok (.aload_n 0, 1) := by decide +kernel
theorem dX6_takesOut_92 : decode cX6_takesOut 92 = .ok (.iload_n 3, 1) := by decide +kernel
theorem dX6_takesOut_93 : decode cX6_takesOut 93 = .ok (.lconst 1, 1) := by decide +kernel
theorem dX6_takesOut_94 : decode cX6_takesOut 94 = .ok (.iload_n 3, 1) := by decide +kernel
theorem dX6_takesOut_95 : decode cX6_takesOut 95 = .ok (.lconst 0, 1) := by decide +kernel
theorem dX6_takesOut_96 : decode cX6_takesOut 96 = .ok (.aload_n 0, 1) := by decide +kernel
theorem dX6_takesOut_97 : decode cX6_takesOut 97 = .ok (.getfield 25, 3) := by decide +kernel
theorem dX6_takesOut_100 : decode cX6_takesOut 100 = .ok (.iload_n 3, 1) := by decide +kernel
theorem dX6_takesOut_101 : decode cX6_takesOut 101 = .ok (.baload, 1) := by decide +kernel
theorem dX6_takesOut_102 : decode cX6_takesOut 102 = .ok (.invokevirtual 68, 3) := by decide +kernel
theorem dX6_takesOut_105 : decode cX6_takesOut 105 = .ok (.goto 118, 3) := by decide +kernel
theorem dX6_takesOut_108 : decode cX6_takesOut 108 = .ok (.iload_n 2, 1) := by decide +kernel
theorem dX6_takesOut_109 : decode cX6_takesOut 109 = .ok (.iconst (-1), 1) := by decide +kernel
theorem dX6_takesOut_110 : decode cX6_takesOut 110 = .ok (.if_icmp .eq 50, 3) := by decide +kernel
theorem dX6_takesOut_113 : decode cX6_takesOut 113 = .ok (.aload_n 0, 1) := by decide +kernel
theorem dX6_takesOut_114 : decode cX6_takesOut 114 = .ok (.getfield 21, 3) := by decide +kernel
theorem dX6_takesOut_117 : decode cX6_takesOut 117 = .ok (.iconst 4, 1) := by decide +kernel
theorem dX6_takesOut_118 : decode cX6_takesOut 118 = .ok (.iload_n 2, 1) := by decide +kernel
theorem dX6_takesOut_119 : decode cX6_takesOut 119 = .ok (.imul, 1) := by decide +kernel
theorem dX6_takesOut_120 : decode cX6_takesOut 120 = .ok (.iload_n 1, 1) := by decide +kernel
theorem dX6_takesOut_121 : decode cX6_takesOut 121 = .ok (.iadd, 1) := by decide +kernel
theorem dX6_takesOut_122 : decode cX6_takesOut 122 = .ok (.laload, 1) := by decide +kernel
theorem dX6_takesOut_123 : decode cX6_takesOut 123 = .ok (.lstore 6, 2) := by decide +kernel
theorem dX6_takesOut_125 : decode cX6_takesOut 125 = .ok (.aload_n 0, 1) := by decide +kernel
theorem dX6_takesOut_126 : decode cX6_takesOut 126 = .ok (.iload_n 3, 1) := by decide +kernel
theorem dX6_takesOut_127 : decode cX6_takesOut 127 = .ok (.lload 6, 2) := by decide +kernel
theorem dX6_takesOut_129 : decode cX6_takesOut 129 = .ok (.invokestatic 72, 3) := by decide +kernel
theorem dX6_takesOut_132 : decode cX6_takesOut 132 = .ok (.iload_n 2, 1) := by decide +kernel
theorem dX6_takesOut_133 : decode cX6_takesOut 133 = .ok (.lload 6, 2) := by decide +kernel
theorem dX6_takesOut_135 : decode cX6_takesOut 135 = .ok (.lconst 0, 1) := by decide +kernel
theorem dX6_takesOut_136 : decode cX6_takesOut 136 = .ok (.lcmp, 1) := by decide +kernel
theorem dX6_takesOut_137 : decode cX6_takesOut 137 = .ok (.ifCond .le 9, 3) := by decide +kernel
theorem dX6_takesOut_140 : decode cX6_takesOut 140 = .ok (.lload 4, 2) := by decide +kernel
theorem dX6_takesOut_142 : decode cX6_takesOut 142 = .ok (.lneg, 1) := by decide +kernel
theorem dX6_takesOut_143 : decode cX6_takesOut 143 = .ok (.goto 5, 3) := by decide +kernel
theorem dX6_takesOut_146 : decode cX6_takesOut 146 = .ok (.lload 4, 2) := by decide +kernel
theorem dX6_takesOut_148 : decode cX6_takesOut 148 = .ok (.aload_n 0, 1) := by decide +kernel
theorem dX6_takesOut_149 : decode cX6_takesOut 149 = .ok (.getfield 25, 3) := by decide +kernel
theorem dX6_takesOut_152 : decode cX6_takesOut 152 = .ok (.iload_n 3, 1) := by decide +kernel
theorem dX6_takesOut_153 : decode cX6_takesOut 153 = .ok (.baload, 1) := by decide +kernel
theorem dX6_takesOut_154 : decode cX6_takesOut 154 = .ok (.invokevirtual 68, 3) := by decide +kernel
theorem dX6_takesOut_157 : decode cX6_takesOut 157 = .ok (.goto 66, 3) := by decide +kernel
theorem dX6_takesOut_160 : decode cX6_takesOut 160 = .ok (.iconst 0, 1) := by decide +kernel
theorem dX6_takesOut_161 : decode cX6_takesOut 161 = .ok (.istore 6, 2) := by decide +kernel
theorem dX6_takesOut_163 : decode cX6_takesOut 163 = .ok (.iload 6, 2) := by decide +kernel
theorem dX6_takesOut_165 : decode cX6_takesOut 165 = .ok (.aload_n 0, 1) := by decide +kernel
theorem dX6_takesOut_166 : decode cX6_takesOut 166 = .ok (.getfield 62, 3) := by decide +kernel
theorem dX6_takesOut_169 : decode cX6_takesOut 169 = .ok (.if_icmp .ge 54, 3) := by decide +kernel
theorem dX6_takesOut_172 : decode cX6_takesOut 172 = .ok (.lload 4, 2) := by decide +kernel
theorem dX6_takesOut_174 : decode cX6_takesOut 174 = .ok (.lconst 0, 1) := by decide +kernel
theorem dX6_takesOut_175 : decode cX6_takesOut 175 = .ok (.lcmp, 1) := by decide +kernel
theorem dX6_takesOut_176 : decode cX6_takesOut 176 = .ok (.ifCond .le 47, 3) := by decide +kernel
theorem dX6_takesOut_179 : decode cX6_takesOut 179 = .ok (.aload_n 0, 1) := by decide +kernel
theorem dX6_takesOut_180 : decode cX6_takesOut 180 = .ok (.getfield 21, 3) := by decide +kernel
theorem dX6_takesOut_183 : decode cX6_takesOut 183 = .ok (.iconst 4, 1) := by decide +kernel
theorem dX6_takesOut_184 : decode cX6_takesOut 184 = .ok (.iload 6, 2) := by decide +kernel
theorem dX6_takesOut_186 : decode cX6_takesOut 186 = .ok (.imul, 1) := by decide +kernel
theorem dX6_takesOut_187 : decode cX6_takesOut 187 = .ok (.iload_n 1, 1) := by decide +kernel
theorem dX6_takesOut_188 : decode cX6_takesOut 188 = .ok (.iadd, 1) := by decide +kernel
theorem dX6_takesOut_189 : decode cX6_takesOut 189 = .ok (.laload, 1) := by decide +kernel
theorem dX6_takesOut_190 : decode cX6_takesOut 190 = .ok (.lconst 0, 1) := by decide +kernel
theorem dX6_takesOut_191 : decode cX6_takesOut 191 = .ok (.lcmp, 1) := by decide +kernel
theorem dX6_takesOut_192 : decode cX6_takesOut 192 = .ok (.ifCond .ge 25, 3) := by decide +kernel
theorem dX6_takesOut_195 : decode cX6_takesOut 195 = .ok (.aload_n 0, 1) := by decide +kernel
theorem dX6_takesOut_196 : decode cX6_takesOut 196 = .ok (.iload_n 3, 1) := by decide +kernel
theorem dX6_takesOut_197 : decode cX6_takesOut 197 = .ok (.aload_n 0, 1) := by decide +kernel
theorem dX6_takesOut_198 : decode cX6_takesOut 198 = .ok (.getfield 21, 3) := by decide +kernel
theorem dX6_takesOut_201 : decode cX6_takesOut 201 = .ok (.iconst 4, 1) := by decide +kernel
theorem dX6_takesOut_202 : decode cX6_takesOut 202 = .ok (.iload 6, 2) := by decide +kernel
theorem dX6_takesOut_204 : decode cX6_takesOut 204 = .ok (.imul, 1) := by decide +kernel
theorem dX6_takesOut_205 : decode cX6_takesOut 205 = .ok (.iload_n 1, 1) := by decide +kernel
theorem dX6_takesOut_206 : decode cX6_takesOut 206 = .ok (.iadd, 1) := by decide +kernel
theorem dX6_takesOut_207 : decode cX6_takesOut 207 = .ok (.laload, 1) := by decide +kernel
theorem dX6_takesOut_208 : decode cX6_takesOut 208 = .ok (.lneg, 1) := by decide +kernel
theorem dX6_takesOut_209 : decode cX6_takesOut 209 = .ok (.iload 6, 2) := by decide +kernel
theorem dX6_takesOut_211 : decode cX6_takesOut 211 = .ok (.lload 4, 2) := by decide +kernel
theorem dX6_takesOut_213 : decode cX6_takesOut 213 = .ok (.iconst 0, 1) := by decide +kernel
theorem dX6_takesOut_214 : decode cX6_takesOut 214 = .ok (.invokevirtual 68, 3) := by decide +kernel
theorem dX6_takesOut_217 : decode cX6_takesOut 217 = .ok (.iinc 6 1, 3) := by decide +kernel
theorem dX6_takesOut_220 : decode cX6_takesOut 220 = .ok (.goto (-57), 3) := by decide +kernel
theorem dX6_takesOut_223 : decode cX6_takesOut 223 = .ok (.iinc 3 1, 3) := by decide +kernel
theorem dX6_takesOut_226 : decode cX6_takesOut 226 = .ok (.goto (-170), 3) := by decide +kernel
theorem dX6_takesOut_229 : decode cX6_takesOut 229 = .ok (.iconst 0, 1) := by decide +kernel
theorem dX6_takesOut_230 : decode cX6_takesOut 230 = .ok (.istore_n 3, 1) := by decide +kernel
theorem dX6_takesOut_231 : decode cX6_takesOut 231 = .ok (.iload_n 3, 1) := by decide +kernel
theorem dX6_takesOut_232 : decode cX6_takesOut 232 = .ok (.iconst 4, 1) := by decide +kernel
theorem dX6_takesOut_233 : decode cX6_takesOut 233 = .ok (.aload_n 0, 1) := by decide +kernel
theorem dX6_takesOut_234 : decode cX6_takesOut 234 = .ok (.getfield 65, 3) := by decide +kernel
theorem dX6_takesOut_237 : decode cX6_takesOut 237 = .ok (.imul, 1) := by decide +kernel
theorem dX6_takesOut_238 : decode cX6_takesOut 238 = .ok (.if_icmp .ge 21, 3) := by decide +kernel
theorem dX6_takesOut_241 : decode cX6_takesOut 241 = .ok (.aload_n 0, 1) := by decide +kernel
theorem dX6_takesOut_242 : decode cX6_takesOut 242 = .ok (.getfield 21, 3) := by decide +kernel
theorem dX6_takesOut_245 : decode cX6_takesOut 245 = .ok (.iload_n 3, 1) := by decide +kernel
theorem dX6_takesOut_246 : decode cX6_takesOut 246 = .ok (.aload_n 0, 1) := by decide +kernel
theorem dX6_takesOut_247 : decode cX6_takesOut 247 = .ok (.getfield 28, 3) := by decide +kernel
theorem dX6_takesOut_250 : decode cX6_takesOut 250 = .ok (.iload_n 3, 1) := by decide +kernel
theorem dX6_takesOut_251 : decode cX6_takesOut 251 = .ok (.laload, 1) := by decide +kernel
theorem dX6_takesOut_252 : decode cX6_takesOut 252 = .ok (.lastore, 1) := by decide +kernel
theorem dX6_takesOut_253 : decode cX6_takesOut 253 = .ok (.iinc 3 1, 3) := by decide +kernel
theorem dX6_takesOut_256 : decode cX6_takesOut 256 = .ok (.goto (-25), 3) := by decide +kernel
theorem dX6_takesOut_259 : decode cX6_takesOut 259 = .ok (.iconst 0, 1) := by decide +kernel
theorem dX6_takesOut_260 : decode cX6_takesOut 260 = .ok (.istore_n 3, 1) := by decide +kernel
theorem dX6_takesOut_261 : decode cX6_takesOut 261 = .ok (.iload_n 3, 1) := by decide +kernel
theorem dX6_takesOut_262 : decode cX6_takesOut 262 = .ok (.aload_n 0, 1) := by decide +kernel
theorem dX6_takesOut_263 : decode cX6_takesOut 263 = .ok (.getfield 65, 3) := by decide +kernel
theorem dX6_takesOut_266 : decode cX6_takesOut 266 = .ok (.if_icmp .ge 21, 3) := by decide +kernel
theorem dX6_takesOut_269 : decode cX6_takesOut 269 = .ok (.aload_n 0, 1) := by decide +kernel
theorem dX6_takesOut_270 : decode cX6_takesOut 270 = .ok (.getfield 25, 3) := by decide +kernel
theorem dX6_takesOut_273 : decode cX6_takesOut 273 = .ok (.iload_n 3, 1) := by decide +kernel
theorem dX6_takesOut_274 : decode cX6_takesOut 274 = .ok (.aload_n 0, 1) := by decide +kernel
theorem dX6_takesOut_275 : decode cX6_takesOut 275 = .ok (.getfield 31, 3) := by decide +kernel
theorem dX6_takesOut_278 : decode cX6_takesOut 278 = .ok (.iload_n 3, 1) := by decide +kernel
theorem dX6_takesOut_279 : decode cX6_takesOut 279 = .ok (.baload, 1) := by decide +kernel
theorem dX6_takesOut_280 : decode cX6_takesOut 280 = .ok (.bastore, 1) := by decide +kernel
theorem dX6_takesOut_281 : decode cX6_takesOut 281 = .ok (.iinc 3 1, 3) := by decide +kernel
theorem dX6_takesOut_284 : decode cX6_takesOut 284 = .ok (.goto (-23), 3) := by decide +kernel
theorem dX6_takesOut_287 : decode cX6_takesOut 287 = .ok (.aload_n 0, 1) := by decide +kernel
theorem dX6_takesOut_288 : decode cX6_takesOut 288 = .ok (.aload_n 0, 1) := by decide +kernel
theorem dX6_takesOut_289 : decode cX6_takesOut 289 = .ok (.getfield 65, 3) := by decide +kernel
theorem dX6_takesOut_292 : decode cX6_takesOut 292 = .ok (.putfield 62, 3) := by decide +kernel
theorem dX6_takesOut_295 : decode cX6_takesOut 295 = .ok (.return_, 1) := by decide +kernel
set_option maxRecDepth 20000 in
theorem ggX6_isThere_X6_begins : GoodIn wsX6_isThere wsX6_begins := goodIn_r _ [9, 2, 39, 40, 41, 42, 43, 44, 45, 46, 47, 48, 49, 50] (by decide +kernel) (by decide +kernel)
set_option maxRecDepth 20000 in
theorem gX6_isThere_X6_begins : GoodIn wsX6_isThere (wsV RX6 76 RX6 yX6_begins wsX6_begins) := goodIn_app (goodIn_of _ (by decide +kernel)) ggX6_isThere_X6_begins
set_option maxRecDepth 20000 in
theorem ggX6_isThere_X6_sign : GoodIn wsX6_isThere wsX6_sign := goodIn_r _ [12, 13, 14, 8, 15] (by decide +kernel) (by decide +kernel)
set_option maxRecDepth 20000 in
theorem gX6_isThere_X6_sign : GoodIn wsX6_isThere (va_wsS RX6 79 yX6_sign wsX6_sign) := goodIn_app (goodIn_of _ (by decide +kernel)) ggX6_isThere_X6_sign
set_option maxRecDepth 20000 in
theorem ggX6_isThere_X6_adds : GoodIn wsX6_isThere wsX6_adds := goodIn_r _ [19, 3, 2, 4, 20, 21, 22, 8, 23, 24, 39, 40, 41, 42, 43, 44, 45, 46, 47, 48, 49, 50] (by decide +kernel) (by decide +kernel)
set_option maxRecDepth 20000 in
theorem gX6_isThere_X6_adds : GoodIn wsX6_isThere (wsV RX6 82 RX6 yX6_adds wsX6_adds) := goodIn_app (goodIn_of _ (by decide +kernel)) ggX6_isThere_X6_adds
set_option maxRecDepth 20000 in
theorem ggX6_isThere_X6_takesOut : GoodIn wsX6_isThere wsX6_takesOut := goodIn_r _ [28, 2, 4, 3, 29, 30, 31, 32, 33, 34, 8, 35, 36, 37, 38, 39, 40, 41, 42, 43, 44, 45, 46, 47, 48, 49, 50] (by decide +kernel) (by decide +kernel)
set_option maxRecDepth 20000 in
theorem gX6_isThere_X6_takesOut : GoodIn wsX6_isThere (wsV RX6 86 RX6 yX6_takesOut wsX6_takesOut) := goodIn_app (goodIn_of _ (by decide +kernel)) ggX6_isThere_X6_takesOut
theorem dX6_isThere_0 : decode cX6_isThere 0 = .ok (.aload_n 0, 1) := by decide +kernel
theorem dX6_isThere_1 : decode cX6_isThere 1 = .ok (.invokevirtual 76, 3) := by decide +kernel
theorem dX6_isThere_4 : decode cX6_isThere 4 = .ok (.iconst 0, 1) := by decide +kernel
theorem dX6_isThere_5 : decode cX6_isThere 5 = .ok (.istore_n 3, 1) := by decide +kernel
theorem dX6_isThere_6 : decode cX6_isThere 6 = .ok (.iload_n 3, 1) := by decide +kernel
theorem dX6_isThere_7 : decode cX6_isThere 7 = .ok (.iload_n 2, 1) := by decide +kernel
theorem dX6_isThere_8 : decode cX6_isThere 8 = .ok (.if_icmp .ge 19, 3) := by decide +kernel
theorem dX6_isThere_11 : decode cX6_isThere 11 = .ok (.aload_n 0, 1) := by decide +kernel
theorem dX6_isThere_12 : decode cX6_isThere 12 = .ok (.iload_n 3, 1) := by decide +kernel
theorem dX6_isThere_13 : decode cX6_isThere 13 = .ok (.iload_n 1, 1) := by decide +kernel
theorem dX6_isThere_14 : decode cX6_isThere 14 = .ok (.iload_n 3, 1) := by decide +kernel
theorem dX6_isThere_15 : decode cX6_isThere 15 = .ok (.invokestatic 79, 3) := by decide +kernel
theorem dX6_isThere_18 : decode cX6_isThere 18 = .ok (.invokevirtual 82, 3) := by decide +kernel
theorem dX6_isThere_21 : decode cX6_isThere 21 = .ok (.iinc 3 1, 3) := by decide +kernel
theorem dX6_isThere_24 : decode cX6_isThere 24 = .ok (.goto (-18), 3) := by decide +kernel
theorem dX6_isThere_27 : decode cX6_isThere 27 = .ok (.iconst 0, 1) := by decide +kernel
theorem dX6_isThere_28 : decode cX6_isThere 28 = .ok (.istore_n 3, 1) := by decide +kernel
theorem dX6_isThere_29 : decode cX6_isThere 29 = .ok (.iload_n 3, 1) := by decide +kernel
theorem dX6_isThere_30 : decode cX6_isThere 30 = .ok (.aload_n 0, 1) := by decide +kernel
theorem dX6_isThere_31 : decode cX6_isThere 31 = .ok (.getfield 37, 3) := by decide +kernel
theorem dX6_isThere_34 : decode cX6_isThere 34 = .ok (.if_icmp .ge 14, 3) := by decide +kernel
theorem dX6_isThere_37 : decode cX6_isThere 37 = .ok (.aload_n 0, 1) := by decide +kernel
theorem dX6_isThere_38 : decode cX6_isThere 38 = .ok (.iload_n 3, 1) := by decide +kernel
theorem dX6_isThere_39 : decode cX6_isThere 39 = .ok (.invokevirtual 86, 3) := by decide +kernel
theorem dX6_isThere_42 : decode cX6_isThere 42 = .ok (.iinc 3 1, 3) := by decide +kernel
theorem dX6_isThere_45 : decode cX6_isThere 45 = .ok (.goto (-16), 3) := by decide +kernel
theorem dX6_isThere_48 : decode cX6_isThere 48 = .ok (.iconst 0, 1) := by decide +kernel
theorem dX6_isThere_49 : decode cX6_isThere 49 = .ok (.istore_n 3, 1) := by decide +kernel
theorem dX6_isThere_50 : decode cX6_isThere 50 = .ok (.iload_n 3, 1) := by decide +kernel
theorem dX6_isThere_51 : decode cX6_isThere 51 = .ok (.aload_n 0, 1) := by decide +kernel
theorem dX6_isThere_52 : decode cX6_isThere 52 = .ok (.getfield 62, 3) := by decide +kernel
theorem dX6_isThere_55 : decode cX6_isThere 55 = .ok (.if_icmp .ge 49, 3) := by decide +kernel
theorem dX6_isThere_58 : decode cX6_isThere 58 = .ok (.aload_n 0, 1) := by decide +kernel
theorem dX6_isThere_59 : decode cX6_isThere 59 = .ok (.getfield 21, 3) := by decide +kernel
theorem dX6_isThere_62 : decode cX6_isThere 62 = .ok (.iconst 4, 1) := by decide +kernel
theorem dX6_isThere_63 : decode cX6_isThere 63 = .ok (.iload_n 3, 1) := by decide +kernel
theorem dX6_isThere_64 : decode cX6_isThere 64 = .ok (.imul, 1) := by decide +kernel
theorem dX6_isThere_65 : decode cX6_isThere 65 = .ok (.iconst 3, 1) := by decide +kernel
theorem dX6_isThere_66 : decode cX6_isThere 66 = .ok (.iadd, 1) := by decide +kernel
theorem dX6_isThere_67 : decode cX6_isThere 67 = .ok (.laload, 1) := by decide +kernel
theorem dX6_isThere_68 : decode cX6_isThere 68 = .ok (.lstore 4, 2) := by decide +kernel
theorem dX6_isThere_70 : decode cX6_isThere 70 = .ok (.aload_n 0, 1) := by decide +kernel
theorem dX6_isThere_71 : decode cX6_isThere 71 = .ok (.getfield 25, 3) := by decide +kernel
theorem dX6_isThere_74 : decode cX6_isThere 74 = .ok (.iload_n 3, 1) := by decide +kernel
theorem dX6_isThere_75 : decode cX6_isThere 75 = .ok (.baload, 1) := by decide +kernel
theorem dX6_isThere_76 : decode cX6_isThere 76 = .ok (.ifCond .eq 13, 3) := by decide +kernel
theorem dX6_isThere_79 : decode cX6_isThere 79 = .ok (.lload 4, 2) := by decide +kernel
theorem dX6_isThere_81 : decode cX6_isThere 81 = .ok (.lconst 0, 1) := by decide +kernel
theorem dX6_isThere_82 : decode cX6_isThere 82 = .ok (.lcmp, 1) := by decide +kernel
theorem dX6_isThere_83 : decode cX6_isThere 83 = .ok (.ifCond .eq 15, 3) := by decide +kernel
theorem dX6_isThere_86 : decode cX6_isThere 86 = .ok (.goto 10, 3) := by decide +kernel
theorem dX6_isThere_89 : decode cX6_isThere 89 = .ok (.lload 4, 2) := by decide +kernel
theorem dX6_isThere_91 : decode cX6_isThere 91 = .ok (.lconst 0, 1) := by decide +kernel
theorem dX6_isThere_92 : decode cX6_isThere 92 = .ok (.lcmp, 1) := by decide +kernel
theorem dX6_isThere_93 : decode cX6_isThere 93 = .ok (.ifCond .gt 5, 3) := by decide +kernel
theorem dX6_isThere_96 : decode cX6_isThere 96 = .ok (.iconst 0, 1) := by decide +kernel
theorem dX6_isThere_97 : decode cX6_isThere 97 = .ok (.ireturn, 1) := by decide +kernel
theorem dX6_isThere_98 : decode cX6_isThere 98 = .ok (.iinc 3 1, 3) := by decide +kernel
theorem dX6_isThere_101 : decode cX6_isThere 101 = .ok (.goto (-51), 3) := by decide +kernel
theorem dX6_isThere_104 : decode cX6_isThere 104 = .ok (.iconst 1, 1) := by decide +kernel
theorem dX6_isThere_105 : decode cX6_isThere 105 = .ok (.ireturn, 1) := by decide +kernel
set_option maxRecDepth 20000 in
theorem ggX6_works_X6_power : GoodIn wsX6_works wsX6_power := goodIn_r _ [7] (by decide +kernel) (by decide +kernel)
set_option maxRecDepth 20000 in
theorem gX6_works_X6_power : GoodIn wsX6_works (va_wsS RX6 56 yX6_power wsX6_power) := goodIn_app (goodIn_of _ (by decide +kernel)) ggX6_works_X6_power
set_option maxRecDepth 20000 in
theorem ggX6_works_X6_isThere : GoodIn wsX6_works wsX6_isThere := goodIn_r _ [11, 12, 13, 14, 15, 16, 17, 18, 6, 19, 20, 21, 22, 4, 5, 7, 23, 24, 25, 26, 27, 28, 29, 30, 31, 32, 33, 34, 35, 36, 37, 38, 39, 40, 41, 42, 43, 44, 45, 46, 47, 48, 49, 50, 51, 52, 53, 54, 55, 56, 57] (by decide +kernel) (by decide +kernel)
set_option maxRecDepth 20000 in
theorem gX6_works_X6_isThere : GoodIn wsX6_works (wsV RX6 90 RX6 yX6_isThere wsX6_isThere) := goodIn_app (goodIn_of _ (by decide +kernel)) ggX6_works_X6_isThere
theorem dX6_works_0 : decode cX6_works 0 = .ok (.aload_n 0, 1) := by decide +kernel
theorem dX6_works_1 : decode cX6_works 1 = .ok (.getfield 17, 3) := by decide +kernel
theorem dX6_works_4 : decode cX6_works 4 = .ok (.ifCond .ne 4, 3) := by decide +kernel
theorem dX6_works_7 : decode cX6_works 7 = .ok (.return_, 1) := by decide +kernel
theorem dX6_works_8 : decode cX6_works 8 = .ok (.aload_n 0, 1) := by decide +kernel
theorem dX6_works_9 : decode cX6_works 9 = .ok (.iconst 0, 1) := by decide +kernel
theorem dX6_works_10 : decode cX6_works 10 = .ok (.putfield 17, 3) := by decide +kernel
theorem dX6_works_13 : decode cX6_works 13 = .ok (.iconst 0, 1) := by decide +kernel
theorem dX6_works_14 : decode cX6_works 14 = .ok (.istore_n 1, 1) := by decide +kernel
theorem dX6_works_15 : decode cX6_works 15 = .ok (.iload_n 1, 1) := by decide +kernel
theorem dX6_works_16 : decode cX6_works 16 = .ok (.sipush 6561, 3) := by decide +kernel
theorem dX6_works_19 : decode cX6_works 19 = .ok (.if_icmp .ge 24, 3) := by decide +kernel
theorem dX6_works_22 : decode cX6_works 22 = .ok (.aload_n 0, 1) := by decide +kernel
theorem dX6_works_23 : decode cX6_works 23 = .ok (.getfield 13, 3) := by decide +kernel
theorem dX6_works_26 : decode cX6_works 26 = .ok (.iload_n 1, 1) := by decide +kernel
theorem dX6_works_27 : decode cX6_works 27 = .ok (.iload_n 1, 1) := by decide +kernel
theorem dX6_works_28 : decode cX6_works 28 = .ok (.ifCond .ne 7, 3) := by decide +kernel
theorem dX6_works_31 : decode cX6_works 31 = .ok (.iconst 1, 1) := by decide +kernel
theorem dX6_works_32 : decode cX6_works 32 = .ok (.goto 4, 3) := by decide +kernel
theorem dX6_works_35 : decode cX6_works 35 = .ok (.iconst 0, 1) := by decide +kernel
theorem dX6_works_36 : decode cX6_works 36 = .ok (.bastore, 1) := by decide +kernel
theorem dX6_works_37 : decode cX6_works 37 = .ok (.iinc 1 1, 3) := by decide +kernel
theorem dX6_works_40 : decode cX6_works 40 = .ok (.goto (-25), 3) := by decide +kernel
theorem dX6_works_43 : decode cX6_works 43 = .ok (.iconst 0, 1) := by decide +kernel
theorem dX6_works_44 : decode cX6_works 44 = .ok (.istore_n 1, 1) := by decide +kernel
theorem dX6_works_45 : decode cX6_works 45 = .ok (.iload_n 1, 1) := by decide +kernel
theorem dX6_works_46 : decode cX6_works 46 = .ok (.aload_n 0, 1) := by decide +kernel
theorem dX6_works_47 : decode cX6_works 47 = .ok (.getfield 49, 3) := by decide +kernel
theorem dX6_works_50 : decode cX6_works 50 = .ok (.if_icmp .ge 89, 3) := by decide +kernel
theorem dX6_works_53 : decode cX6_works 53 = .ok (.iconst 0, 1) := by decide +kernel
theorem dX6_works_54 : decode cX6_works 54 = .ok (.istore_n 2, 1) := by decide +kernel
theorem dX6_works_55 : decode cX6_works 55 = .ok (.iload_n 2, 1) := by decide +kernel
theorem dX6_works_56 : decode cX6_works 56 = .ok (.iload_n 1, 1) := by decide +kernel
theorem dX6_works_57 : decode cX6_works 57 = .ok (.invokestatic 56, 3) := by decide +kernel
theorem dX6_works_60 : decode cX6_works 60 = .ok (.if_icmp .ge 73, 3) := by decide +kernel
theorem dX6_works_63 : decode cX6_works 63 = .ok (.aload_n 0, 1) := by decide +kernel
theorem dX6_works_64 : decode cX6_works 64 = .ok (.getfield 13, 3) := by decide +kernel
theorem dX6_works_67 : decode cX6_works 67 = .ok (.iload_n 2, 1) := by decide +kernel
theorem dX6_works_68 : decode cX6_works 68 = .ok (.baload, 1) := by decide +kernel
theorem dX6_works_69 : decode cX6_works 69 = .ok (.istore_n 3, 1) := by decide +kernel
theorem dX6_works_70 : decode cX6_works 70 = .ok (.iconst 0, 1) := by decide +kernel
theorem dX6_works_71 : decode cX6_works 71 = .ok (.istore 4, 2) := by decide +kernel
theorem dX6_works_73 : decode cX6_works 73 = .ok (.iload 4, 2) := by decide +kernel
theorem dX6_works_75 : decode cX6_works 75 = .ok (.iconst 3, 1) := by decide +kernel
theorem dX6_works_76 : decode cX6_works 76 = .ok (.if_icmp .ge 51, 3) := by decide +kernel
theorem dX6_works_79 : decode cX6_works 79 = .ok (.aload_n 0, 1) := by decide +kernel
theorem dX6_works_80 : decode cX6_works 80 = .ok (.getfield 13, 3) := by decide +kernel
theorem dX6_works_83 : decode cX6_works 83 = .ok (.iload_n 2, 1) := by decide +kernel
theorem dX6_works_84 : decode cX6_works 84 = .ok (.iload 4, 2) := by decide +kernel
theorem dX6_works_86 : decode cX6_works 86 = .ok (.iload_n 1, 1) := by decide +kernel
theorem dX6_works_87 : decode cX6_works 87 = .ok (.invokestatic 56, 3) := by decide +kernel
theorem dX6_works_90 : decode cX6_works 90 = .ok (.imul, 1) := by decide +kernel
theorem dX6_works_91 : decode cX6_works 91 = .ok (.iadd, 1) := by decide +kernel
theorem dX6_works_92 : decode cX6_works 92 = .ok (.iload_n 3, 1) := by decide +kernel
theorem dX6_works_93 : decode cX6_works 93 = .ok (.ifCond .eq 26, 3) := by decide +kernel
theorem dX6_works_96 : decode cX6_works 96 = .ok (.aload_n 0, 1) := by decide +kernel
theorem dX6_works_97 : decode cX6_works 97 = .ok (.iload_n 2, 1) := by decide +kernel
theorem dX6_works_98 : decode cX6_works 98 = .ok (.iload 4, 2) := by decide +kernel
theorem dX6_works_100 : decode cX6_works 100 = .ok (.iload_n 1, 1) := by decide +kernel
theorem dX6_works_101 : decode cX6_works 101 = .ok (.invokestatic 56, 3) := by decide +kernel
theorem dX6_works_104 : decode cX6_works 104 = .ok (.imul, 1) := by decide +kernel
theorem dX6_works_105 : decode cX6_works 105 = .ok (.iadd, 1) := by decide +kernel
theorem dX6_works_106 : decode cX6_works 106 = .ok (.iload_n 1, 1) := by decide +kernel
theorem dX6_works_107 : decode cX6_works 107 = .ok (.iconst 1, 1) := by decide +kernel
theorem dX6_works_108 : decode cX6_works 108 = .ok (.iadd, 1) := by decide +kernel
theorem dX6_works_109 : decode cX6_works 109 = .ok (.invokevirtual 90, 3) := by decide +kernel
theorem dX6_works_112 : decode cX6_works 112 = .ok (.ifCond .eq 7, 3) := by decide +kernel
theorem dX6_works_115 : decode cX6_works 115 = .ok (.iconst 1, 1) := by decide +kernel
theorem dX6_works_116 : decode cX6_works 116 = .ok (.goto 4, 3) := by decide +kernel
theorem dX6_works_119 : decode cX6_works 119 = .ok (.iconst 0, 1) := by decide +kernel
theorem dX6_works_120 : decode cX6_works 120 = .ok (.bastore, 1) := by decide +kernel
theorem dX6_works_121 : decode cX6_works 121 = .ok (.iinc 4 1, 3) := by decide +kernel
theorem dX6_works_124 : decode cX6_works 124 = .ok (.goto (-51), 3) := by decide +kernel
theorem dX6_works_127 : decode cX6_works 127 = .ok (.iinc 2 1, 3) := by decide +kernel
theorem dX6_works_130 : decode cX6_works 130 = .ok (.goto (-75), 3) := by decide +kernel
theorem dX6_works_133 : decode cX6_works 133 = .ok (.iinc 1 1, 3) := by decide +kernel
theorem dX6_works_136 : decode cX6_works 136 = .ok (.goto (-91), 3) := by decide +kernel
theorem dX6_works_139 : decode cX6_works 139 = .ok (.return_, 1) := by decide +kernel
set_option maxRecDepth 20000 in
theorem ggX6_isFace_X6_works : GoodIn wsX6_isFace wsX6_works := goodIn_r _ [6, 7, 1, 8, 9, 10, 5, 11, 12, 13, 14, 15, 16, 17, 18, 19, 20, 21, 22, 23, 24, 25, 26, 27, 28, 29, 30, 31, 32, 33, 34, 35, 36, 37, 38, 39, 40, 41, 42, 43, 44, 45, 46, 47, 48, 49, 53, 54, 55, 56, 57, 58, 59, 60, 61, 62, 63, 64] (by decide +kernel) (by decide +kernel)
set_option maxRecDepth 20000 in
theorem gX6_isFace_X6_works : GoodIn wsX6_isFace (wsV RX6 94 RX6 yX6_works wsX6_works) := goodIn_app (goodIn_of _ (by decide +kernel)) ggX6_isFace_X6_works
set_option maxRecDepth 20000 in
theorem ggX6_isFace_X6_in : GoodIn wsX6_isFace wsX6_in := goodIn_r _ [52] (by decide +kernel) (by decide +kernel)
set_option maxRecDepth 20000 in
theorem gX6_isFace_X6_in : GoodIn wsX6_isFace (va_wsS RX6 45 yX6_in wsX6_in) := goodIn_app (goodIn_of _ (by decide +kernel)) ggX6_isFace_X6_in
theorem dX6_isFace_0 : decode cX6_isFace 0 = .ok (.aload_n 0, 1) := by decide +kernel
theorem dX6_isFace_1 : decode cX6_isFace 1 = .ok (.invokevirtual 94, 3) := by decide +kernel
theorem dX6_isFace_4 : decode cX6_isFace 4 = .ok (.iload_n 1, 1) := by decide +kernel
theorem dX6_isFace_5 : decode cX6_isFace 5 = .ok (.iconst 0, 1) := by decide +kernel
theorem dX6_isFace_6 : decode cX6_isFace 6 = .ok (.sipush 6560, 3) := by decide +kernel
theorem dX6_isFace_9 : decode cX6_isFace 9 = .ok (.invokestatic 45, 3) := by decide +kernel
theorem dX6_isFace_12 : decode cX6_isFace 12 = .ok (.ifCond .eq 16, 3) := by decide +kernel
theorem dX6_isFace_15 : decode cX6_isFace 15 = .ok (.aload_n 0, 1) := by decide +kernel
theorem dX6_isFace_16 : decode cX6_isFace 16 = .ok (.getfield 13, 3) := by decide +kernel
theorem dX6_isFace_19 : decode cX6_isFace 19 = .ok (.iload_n 1, 1) := by decide +kernel
theorem dX6_isFace_20 : decode cX6_isFace 20 = .ok (.baload, 1) := by decide +kernel
theorem dX6_isFace_21 : decode cX6_isFace 21 = .ok (.ifCond .eq 7, 3) := by decide +kernel
theorem dX6_isFace_24 : decode cX6_isFace 24 = .ok (.iconst 1, 1) := by decide +kernel
theorem dX6_isFace_25 : decode cX6_isFace 25 = .ok (.goto 4, 3) := by decide +kernel
theorem dX6_isFace_28 : decode cX6_isFace 28 = .ok (.iconst 0, 1) := by decide +kernel
theorem dX6_isFace_29 : decode cX6_isFace 29 = .ok (.ireturn, 1) := by decide +kernel
set_option maxRecDepth 20000 in
theorem ggX6_rank_X6_at : GoodIn wsX6_rank wsX6_at := goodIn_r _ [7, 8, 9, 10, 11, 12, 13, 14, 15, 16, 17, 18, 19, 20] (by decide +kernel) (by decide +kernel)
set_option maxRecDepth 20000 in
theorem gX6_rank_X6_at : GoodIn wsX6_rank (wsV RX6 41 RX6 yX6_at wsX6_at) := goodIn_app (goodIn_of _ (by decide +kernel)) ggX6_rank_X6_at
theorem dX6_rank_0 : decode cX6_rank 0 = .ok (.iconst 0, 1) := by decide +kernel
theorem dX6_rank_1 : decode cX6_rank 1 = .ok (.istore_n 3, 1) := by decide +kernel
theorem dX6_rank_2 : decode cX6_rank 2 = .ok (.iconst 0, 1) := by decide +kernel
theorem dX6_rank_3 : decode cX6_rank 3 = .ok (.istore 4, 2) := by decide +kernel
theorem dX6_rank_5 : decode cX6_rank 5 = .ok (.iload 4, 2) := by decide +kernel
theorem dX6_rank_7 : decode cX6_rank 7 = .ok (.aload_n 0, 1) := by decide +kernel
theorem dX6_rank_8 : decode cX6_rank 8 = .ok (.getfield 49, 3) := by decide +kernel
theorem dX6_rank_11 : decode cX6_rank 11 = .ok (.if_icmp .ge 69, 3) := by decide +kernel
theorem dX6_rank_14 : decode cX6_rank 14 = .ok (.iload_n 1, 1) := by decide +kernel
theorem dX6_rank_15 : decode cX6_rank 15 = .ok (.iload 4, 2) := by decide +kernel
theorem dX6_rank_17 : decode cX6_rank 17 = .ok (.ishr, 1) := by decide +kernel
theorem dX6_rank_18 : decode cX6_rank 18 = .ok (.iconst 1, 1) := by decide +kernel
theorem dX6_rank_19 : decode cX6_rank 19 = .ok (.iand, 1) := by decide +kernel
theorem dX6_rank_20 : decode cX6_rank 20 = .ok (.ifCond .ne 6, 3) := by decide +kernel
theorem dX6_rank_23 : decode cX6_rank 23 = .ok (.goto 51, 3) := by decide +kernel
theorem dX6_rank_26 : decode cX6_rank 26 = .ok (.iconst 0, 1) := by decide +kernel
theorem dX6_rank_27 : decode cX6_rank 27 = .ok (.istore 5, 2) := by decide +kernel
theorem dX6_rank_29 : decode cX6_rank 29 = .ok (.iload 5, 2) := by decide +kernel
theorem dX6_rank_31 : decode cX6_rank 31 = .ok (.iconst 4, 1) := by decide +kernel
theorem dX6_rank_32 : decode cX6_rank 32 = .ok (.if_icmp .ge 39, 3) := by decide +kernel
theorem dX6_rank_35 : decode cX6_rank 35 = .ok (.aload_n 0, 1) := by decide +kernel
theorem dX6_rank_36 : decode cX6_rank 36 = .ok (.getfield 34, 3) := by decide +kernel
theorem dX6_rank_39 : decode cX6_rank 39 = .ok (.iconst 4, 1) := by decide +kernel
theorem dX6_rank_40 : decode cX6_rank 40 = .ok (.iload_n 3, 1) := by decide +kernel
theorem dX6_rank_41 : decode cX6_rank 41 = .ok (.imul, 1) := by decide +kernel
theorem dX6_rank_42 : decode cX6_rank 42 = .ok (.iload 5, 2) := by decide +kernel
theorem dX6_rank_44 : decode cX6_rank 44 = .ok (.iadd, 1) := by decide +kernel
theorem dX6_rank_45 : decode cX6_rank 45 = .ok (.iload 5, 2) := by decide +kernel
theorem dX6_rank_47 : decode cX6_rank 47 = .ok (.iload_n 2, 1) := by decide +kernel
theorem dX6_rank_48 : decode cX6_rank 48 = .ok (.if_icmp .ge 15, 3) := by decide +kernel
theorem dX6_rank_51 : decode cX6_rank 51 = .ok (.aload_n 0, 1) := by decide +kernel
theorem dX6_rank_52 : decode cX6_rank 52 = .ok (.iload 4, 2) := by decide +kernel
theorem dX6_rank_54 : decode cX6_rank 54 = .ok (.iload 5, 2) := by decide +kernel
theorem dX6_rank_56 : decode cX6_rank 56 = .ok (.invokevirtual 41, 3) := by decide +kernel
theorem dX6_rank_59 : decode cX6_rank 59 = .ok (.i2l, 1) := by decide +kernel
theorem dX6_rank_60 : decode cX6_rank 60 = .ok (.goto 4, 3) := by decide +kernel
theorem dX6_rank_63 : decode cX6_rank 63 = .ok (.lconst 0, 1) := by decide +kernel
theorem dX6_rank_64 : decode cX6_rank 64 = .ok (.lastore, 1) := by decide +kernel
theorem dX6_rank_65 : decode cX6_rank 65 = .ok (.iinc 5 1, 3) := by decide +kernel
theorem dX6_rank_68 : decode cX6_rank 68 = .ok (.goto (-39), 3) := by decide +kernel
theorem dX6_rank_71 : decode cX6_rank 71 = .ok (.iinc 3 1, 3) := by decide +kernel
theorem dX6_rank_74 : decode cX6_rank 74 = .ok (.iinc 4 1, 3) := by decide +kernel
theorem dX6_rank_77 : decode cX6_rank 77 = .ok (.goto (-72), 3) := by decide +kernel
theorem dX6_rank_80 : decode cX6_rank 80 = .ok (.iconst 0, 1) := by decide +kernel
theorem dX6_rank_81 : decode cX6_rank 81 = .ok (.istore 4, 2) := by decide +kernel
theorem dX6_rank_83 : decode cX6_rank 83 = .ok (.iconst 0, 1) := by decide +kernel
theorem dX6_rank_84 : decode cX6_rank 84 = .ok (.istore 5, 2) := by decide +kernel
theorem dX6_rank_86 : decode cX6_rank 86 = .ok (.iload 5, 2) := by decide +kernel
theorem dX6_rank_88 : decode cX6_rank 88 = .ok (.iload_n 2, 1) := by decide +kernel
theorem dX6_rank_89 : decode cX6_rank 89 = .ok (.if_icmp .ge 225, 3) := by decide +kernel
theorem dX6_rank_92 : decode cX6_rank 92 = .ok (.iload 4, 2) := by decide +kernel
theorem dX6_rank_94 : decode cX6_rank 94 = .ok (.istore 6, 2) := by decide +kernel
theorem dX6_rank_96 : decode cX6_rank 96 = .ok (.iload 6, 2) := by decide +kernel
theorem dX6_rank_98 : decode cX6_rank 98 = .ok (.iload_n 3, 1) := by decide +kernel
theorem dX6_rank_99 : decode cX6_rank 99 = .ok (.if_icmp .ge 26, 3) := by decide +kernel
theorem dX6_rank_102 : decode cX6_rank 102 = .ok (.aload_n 0, 1) := by decide +kernel
theorem dX6_rank_103 : decode cX6_rank 103 = .ok (.getfield 34, 3) := by decide +kernel
theorem dX6_rank_106 : decode cX6_rank 106 = .ok (.iconst 4, 1) := by decide +kernel
theorem dX6_rank_107 : decode cX6_rank 107 = .ok (.iload 6, 2) := by decide +kernel
theorem dX6_rank_109 : decode cX6_rank 109 = .ok (.imul, 1) := by decide +kernel
theorem dX6_rank_110 : decode cX6_rank 110 = .ok (.iload 5, 2) := by decide +kernel
theorem dX6_rank_112 : decode cX6_rank 112 = .ok (.iadd, 1) := by decide +kernel
theorem dX6_rank_113 : decode cX6_rank 113 = .ok (.laload, 1) := by decide +kernel
theorem dX6_rank_114 : decode cX6_rank 114 = .ok (.lconst 0, 1) := by decide +kernel
theorem dX6_rank_115 : decode cX6_rank 115 = .ok (.lcmp, 1) := by decide +kernel
theorem dX6_rank_116 : decode cX6_rank 116 = .ok (.ifCond .ne 9, 3) := by decide +kernel
theorem dX6_rank_119 : decode cX6_rank 119 = .ok (.iinc 6 1, 3) := by decide +kernel
theorem dX6_rank_122 : decode cX6_rank 122 = .ok (.goto (-26), 3) := by decide +kernel
theorem dX6_rank_125 : decode cX6_rank 125 = .ok (.iload 6, 2) := by decide +kernel
theorem dX6_rank_127 : decode cX6_rank 127 = .ok (.iload_n 3, 1) := by decide +kernel
theorem dX6_rank_128 : decode cX6_rank 128 = .ok (.if_icmp .ne 6, 3) := by decide +kernel
theorem dX6_rank_131 : decode cX6_rank 131 = .ok (.goto 177, 3) := by decide +kernel
theorem dX6_rank_134 : decode cX6_rank 134 = .ok (.iconst 0, 1) := by decide +kernel
theorem dX6_rank_135 : decode cX6_rank 135 = .ok (.istore 7, 2) := by decide +kernel
theorem dX6_rank_137 : decode cX6_rank 137 = .ok (.iload 7, 2) := by decide +kernel
theorem dX6_rank_139 : decode cX6_rank 139 = .ok (.iconst 4, 1) := by decide +kernel
theorem dX6_rank_140 : decode cX6_rank 140 = .ok (.if_icmp .ge 61, 3) := by decide +kernel
theorem dX6_rank_143 : decode cX6_rank 143 = .ok (.aload_n 0, 1) := by decide +kernel
theorem dX6_rank_144 : decode cX6_rank 144 = .ok (.getfield 34, 3) := by decide +kernel
theorem dX6_rank_147 : decode cX6_rank 147 = .ok (.iconst 4, 1) := by decide +kernel
theorem dX6_rank_148 : decode cX6_rank 148 = .ok (.iload 6, 2) := by decide +kernel
theorem dX6_rank_150 : decode cX6_rank 150 = .ok (.imul, 1) := by decide +kernel
theorem dX6_rank_151 : decode cX6_rank 151 = .ok (.iload 7, 2) := by decide +kernel
theorem dX6_rank_153 : decode cX6_rank 153 = .ok (.iadd, 1) := by decide +kernel
theorem dX6_rank_154 : decode cX6_rank 154 = .ok (.laload, 1) := by decide +kernel
theorem dX6_rank_155 : decode cX6_rank 155 = .ok (.lstore 8, 2) := by decide +kernel
theorem dX6_rank_157 : decode cX6_rank 157 = .ok (.aload_n 0, 1) := by decide +kernel
theorem dX6_rank_158 : decode cX6_rank 158 = .ok (.getfield 34, 3) := by decide +kernel
theorem dX6_rank_161 : decode cX6_rank 161 = .ok (.iconst 4, 1) := by decide +kernel
theorem dX6_rank_162 : decode cX6_rank 162 = .ok (.iload 6, 2) := by decide +kernel
theorem dX6_rank_164 : decode cX6_rank 164 = .ok (.imul, 1) := by decide +kernel
theorem dX6_rank_165 : decode cX6_rank 165 = .ok (.iload 7, 2) := by decide +kernel
theorem dX6_rank_167 : decode cX6_rank 167 = .ok (.iadd, 1) := by decide +kernel
theorem dX6_rank_168 : decode cX6_rank 168 = .ok (.aload_n 0, 1) := by decide +kernel
theorem dX6_rank_169 : decode cX6_rank 169 = .ok (.getfield 34, 3) := by decide +kernel
theorem dX6_rank_172 : decode cX6_rank 172 = .ok (.iconst 4, 1) := by decide +kernel
theorem dX6_rank_173 : decode cX6_rank 173 = .ok (.iload 4, 2) := by decide +kernel
theorem dX6_rank_175 : decode cX6_rank 175 = .ok (.imul, 1) := by decide +kernel
theorem dX6_rank_176 : decode cX6_rank 176 = .ok (.iload 7, 2) := by decide +kernel
theorem dX6_rank_178 : decode cX6_rank 178 = .ok (.iadd, 1) := by decide +kernel
theorem dX6_rank_179 : decode cX6_rank 179 = .ok (.laload, 1) := by decide +kernel
theorem dX6_rank_180 : decode cX6_rank 180 = .ok (.lastore, 1) := by decide +kernel
theorem dX6_rank_181 : decode cX6_rank 181 = .ok (.aload_n 0, 1) := by decide +kernel
theorem dX6_rank_182 : decode cX6_rank 182 = .ok (.getfield 34, 3) := by decide +kernel
theorem dX6_rank_185 : decode cX6_rank 185 = .ok (.iconst 4, 1) := by decide +kernel
theorem dX6_rank_186 : decode cX6_rank 186 = .ok (.iload 4, 2) := by decide +kernel
theorem dX6_rank_188 : decode cX6_rank 188 = .ok (.imul, 1) := by decide +kernel
theorem dX6_rank_189 : decode cX6_rank 189 = .ok (.iload 7, 2) := by decide +kernel
theorem dX6_rank_191 : decode cX6_rank 191 = .ok (.iadd, 1) := by decide +kernel
theorem dX6_rank_192 : decode cX6_rank 192 = .ok (.lload 8, 2) := by decide +kernel
theorem dX6_rank_194 : decode cX6_rank 194 = .ok (.lastore, 1) := by decide +kernel
theorem dX6_rank_195 : decode cX6_rank 195 = .ok (.iinc 7 1, 3) := by decide +kernel
theorem dX6_rank_198 : decode cX6_rank 198 = .ok (.goto (-61), 3) := by decide +kernel
theorem dX6_rank_201 : decode cX6_rank 201 = .ok (.iload 4, 2) := by decide +kernel
theorem dX6_rank_203 : decode cX6_rank 203 = .ok (.iconst 1, 1) := by decide +kernel
theorem dX6_rank_204 : decode cX6_rank 204 = .ok (.iadd, 1) := by decide +kernel
theorem dX6_rank_205 : decode cX6_rank 205 = .ok (.istore 7, 2) := by decide +kernel
theorem dX6_rank_207 : decode cX6_rank 207 = .ok (.iload 7, 2) := by decide +kernel
theorem dX6_rank_209 : decode cX6_rank 209 = .ok (.iload_n 3, 1) := by decide +kernel
theorem dX6_rank_210 : decode cX6_rank 210 = .ok (.if_icmp .ge 95, 3) := by decide +kernel
theorem dX6_rank_213 : decode cX6_rank 213 = .ok (.aload_n 0, 1) := by decide +kernel
theorem dX6_rank_214 : decode cX6_rank 214 = .ok (.getfield 34, 3) := by decide +kernel
theorem dX6_rank_217 : decode cX6_rank 217 = .ok (.iconst 4, 1) := by decide +kernel
theorem dX6_rank_218 : decode cX6_rank 218 = .ok (.iload 7, 2) := by decide +kernel
theorem dX6_rank_220 : decode cX6_rank 220 = .ok (.imul, 1) := by decide +kernel
theorem dX6_rank_221 : decode cX6_rank 221 = .ok (.iload 5, 2) := by decide +kernel
theorem dX6_rank_223 : decode cX6_rank 223 = .ok (.iadd, 1) := by decide +kernel
theorem dX6_rank_224 : decode cX6_rank 224 = .ok (.laload, 1) := by decide +kernel
theorem dX6_rank_225 : decode cX6_rank 225 = .ok (.lstore 8, 2) := by decide +kernel
theorem dX6_rank_227 : decode cX6_rank 227 = .ok (.aload_n 0, 1) := by decide +kernel
theorem dX6_rank_228 : decode cX6_rank 228 = .ok (.getfield 34, 3) := by decide +kernel
theorem dX6_rank_231 : decode cX6_rank 231 = .ok (.iconst 4, 1) := by decide +kernel
theorem dX6_rank_232 : decode cX6_rank 232 = .ok (.iload 4, 2) := by decide +kernel
theorem dX6_rank_234 : decode cX6_rank 234 = .ok (.imul, 1) := by decide +kernel
theorem dX6_rank_235 : decode cX6_rank 235 = .ok (.iload 5, 2) := by decide +kernel
theorem dX6_rank_237 : decode cX6_rank 237 = .ok (.iadd, 1) := by decide +kernel
theorem dX6_rank_238 : decode cX6_rank 238 = .ok (.laload, 1) := by decide +kernel
theorem dX6_rank_239 : decode cX6_rank 239 = .ok (.lstore 10, 2) := by decide +kernel
theorem dX6_rank_241 : decode cX6_rank 241 = .ok (.iconst 0, 1) := by decide +kernel
theorem dX6_rank_242 : decode cX6_rank 242 = .ok (.istore 12, 2) := by decide +kernel
theorem dX6_rank_244 : decode cX6_rank 244 = .ok (.iload 12, 2) := by decide +kernel
theorem dX6_rank_246 : decode cX6_rank 246 = .ok (.iconst 4, 1) := by decide +kernel
theorem dX6_rank_247 : decode cX6_rank 247 = .ok (.if_icmp .ge 52, 3) := by decide +kernel
theorem dX6_rank_250 : decode cX6_rank 250 = .ok (.aload_n 0, 1) := by decide +kernel
theorem dX6_rank_251 : decode cX6_rank 251 = .ok (.getfield 34, 3) := by decide +kernel
theorem dX6_rank_254 : decode cX6_rank 254 = .ok (.iconst 4, 1) := by decide +kernel
theorem dX6_rank_255 : decode cX6_rank 255 = .ok (.iload 7, 2) := by decide +kernel
theorem dX6_rank_257 : decode cX6_rank 257 = .ok (.imul, 1) := by decide +kernel
theorem dX6_rank_258 : decode cX6_rank 258 = .ok (.iload 12, 2) := by decide +kernel
theorem dX6_rank_260 : decode cX6_rank 260 = .ok (.iadd, 1) := by decide +kernel
theorem dX6_rank_261 : decode cX6_rank 261 = .ok (.aload_n 0, 1) := by decide +kernel
theorem dX6_rank_262 : decode cX6_rank 262 = .ok (.getfield 34, 3) := by decide +kernel
theorem dX6_rank_265 : decode cX6_rank 265 = .ok (.iconst 4, 1) := by decide +kernel
theorem dX6_rank_266 : decode cX6_rank 266 = .ok (.iload 7, 2) := by decide +kernel
theorem dX6_rank_268 : decode cX6_rank 268 = .ok (.imul, 1) := by decide +kernel
theorem dX6_rank_269 : decode cX6_rank 269 = .ok (.iload 12, 2) := by decide +kernel
theorem dX6_rank_271 : decode cX6_rank 271 = .ok (.iadd, 1) := by decide +kernel
theorem dX6_rank_272 : decode cX6_rank 272 = .ok (.laload, 1) := by decide +kernel
theorem dX6_rank_273 : decode cX6_rank 273 = .ok (.lload 10, 2) := by decide +kernel
theorem dX6_rank_275 : decode cX6_rank 275 = .ok (.lmul, 1) := by decide +kernel
theorem dX6_rank_276 : decode cX6_rank 276 = .ok (.aload_n 0, 1) := by decide +kernel
theorem dX6_rank_277 : decode cX6_rank 277 = .ok (.getfield 34, 3) := by decide +kernel
theorem dX6_rank_280 : decode cX6_rank 280 = .ok (.iconst 4, 1) := by decide +kernel
theorem dX6_rank_281 : decode cX6_rank 281 = .ok (.iload 4, 2) := by decide +kernel
theorem dX6_rank_283 : decode cX6_rank 283 = .ok (.imul, 1) := by decide +kernel
theorem dX6_rank_284 : decode cX6_rank 284 = .ok (.iload 12, 2) := by decide +kernel
theorem dX6_rank_286 : decode cX6_rank 286 = .ok (.iadd, 1) := by decide +kernel
theorem dX6_rank_287 : decode cX6_rank 287 = .ok (.laload, 1) := by decide +kernel
theorem dX6_rank_288 : decode cX6_rank 288 = .ok (.lload 8, 2) := by decide +kernel
theorem dX6_rank_290 : decode cX6_rank 290 = .ok (.lmul, 1) := by decide +kernel
theorem dX6_rank_291 : decode cX6_rank 291 = .ok (.lsub, 1) := by decide +kernel
theorem dX6_rank_292 : decode cX6_rank 292 = .ok (.lastore, 1) := by decide +kernel
theorem dX6_rank_293 : decode cX6_rank 293 = .ok (.iinc 12 1, 3) := by decide +kernel
theorem dX6_rank_296 : decode cX6_rank 296 = .ok (.goto (-52), 3) := by decide +kernel
theorem dX6_rank_299 : decode cX6_rank 299 = .ok (.iinc 7 1, 3) := by decide +kernel
theorem dX6_rank_302 : decode cX6_rank 302 = .ok (.goto (-95), 3) := by decide +kernel
theorem dX6_rank_305 : decode cX6_rank 305 = .ok (.iinc 4 1, 3) := by decide +kernel
theorem dX6_rank_308 : decode cX6_rank 308 = .ok (.iinc 5 1, 3) := by decide +kernel
theorem dX6_rank_311 : decode cX6_rank 311 = .ok (.goto (-225), 3) := by decide +kernel
theorem dX6_rank_314 : decode cX6_rank 314 = .ok (.iload 4, 2) := by decide +kernel
theorem dX6_rank_316 : decode cX6_rank 316 = .ok (.ireturn, 1) := by decide +kernel
set_option maxRecDepth 20000 in
theorem ggX6_meets_X6_rank : GoodIn wsX6_meets wsX6_rank := goodIn_r _ [5, 6, 7, 8, 9, 10, 4, 11, 12, 13, 14, 15, 16, 17, 18, 19, 20, 21, 22, 23, 24] (by decide +kernel) (by decide +kernel)
set_option maxRecDepth 20000 in
theorem gX6_meets_X6_rank : GoodIn wsX6_meets (wsV RX6 97 RX6 yX6_rank wsX6_rank) := goodIn_app (goodIn_of _ (by decide +kernel)) ggX6_meets_X6_rank
theorem dX6_meets_0 : decode cX6_meets 0 = .ok (.aload_n 0, 1) := by decide +kernel
theorem dX6_meets_1 : decode cX6_meets 1 = .ok (.iload_n 1, 1) := by decide +kernel
theorem dX6_meets_2 : decode cX6_meets 2 = .ok (.iconst 4, 1) := by decide +kernel
theorem dX6_meets_3 : decode cX6_meets 3 = .ok (.invokevirtual 97, 3) := by decide +kernel
theorem dX6_meets_6 : decode cX6_meets 6 = .ok (.aload_n 0, 1) := by decide +kernel
theorem dX6_meets_7 : decode cX6_meets 7 = .ok (.iload_n 1, 1) := by decide +kernel
theorem dX6_meets_8 : decode cX6_meets 8 = .ok (.iconst 3, 1) := by decide +kernel
theorem dX6_meets_9 : decode cX6_meets 9 = .ok (.invokevirtual 97, 3) := by decide +kernel
theorem dX6_meets_12 : decode cX6_meets 12 = .ok (.if_icmp .ne 7, 3) := by decide +kernel
theorem dX6_meets_15 : decode cX6_meets 15 = .ok (.iconst 1, 1) := by decide +kernel
theorem dX6_meets_16 : decode cX6_meets 16 = .ok (.goto 4, 3) := by decide +kernel
theorem dX6_meets_19 : decode cX6_meets 19 = .ok (.iconst 0, 1) := by decide +kernel
theorem dX6_meets_20 : decode cX6_meets 20 = .ok (.ireturn, 1) := by decide +kernel
set_option maxRecDepth 20000 in
theorem ggX6_onWalls_X6_sign : GoodIn wsX6_onWalls wsX6_sign := goodIn_r _ [5, 6, 7, 4, 8] (by decide +kernel) (by decide +kernel)
set_option maxRecDepth 20000 in
theorem gX6_onWalls_X6_sign : GoodIn wsX6_onWalls (va_wsS RX6 79 yX6_sign wsX6_sign) := goodIn_app (goodIn_of _ (by decide +kernel)) ggX6_onWalls_X6_sign
theorem dX6_onWalls_0 : decode cX6_onWalls 0 = .ok (.iconst 0, 1) := by decide +kernel
theorem dX6_onWalls_1 : decode cX6_onWalls 1 = .ok (.istore_n 2, 1) := by decide +kernel
theorem dX6_onWalls_2 : decode cX6_onWalls 2 = .ok (.iconst 0, 1) := by decide +kernel
theorem dX6_onWalls_3 : decode cX6_onWalls 3 = .ok (.istore_n 3, 1) := by decide +kernel
theorem dX6_onWalls_4 : decode cX6_onWalls 4 = .ok (.iload_n 3, 1) := by decide +kernel
theorem dX6_onWalls_5 : decode cX6_onWalls 5 = .ok (.aload_n 0, 1) := by decide +kernel
theorem dX6_onWalls_6 : decode cX6_onWalls 6 = .ok (.getfield 49, 3) := by decide +kernel
theorem dX6_onWalls_9 : decode cX6_onWalls 9 = .ok (.if_icmp .ge 28, 3) := by decide +kernel
theorem dX6_onWalls_12 : decode cX6_onWalls 12 = .ok (.iload_n 2, 1) := by decide +kernel
theorem dX6_onWalls_13 : decode cX6_onWalls 13 = .ok (.iload_n 1, 1) := by decide +kernel
theorem dX6_onWalls_14 : decode cX6_onWalls 14 = .ok (.iload_n 3, 1) := by decide +kernel
theorem dX6_onWalls_15 : decode cX6_onWalls 15 = .ok (.invokestatic 79, 3) := by decide +kernel
theorem dX6_onWalls_18 : decode cX6_onWalls 18 = .ok (.iconst 1, 1) := by decide +kernel
theorem dX6_onWalls_19 : decode cX6_onWalls 19 = .ok (.if_icmp .ne 9, 3) := by decide +kernel
theorem dX6_onWalls_22 : decode cX6_onWalls 22 = .ok (.iconst 1, 1) := by decide +kernel
theorem dX6_onWalls_23 : decode cX6_onWalls 23 = .ok (.iload_n 3, 1) := by decide +kernel
theorem dX6_onWalls_24 : decode cX6_onWalls 24 = .ok (.ishl, 1) := by decide +kernel
theorem dX6_onWalls_25 : decode cX6_onWalls 25 = .ok (.goto 4, 3) := by decide +kernel
theorem dX6_onWalls_28 : decode cX6_onWalls 28 = .ok (.iconst 0, 1) := by decide +kernel
theorem dX6_onWalls_29 : decode cX6_onWalls 29 = .ok (.ior, 1) := by decide +kernel
theorem dX6_onWalls_30 : decode cX6_onWalls 30 = .ok (.istore_n 2, 1) := by decide +kernel
theorem dX6_onWalls_31 : decode cX6_onWalls 31 = .ok (.iinc 3 1, 3) := by decide +kernel
theorem dX6_onWalls_34 : decode cX6_onWalls 34 = .ok (.goto (-30), 3) := by decide +kernel
theorem dX6_onWalls_37 : decode cX6_onWalls 37 = .ok (.iload_n 2, 1) := by decide +kernel
theorem dX6_onWalls_38 : decode cX6_onWalls 38 = .ok (.ireturn, 1) := by decide +kernel
set_option maxRecDepth 20000 in
theorem ggX6_width_X6_isFace : GoodIn wsX6_width wsX6_isFace := goodIn_r _ [6, 7, 8, 9, 10, 5, 11, 12, 13, 14, 15, 16, 17, 18, 19, 20, 1, 21, 22, 23, 24, 25, 26, 27, 28, 29, 30, 31, 32, 33, 34, 35, 36, 37, 38, 39, 40, 41, 42, 43, 44, 45, 46, 47, 48, 49, 50, 51, 52, 53, 54, 55, 56, 66, 67, 68, 69, 70, 71, 72, 73, 74, 75, 76, 77] (by decide +kernel) (by decide +kernel)
set_option maxRecDepth 20000 in
theorem gX6_width_X6_isFace : GoodIn wsX6_width (wsV RX6 100 RX6 yX6_isFace wsX6_isFace) := goodIn_app (goodIn_of _ (by decide +kernel)) ggX6_width_X6_isFace
set_option maxRecDepth 20000 in
theorem ggX6_width_X6_onWalls : GoodIn wsX6_width wsX6_onWalls := goodIn_r _ [60, 13, 28, 29, 5, 30, 14, 15, 16, 66, 67, 68, 69, 70, 71, 72, 73, 74, 75, 76, 77] (by decide +kernel) (by decide +kernel)
set_option maxRecDepth 20000 in
theorem gX6_width_X6_onWalls : GoodIn wsX6_width (wsV RX6 103 RX6 yX6_onWalls wsX6_onWalls) := goodIn_app (goodIn_of _ (by decide +kernel)) ggX6_width_X6_onWalls
set_option maxRecDepth 20000 in
theorem ggX6_width_X6_rank : GoodIn wsX6_width wsX6_rank := goodIn_r _ [64, 13, 65, 35, 36, 37, 5, 38, 39, 66, 67, 68, 69, 70, 71, 72, 73, 74, 75, 76, 77] (by decide +kernel) (by decide +kernel)
set_option maxRecDepth 20000 in
theorem gX6_width_X6_rank : GoodIn wsX6_width (wsV RX6 97 RX6 yX6_rank wsX6_rank) := goodIn_app (goodIn_of _ (by decide +kernel)) ggX6_width_X6_rank
theorem dX6_width_0 : decode cX6_width 0 = .ok (.aload_n 0, 1) := by decide +kernel
theorem dX6_width_1 : decode cX6_width 1 = .ok (.iload_n 1, 1) := by decide +kernel
theorem dX6_width_2 : decode cX6_width 2 = .ok (.invokevirtual 100, 3) := by decide +kernel
theorem dX6_width_5 : decode cX6_width 5 = .ok (.ifCond .eq 21, 3) := by decide +kernel
theorem dX6_width_8 : decode cX6_width 8 = .ok (.aload_n 0, 1) := by decide +kernel
theorem dX6_width_9 : decode cX6_width 9 = .ok (.getfield 37, 3) := by decide +kernel
theorem dX6_width_12 : decode cX6_width 12 = .ok (.aload_n 0, 1) := by decide +kernel
theorem dX6_width_13 : decode cX6_width 13 = .ok (.aload_n 0, 1) := by decide +kernel
theorem dX6_width_14 : decode cX6_width 14 = .ok (.iload_n 1, 1) := by decide +kernel
theorem dX6_width_15 : decode cX6_width 15 = .ok (.invokevirtual 103, 3) := by decide +kernel
theorem dX6_width_18 : decode cX6_width 18 = .ok (.iconst 3, 1) := by decide +kernel
theorem dX6_width_19 : decode cX6_width 19 = .ok (.invokevirtual 97, 3) := by decide +kernel
theorem dX6_width_22 : decode cX6_width 22 = .ok (.isub, 1) := by decide +kernel
theorem dX6_width_23 : decode cX6_width 23 = .ok (.goto 4, 3) := by decide +kernel
theorem dX6_width_26 : decode cX6_width 26 = .ok (.iconst (-1), 1) := by decide +kernel
theorem dX6_width_27 : decode cX6_width 27 = .ok (.ireturn, 1) := by decide +kernel
set_option maxRecDepth 20000 in
theorem ggX6_faces_X6_in : GoodIn wsX6_faces wsX6_in := goodIn_r _ [6] (by decide +kernel) (by decide +kernel)
set_option maxRecDepth 20000 in
theorem gX6_faces_X6_in : GoodIn wsX6_faces (va_wsS RX6 45 yX6_in wsX6_in) := goodIn_app (goodIn_of _ (by decide +kernel)) ggX6_faces_X6_in
set_option maxRecDepth 20000 in
theorem ggX6_faces_X6_power : GoodIn wsX6_faces wsX6_power := goodIn_r _ [9] (by decide +kernel) (by decide +kernel)
set_option maxRecDepth 20000 in
theorem gX6_faces_X6_power : GoodIn wsX6_faces (va_wsS RX6 56 yX6_power wsX6_power) := goodIn_app (goodIn_of _ (by decide +kernel)) ggX6_faces_X6_power
set_option maxRecDepth 20000 in
theorem ggX6_faces_X6_width : GoodIn wsX6_faces wsX6_width := goodIn_r _ [13, 1, 14, 15, 16, 5, 17, 18, 19, 20, 21, 22, 23, 2, 7, 8, 9, 24, 25, 26, 27, 28, 29, 30, 31, 32, 33, 34, 35, 36, 37, 38, 39, 40, 41, 42, 43, 44, 45, 46, 47, 48, 49, 50, 51, 52, 53, 54, 55, 56, 57, 58, 59, 60, 3, 4, 6, 61, 62, 63, 64, 65, 66, 67, 68, 69, 70, 71, 72, 73, 74, 75, 76, 77, 78, 79, 80, 81] (by decide +kernel) (by decide +kernel)
set_option maxRecDepth 20000 in
theorem gX6_faces_X6_width : GoodIn wsX6_faces (wsV RX6 106 RX6 yX6_width wsX6_width) := goodIn_app (goodIn_of _ (by decide +kernel)) ggX6_faces_X6_width
theorem dX6_faces_0 : decode cX6_faces 0 = .ok (.iload_n 1, 1) := by decide +kernel
theorem dX6_faces_1 : decode cX6_faces 1 = .ok (.iconst 0, 1) := by decide +kernel
theorem dX6_faces_2 : decode cX6_faces 2 = .ok (.aload_n 0, 1) := by decide +kernel
theorem dX6_faces_3 : decode cX6_faces 3 = .ok (.getfield 37, 3) := by decide +kernel
theorem dX6_faces_6 : decode cX6_faces 6 = .ok (.invokestatic 45, 3) := by decide +kernel
theorem dX6_faces_9 : decode cX6_faces 9 = .ok (.ifCond .ne 5, 3) := by decide +kernel
theorem dX6_faces_12 : decode cX6_faces 12 = .ok (.iconst (-1), 1) := by decide +kernel
theorem dX6_faces_13 : decode cX6_faces 13 = .ok (.ireturn, 1) := by decide +kernel
theorem dX6_faces_14 : decode cX6_faces 14 = .ok (.iconst 0, 1) := by decide +kernel
theorem dX6_faces_15 : decode cX6_faces 15 = .ok (.istore_n 2, 1) := by decide +kernel
theorem dX6_faces_16 : decode cX6_faces 16 = .ok (.iconst 0, 1) := by decide +kernel
theorem dX6_faces_17 : decode cX6_faces 17 = .ok (.istore_n 3, 1) := by decide +kernel
theorem dX6_faces_18 : decode cX6_faces 18 = .ok (.iload_n 3, 1) := by decide +kernel
theorem dX6_faces_19 : decode cX6_faces 19 = .ok (.aload_n 0, 1) := by decide +kernel
theorem dX6_faces_20 : decode cX6_faces 20 = .ok (.getfield 49, 3) := by decide +kernel
theorem dX6_faces_23 : decode cX6_faces 23 = .ok (.invokestatic 56, 3) := by decide +kernel
theorem dX6_faces_26 : decode cX6_faces 26 = .ok (.if_icmp .ge 26, 3) := by decide +kernel
theorem dX6_faces_29 : decode cX6_faces 29 = .ok (.iload_n 2, 1) := by decide +kernel
theorem dX6_faces_30 : decode cX6_faces 30 = .ok (.aload_n 0, 1) := by decide +kernel
theorem dX6_faces_31 : decode cX6_faces 31 = .ok (.iload_n 3, 1) := by decide +kernel
theorem dX6_faces_32 : decode cX6_faces 32 = .ok (.invokevirtual 106, 3) := by decide +kernel
theorem dX6_faces_35 : decode cX6_faces 35 = .ok (.iload_n 1, 1) := by decide +kernel
theorem dX6_faces_36 : decode cX6_faces 36 = .ok (.if_icmp .ne 7, 3) := by decide +kernel
theorem dX6_faces_39 : decode cX6_faces 39 = .ok (.iconst 1, 1) := by decide +kernel
theorem dX6_faces_40 : decode cX6_faces 40 = .ok (.goto 4, 3) := by decide +kernel
theorem dX6_faces_43 : decode cX6_faces 43 = .ok (.iconst 0, 1) := by decide +kernel
theorem dX6_faces_44 : decode cX6_faces 44 = .ok (.iadd, 1) := by decide +kernel
theorem dX6_faces_45 : decode cX6_faces 45 = .ok (.istore_n 2, 1) := by decide +kernel
theorem dX6_faces_46 : decode cX6_faces 46 = .ok (.iinc 3 1, 3) := by decide +kernel
theorem dX6_faces_49 : decode cX6_faces 49 = .ok (.goto (-31), 3) := by decide +kernel
theorem dX6_faces_52 : decode cX6_faces 52 = .ok (.iload_n 2, 1) := by decide +kernel
theorem dX6_faces_53 : decode cX6_faces 53 = .ok (.ireturn, 1) := by decide +kernel
set_option maxRecDepth 20000 in
theorem ggX6_face_X6_in : GoodIn wsX6_face wsX6_in := goodIn_r _ [6] (by decide +kernel) (by decide +kernel)
set_option maxRecDepth 20000 in
theorem gX6_face_X6_in : GoodIn wsX6_face (va_wsS RX6 45 yX6_in wsX6_in) := goodIn_app (goodIn_of _ (by decide +kernel)) ggX6_face_X6_in
set_option maxRecDepth 20000 in
theorem ggX6_face_X6_power : GoodIn wsX6_face wsX6_power := goodIn_r _ [9] (by decide +kernel) (by decide +kernel)
set_option maxRecDepth 20000 in
theorem gX6_face_X6_power : GoodIn wsX6_face (va_wsS RX6 56 yX6_power wsX6_power) := goodIn_app (goodIn_of _ (by decide +kernel)) ggX6_face_X6_power
set_option maxRecDepth 20000 in
theorem ggX6_face_X6_width : GoodIn wsX6_face wsX6_width := goodIn_r _ [13, 1, 14, 15, 16, 5, 17, 18, 19, 20, 21, 22, 23, 2, 7, 8, 9, 24, 25, 26, 27, 28, 29, 30, 31, 32, 33, 34, 35, 36, 37, 38, 39, 40, 41, 42, 43, 44, 45, 46, 47, 48, 49, 50, 51, 52, 53, 54, 55, 56, 57, 58, 59, 60, 3, 4, 6, 61, 62, 63, 64, 65, 66, 67, 68, 69, 70, 71, 72, 73, 74, 75, 76, 77, 78, 79, 80, 81] (by decide +kernel) (by decide +kernel)
set_option maxRecDepth 20000 in
theorem gX6_face_X6_width : GoodIn wsX6_face (wsV RX6 106 RX6 yX6_width wsX6_width) := goodIn_app (goodIn_of _ (by decide +kernel)) ggX6_face_X6_width
theorem dX6_face_0 : decode cX6_face 0 = .ok (.iload_n 1, 1) := by decide +kernel
theorem dX6_face_1 : decode cX6_face 1 = .ok (.iconst 0, 1) := by decide +kernel
theorem dX6_face_2 : decode cX6_face 2 = .ok (.aload_n 0, 1) := by decide +kernel
theorem dX6_face_3 : decode cX6_face 3 = .ok (.getfield 37, 3) := by decide +kernel
theorem dX6_face_6 : decode cX6_face 6 = .ok (.invokestatic 45, 3) := by decide +kernel
theorem dX6_face_9 : decode cX6_face 9 = .ok (.ifCond .eq 7, 3) := by decide +kernel
theorem dX6_face_12 : decode cX6_face 12 = .ok (.iload_n 2, 1) := by decide +kernel
theorem dX6_face_13 : decode cX6_face 13 = .ok (.ifCond .ge 5, 3) := by decide +kernel
theorem dX6_face_16 : decode cX6_face 16 = .ok (.iconst (-1), 1) := by decide +kernel
theorem dX6_face_17 : decode cX6_face 17 = .ok (.ireturn, 1) := by decide +kernel
theorem dX6_face_18 : decode cX6_face 18 = .ok (.iload_n 2, 1) := by decide +kernel
theorem dX6_face_19 : decode cX6_face 19 = .ok (.istore_n 3, 1) := by decide +kernel
theorem dX6_face_20 : decode cX6_face 20 = .ok (.iconst 0, 1) := by decide +kernel
theorem dX6_face_21 : decode cX6_face 21 = .ok (.istore 4, 2) := by decide +kernel
theorem dX6_face_23 : decode cX6_face 23 = .ok (.iload 4, 2) := by decide +kernel
theorem dX6_face_25 : decode cX6_face 25 = .ok (.aload_n 0, 1) := by decide +kernel
theorem dX6_face_26 : decode cX6_face 26 = .ok (.getfield 49, 3) := by decide +kernel
theorem dX6_face_29 : decode cX6_face 29 = .ok (.invokestatic 56, 3) := by decide +kernel
theorem dX6_face_32 : decode cX6_face 32 = .ok (.if_icmp .ge 32, 3) := by decide +kernel
theorem dX6_face_35 : decode cX6_face 35 = .ok (.aload_n 0, 1) := by decide +kernel
theorem dX6_face_36 : decode cX6_face 36 = .ok (.iload 4, 2) := by decide +kernel
theorem dX6_face_38 : decode cX6_face 38 = .ok (.invokevirtual 106, 3) := by decide +kernel
theorem dX6_face_41 : decode cX6_face 41 = .ok (.iload_n 1, 1) := by decide +kernel
theorem dX6_face_42 : decode cX6_face 42 = .ok (.if_icmp .eq 6, 3) := by decide +kernel
theorem dX6_face_45 : decode cX6_face 45 = .ok (.goto 13, 3) := by decide +kernel
theorem dX6_face_48 : decode cX6_face 48 = .ok (.iload_n 3, 1) := by decide +kernel
theorem dX6_face_49 : decode cX6_face 49 = .ok (.ifCond .ne 6, 3) := by decide +kernel
theorem dX6_face_52 : decode cX6_face 52 = .ok (.iload 4, 2) := by decide +kernel
theorem dX6_face_54 : decode cX6_face 54 = .ok (.ireturn, 1) := by decide +kernel
theorem dX6_face_55 : decode cX6_face 55 = .ok (.iinc 3 (-1), 3) := by decide +kernel
theorem dX6_face_58 : decode cX6_face 58 = .ok (.iinc 4 1, 3) := by decide +kernel
theorem dX6_face_61 : decode cX6_face 61 = .ok (.goto (-38), 3) := by decide +kernel
theorem dX6_face_64 : decode cX6_face 64 = .ok (.iconst (-1), 1) := by decide +kernel
theorem dX6_face_65 : decode cX6_face 65 = .ok (.ireturn, 1) := by decide +kernel
set_option maxRecDepth 20000 in
theorem ggX6_isRoom_X6_isFace : GoodIn wsX6_isRoom wsX6_isFace := goodIn_r _ [5, 6, 7, 8, 9, 4, 10, 11, 12, 13, 14, 15, 16, 17, 18, 19, 20, 21, 22, 23, 24, 25, 26, 27, 28, 29, 30, 31, 32, 33, 34, 35, 36, 37, 38, 39, 40, 41, 42, 43, 44, 45, 46, 47, 48, 49, 50, 51, 52, 53, 54, 55, 56, 61, 62, 63, 64, 65, 66, 67, 68, 69, 70, 71, 72] (by decide +kernel) (by decide +kernel)
set_option maxRecDepth 20000 in
theorem gX6_isRoom_X6_isFace : GoodIn wsX6_isRoom (wsV RX6 100 RX6 yX6_isFace wsX6_isFace) := goodIn_app (goodIn_of _ (by decide +kernel)) ggX6_isRoom_X6_isFace
set_option maxRecDepth 20000 in
theorem ggX6_isRoom_X6_onWalls : GoodIn wsX6_isRoom wsX6_onWalls := goodIn_r _ [60, 12, 28, 29, 4, 30, 13, 14, 15, 61, 62, 63, 64, 65, 66, 67, 68, 69, 70, 71, 72] (by decide +kernel) (by decide +kernel)
set_option maxRecDepth 20000 in
theorem gX6_isRoom_X6_onWalls : GoodIn wsX6_isRoom (wsV RX6 103 RX6 yX6_onWalls wsX6_onWalls) := goodIn_app (goodIn_of _ (by decide +kernel)) ggX6_isRoom_X6_onWalls
