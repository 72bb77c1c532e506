theorem dX2_forgetCommon_2 : decode cX2_forgetCommon 2 = .ok (.iload_n 1, 1) := by decide +kernel
theorem dX2_forgetCommon_3 : decode cX2_forgetCommon 3 = .ok (.sipush 256, 3) := by decide +kernel
theorem dX2_forgetCommon_6 : decode cX2_forgetCommon 6 = .ok (.if_icmp .ge 16, 3) := by decide +kernel
theorem dX2_forgetCommon_9 : decode cX2_forgetCommon 9 = .ok (.aload_n 0, 1) := by decide +kernel
theorem dX2_forgetCommon_10 : decode cX2_forgetCommon 10 = .ok (.getfield 15, 3) := by decide +kernel
theorem dX2_forgetCommon_13 : decode cX2_forgetCommon 13 = .ok (.iload_n 1, 1) := by decide +kernel
theorem dX2_forgetCommon_14 : decode cX2_forgetCommon 14 = .ok (.iconst 0, 1) := by decide +kernel
theorem dX2_forgetCommon_15 : decode cX2_forgetCommon 15 = .ok (.bastore, 1) := by decide +kernel
theorem dX2_forgetCommon_16 : decode cX2_forgetCommon 16 = .ok (.iinc 1 1, 3) := by decide +kernel
theorem dX2_forgetCommon_19 : decode cX2_forgetCommon 19 = .ok (.goto (-17), 3) := by decide +kernel
theorem dX2_forgetCommon_22 : decode cX2_forgetCommon 22 = .ok (.return_, 1) := by decide +kernel
set_option maxRecDepth 20000 in
theorem ggX2_rankAnew_X2_rankWith : GoodIn wsX2_rankAnew wsX2_rankWith := goodIn_r _ [6, 7, 8, 9, 10, 11, 1, 12, 13, 14, 15, 16, 17, 18, 19, 20, 21, 22, 23, 24, 25, 26, 27, 28, 29, 30, 31, 32, 33, 34, 35, 36, 37, 38, 39, 40, 41, 42, 43, 44, 45, 46, 47, 48, 49] (by decide +kernel) (by decide +kernel)
set_option maxRecDepth 20000 in
theorem gX2_rankAnew_X2_rankWith : GoodIn wsX2_rankAnew (wsV RX2 45 RX2 yX2_rankWith wsX2_rankWith) := goodIn_app (goodIn_of _ (by decide +kernel)) ggX2_rankAnew_X2_rankWith
theorem dX2_rankAnew_0 : decode cX2_rankAnew 0 = .ok (.iconst 0, 1) := by decide +kernel
theorem dX2_rankAnew_1 : decode cX2_rankAnew 1 = .ok (.istore_n 1, 1) := by decide +kernel
theorem dX2_rankAnew_2 : decode cX2_rankAnew 2 = .ok (.iload_n 1, 1) := by decide +kernel
theorem dX2_rankAnew_3 : decode cX2_rankAnew 3 = .ok (.aload_n 0, 1) := by decide +kernel
theorem dX2_rankAnew_4 : decode cX2_rankAnew 4 = .ok (.getfield 35, 3) := by decide +kernel
theorem dX2_rankAnew_7 : decode cX2_rankAnew 7 = .ok (.getfield 39, 3) := by decide +kernel
theorem dX2_rankAnew_10 : decode cX2_rankAnew 10 = .ok (.if_icmp .ge 30, 3) := by decide +kernel
theorem dX2_rankAnew_13 : decode cX2_rankAnew 13 = .ok (.iconst 0, 1) := by decide +kernel
theorem dX2_rankAnew_14 : decode cX2_rankAnew 14 = .ok (.istore_n 2, 1) := by decide +kernel
theorem dX2_rankAnew_15 : decode cX2_rankAnew 15 = .ok (.iload_n 2, 1) := by decide +kernel
theorem dX2_rankAnew_16 : decode cX2_rankAnew 16 = .ok (.iconst 1, 1) := by decide +kernel
theorem dX2_rankAnew_17 : decode cX2_rankAnew 17 = .ok (.iload_n 1, 1) := by decide +kernel
theorem dX2_rankAnew_18 : decode cX2_rankAnew 18 = .ok (.ishl, 1) := by decide +kernel
theorem dX2_rankAnew_19 : decode cX2_rankAnew 19 = .ok (.if_icmp .ge 15, 3) := by decide +kernel
theorem dX2_rankAnew_22 : decode cX2_rankAnew 22 = .ok (.aload_n 0, 1) := by decide +kernel
theorem dX2_rankAnew_23 : decode cX2_rankAnew 23 = .ok (.iload_n 2, 1) := by decide +kernel
theorem dX2_rankAnew_24 : decode cX2_rankAnew 24 = .ok (.iload_n 1, 1) := by decide +kernel
theorem dX2_rankAnew_25 : decode cX2_rankAnew 25 = .ok (.invokevirtual 45, 3) := by decide +kernel
theorem dX2_rankAnew_28 : decode cX2_rankAnew 28 = .ok (.iinc 2 1, 3) := by decide +kernel
theorem dX2_rankAnew_31 : decode cX2_rankAnew 31 = .ok (.goto (-16), 3) := by decide +kernel
theorem dX2_rankAnew_34 : decode cX2_rankAnew 34 = .ok (.iinc 1 1, 3) := by decide +kernel
theorem dX2_rankAnew_37 : decode cX2_rankAnew 37 = .ok (.goto (-35), 3) := by decide +kernel
theorem dX2_rankAnew_40 : decode cX2_rankAnew 40 = .ok (.return_, 1) := by decide +kernel
set_option maxRecDepth 20000 in
theorem ggX2_rankWith_X0_set : GoodIn wsX2_rankWith wsX0_set := goodIn_r _ [11, 12, 13, 14, 42, 43, 44] (by decide +kernel) (by decide +kernel)
set_option maxRecDepth 20000 in
theorem gX2_rankWith_X0_set : GoodIn wsX2_rankWith (wsV RX2 49 RX0 yX0_set wsX0_set) := goodIn_app (goodIn_of _ (by decide +kernel)) ggX2_rankWith_X0_set
set_option maxRecDepth 20000 in
theorem ggX2_rankWith_X0_crossWith : GoodIn wsX2_rankWith wsX0_crossWith := goodIn_r _ [18, 13, 14, 12, 19, 8, 9, 10, 11, 35, 36, 37, 38, 39, 40, 41, 42, 43, 44] (by decide +kernel) (by decide +kernel)
set_option maxRecDepth 20000 in
theorem gX2_rankWith_X0_crossWith : GoodIn wsX2_rankWith (wsV RX2 62 RX0 yX0_crossWith wsX0_crossWith) := goodIn_app (goodIn_of _ (by decide +kernel)) ggX2_rankWith_X0_crossWith
set_option maxRecDepth 20000 in
theorem ggX2_rankWith_X0_isNothing : GoodIn wsX2_rankWith wsX0_isNothing := goodIn_r _ [23, 12, 13, 14, 42, 43, 44] (by decide +kernel) (by decide +kernel)
set_option maxRecDepth 20000 in
theorem gX2_rankWith_X0_isNothing : GoodIn wsX2_rankWith (wsV RX2 66 RX0 yX0_isNothing wsX0_isNothing) := goodIn_app (goodIn_of _ (by decide +kernel)) ggX2_rankWith_X0_isNothing
set_option maxRecDepth 20000 in
theorem ggX2_rankWith_X0_climb : GoodIn wsX2_rankWith wsX0_climb := goodIn_r _ [27, 12, 13, 14, 35, 36, 37, 38, 39, 40, 41, 42, 43, 44] (by decide +kernel) (by decide +kernel)
set_option maxRecDepth 20000 in
theorem gX2_rankWith_X0_climb : GoodIn wsX2_rankWith (wsV RX2 70 RX0 yX0_climb wsX0_climb) := goodIn_app (goodIn_of _ (by decide +kernel)) ggX2_rankWith_X0_climb
theorem dX2_rankWith_0 : decode cX2_rankWith 0 = .ok (.iload_n 1, 1) := by decide +kernel
theorem dX2_rankWith_1 : decode cX2_rankWith 1 = .ok (.iconst 1, 1) := by decide +kernel
theorem dX2_rankWith_2 : decode cX2_rankWith 2 = .ok (.iload_n 2, 1) := by decide +kernel
theorem dX2_rankWith_3 : decode cX2_rankWith 3 = .ok (.ishl, 1) := by decide +kernel
theorem dX2_rankWith_4 : decode cX2_rankWith 4 = .ok (.ior, 1) := by decide +kernel
theorem dX2_rankWith_5 : decode cX2_rankWith 5 = .ok (.istore_n 3, 1) := by decide +kernel
theorem dX2_rankWith_6 : decode cX2_rankWith 6 = .ok (.aload_n 0, 1) := by decide +kernel
theorem dX2_rankWith_7 : decode cX2_rankWith 7 = .ok (.getfield 9, 3) := by decide +kernel
theorem dX2_rankWith_10 : decode cX2_rankWith 10 = .ok (.iload_n 1, 1) := by decide +kernel
theorem dX2_rankWith_11 : decode cX2_rankWith 11 = .ok (.iaload, 1) := by decide +kernel
theorem dX2_rankWith_12 : decode cX2_rankWith 12 = .ok (.istore 4, 2) := by decide +kernel
theorem dX2_rankWith_14 : decode cX2_rankWith 14 = .ok (.aload_n 0, 1) := by decide +kernel
theorem dX2_rankWith_15 : decode cX2_rankWith 15 = .ok (.getfield 31, 3) := by decide +kernel
theorem dX2_rankWith_18 : decode cX2_rankWith 18 = .ok (.aload_n 0, 1) := by decide +kernel
theorem dX2_rankWith_19 : decode cX2_rankWith 19 = .ok (.getfield 19, 3) := by decide +kernel
theorem dX2_rankWith_22 : decode cX2_rankWith 22 = .ok (.iload_n 1, 1) := by decide +kernel
theorem dX2_rankWith_23 : decode cX2_rankWith 23 = .ok (.iaload, 1) := by decide +kernel
theorem dX2_rankWith_24 : decode cX2_rankWith 24 = .ok (.aload_n 0, 1) := by decide +kernel
theorem dX2_rankWith_25 : decode cX2_rankWith 25 = .ok (.getfield 22, 3) := by decide +kernel
theorem dX2_rankWith_28 : decode cX2_rankWith 28 = .ok (.iload_n 1, 1) := by decide +kernel
theorem dX2_rankWith_29 : decode cX2_rankWith 29 = .ok (.iaload, 1) := by decide +kernel
theorem dX2_rankWith_30 : decode cX2_rankWith 30 = .ok (.aload_n 0, 1) := by decide +kernel
theorem dX2_rankWith_31 : decode cX2_rankWith 31 = .ok (.getfield 25, 3) := by decide +kernel
theorem dX2_rankWith_34 : decode cX2_rankWith 34 = .ok (.iload_n 1, 1) := by decide +kernel
theorem dX2_rankWith_35 : decode cX2_rankWith 35 = .ok (.iaload, 1) := by decide +kernel
theorem dX2_rankWith_36 : decode cX2_rankWith 36 = .ok (.invokevirtual 49, 3) := by decide +kernel
theorem dX2_rankWith_39 : decode cX2_rankWith 39 = .ok (.iload 4, 2) := by decide +kernel
theorem dX2_rankWith_41 : decode cX2_rankWith 41 = .ok (.istore 5, 2) := by decide +kernel
theorem dX2_rankWith_43 : decode cX2_rankWith 43 = .ok (.iload 4, 2) := by decide +kernel
theorem dX2_rankWith_45 : decode cX2_rankWith 45 = .ok (.ifCond .ne 43, 3) := by decide +kernel
theorem dX2_rankWith_48 : decode cX2_rankWith 48 = .ok (.aload_n 0, 1) := by decide +kernel
theorem dX2_rankWith_49 : decode cX2_rankWith 49 = .ok (.getfield 31, 3) := by decide +kernel
theorem dX2_rankWith_52 : decode cX2_rankWith 52 = .ok (.aload_n 0, 1) := by decide +kernel
theorem dX2_rankWith_53 : decode cX2_rankWith 53 = .ok (.getfield 35, 3) := by decide +kernel
theorem dX2_rankWith_56 : decode cX2_rankWith 56 = .ok (.getfield 53, 3) := by decide +kernel
theorem dX2_rankWith_59 : decode cX2_rankWith 59 = .ok (.iload_n 2, 1) := by decide +kernel
theorem dX2_rankWith_60 : decode cX2_rankWith 60 = .ok (.iaload, 1) := by decide +kernel
theorem dX2_rankWith_61 : decode cX2_rankWith 61 = .ok (.aload_n 0, 1) := by decide +kernel
theorem dX2_rankWith_62 : decode cX2_rankWith 62 = .ok (.getfield 35, 3) := by decide +kernel
theorem dX2_rankWith_65 : decode cX2_rankWith 65 = .ok (.getfield 56, 3) := by decide +kernel
theorem dX2_rankWith_68 : decode cX2_rankWith 68 = .ok (.iload_n 2, 1) := by decide +kernel
theorem dX2_rankWith_69 : decode cX2_rankWith 69 = .ok (.iaload, 1) := by decide +kernel
theorem dX2_rankWith_70 : decode cX2_rankWith 70 = .ok (.aload_n 0, 1) := by decide +kernel
theorem dX2_rankWith_71 : decode cX2_rankWith 71 = .ok (.getfield 35, 3) := by decide +kernel
theorem dX2_rankWith_74 : decode cX2_rankWith 74 = .ok (.getfield 59, 3) := by decide +kernel
theorem dX2_rankWith_77 : decode cX2_rankWith 77 = .ok (.iload_n 2, 1) := by decide +kernel
theorem dX2_rankWith_78 : decode cX2_rankWith 78 = .ok (.iaload, 1) := by decide +kernel
theorem dX2_rankWith_79 : decode cX2_rankWith 79 = .ok (.invokevirtual 49, 3) := by decide +kernel
theorem dX2_rankWith_82 : decode cX2_rankWith 82 = .ok (.iconst 1, 1) := by decide +kernel
theorem dX2_rankWith_83 : decode cX2_rankWith 83 = .ok (.istore 5, 2) := by decide +kernel
theorem dX2_rankWith_85 : decode cX2_rankWith 85 = .ok (.goto 89, 3) := by decide +kernel
theorem dX2_rankWith_88 : decode cX2_rankWith 88 = .ok (.iload 4, 2) := by decide +kernel
theorem dX2_rankWith_90 : decode cX2_rankWith 90 = .ok (.iconst 1, 1) := by decide +kernel
theorem dX2_rankWith_91 : decode cX2_rankWith 91 = .ok (.if_icmp .ne 59, 3) := by decide +kernel
theorem dX2_rankWith_94 : decode cX2_rankWith 94 = .ok (.aload_n 0, 1) := by decide +kernel
theorem dX2_rankWith_95 : decode cX2_rankWith 95 = .ok (.getfield 31, 3) := by decide +kernel
theorem dX2_rankWith_98 : decode cX2_rankWith 98 = .ok (.aload_n 0, 1) := by decide +kernel
theorem dX2_rankWith_99 : decode cX2_rankWith 99 = .ok (.getfield 35, 3) := by decide +kernel
theorem dX2_rankWith_102 : decode cX2_rankWith 102 = .ok (.iload_n 2, 1) := by decide +kernel
theorem dX2_rankWith_103 : decode cX2_rankWith 103 = .ok (.invokevirtual 62, 3) := by decide +kernel
theorem dX2_rankWith_106 : decode cX2_rankWith 106 = .ok (.aload_n 0, 1) := by decide +kernel
theorem dX2_rankWith_107 : decode cX2_rankWith 107 = .ok (.getfield 31, 3) := by decide +kernel
theorem dX2_rankWith_110 : decode cX2_rankWith 110 = .ok (.invokevirtual 66, 3) := by decide +kernel
theorem dX2_rankWith_113 : decode cX2_rankWith 113 = .ok (.ifCond .eq 31, 3) := by decide +kernel
theorem dX2_rankWith_116 : decode cX2_rankWith 116 = .ok (.aload_n 0, 1) := by decide +kernel
theorem dX2_rankWith_117 : decode cX2_rankWith 117 = .ok (.getfield 31, 3) := by decide +kernel
theorem dX2_rankWith_120 : decode cX2_rankWith 120 = .ok (.aload_n 0, 1) := by decide +kernel
theorem dX2_rankWith_121 : decode cX2_rankWith 121 = .ok (.getfield 19, 3) := by decide +kernel
theorem dX2_rankWith_124 : decode cX2_rankWith 124 = .ok (.iload_n 1, 1) := by decide +kernel
theorem dX2_rankWith_125 : decode cX2_rankWith 125 = .ok (.iaload, 1) := by decide +kernel
theorem dX2_rankWith_126 : decode cX2_rankWith 126 = .ok (.aload_n 0, 1) := by decide +kernel
theorem dX2_rankWith_127 : decode cX2_rankWith 127 = .ok (.getfield 22, 3) := by decide +kernel
theorem dX2_rankWith_130 : decode cX2_rankWith 130 = .ok (.iload_n 1, 1) := by decide +kernel
theorem dX2_rankWith_131 : decode cX2_rankWith 131 = .ok (.iaload, 1) := by decide +kernel
theorem dX2_rankWith_132 : decode cX2_rankWith 132 = .ok (.aload_n 0, 1) := by decide +kernel
theorem dX2_rankWith_133 : decode cX2_rankWith 133 = .ok (.getfield 25, 3) := by decide +kernel
theorem dX2_rankWith_136 : decode cX2_rankWith 136 = .ok (.iload_n 1, 1) := by decide +kernel
theorem dX2_rankWith_137 : decode cX2_rankWith 137 = .ok (.iaload, 1) := by decide +kernel
theorem dX2_rankWith_138 : decode cX2_rankWith 138 = .ok (.invokevirtual 49, 3) := by decide +kernel
theorem dX2_rankWith_141 : decode cX2_rankWith 141 = .ok (.goto 33, 3) := by decide +kernel
theorem dX2_rankWith_144 : decode cX2_rankWith 144 = .ok (.iconst 2, 1) := by decide +kernel
theorem dX2_rankWith_145 : decode cX2_rankWith 145 = .ok (.istore 5, 2) := by decide +kernel
theorem dX2_rankWith_147 : decode cX2_rankWith 147 = .ok (.goto 27, 3) := by decide +kernel
theorem dX2_rankWith_150 : decode cX2_rankWith 150 = .ok (.iload 4, 2) := by decide +kernel
theorem dX2_rankWith_152 : decode cX2_rankWith 152 = .ok (.iconst 2, 1) := by decide +kernel
theorem dX2_rankWith_153 : decode cX2_rankWith 153 = .ok (.if_icmp .ne 21, 3) := by decide +kernel
theorem dX2_rankWith_156 : decode cX2_rankWith 156 = .ok (.aload_n 0, 1) := by decide +kernel
theorem dX2_rankWith_157 : decode cX2_rankWith 157 = .ok (.getfield 31, 3) := by decide +kernel
theorem dX2_rankWith_160 : decode cX2_rankWith 160 = .ok (.aload_n 0, 1) := by decide +kernel
theorem dX2_rankWith_161 : decode cX2_rankWith 161 = .ok (.getfield 35, 3) := by decide +kernel
theorem dX2_rankWith_164 : decode cX2_rankWith 164 = .ok (.iload_n 2, 1) := by decide +kernel
theorem dX2_rankWith_165 : decode cX2_rankWith 165 = .ok (.invokevirtual 70, 3) := by decide +kernel
theorem dX2_rankWith_168 : decode cX2_rankWith 168 = .ok (.ifCond .eq 6, 3) := by decide +kernel
theorem dX2_rankWith_171 : decode cX2_rankWith 171 = .ok (.iconst 3, 1) := by decide +kernel
theorem dX2_rankWith_172 : decode cX2_rankWith 172 = .ok (.istore 5, 2) := by decide +kernel
theorem dX2_rankWith_174 : decode cX2_rankWith 174 = .ok (.aload_n 0, 1) := by decide +kernel
theorem dX2_rankWith_175 : decode cX2_rankWith 175 = .ok (.getfield 9, 3) := by decide +kernel
theorem dX2_rankWith_178 : decode cX2_rankWith 178 = .ok (.iload_n 3, 1) := by decide +kernel
theorem dX2_rankWith_179 : decode cX2_rankWith 179 = .ok (.iload 5, 2) := by decide +kernel
theorem dX2_rankWith_181 : decode cX2_rankWith 181 = .ok (.iastore, 1) := by decide +kernel
theorem dX2_rankWith_182 : decode cX2_rankWith 182 = .ok (.aload_n 0, 1) := by decide +kernel
theorem dX2_rankWith_183 : decode cX2_rankWith 183 = .ok (.getfield 19, 3) := by decide +kernel
theorem dX2_rankWith_186 : decode cX2_rankWith 186 = .ok (.iload_n 3, 1) := by decide +kernel
theorem dX2_rankWith_187 : decode cX2_rankWith 187 = .ok (.aload_n 0, 1) := by decide +kernel
theorem dX2_rankWith_188 : decode cX2_rankWith 188 = .ok (.getfield 31, 3) := by decide +kernel
theorem dX2_rankWith_191 : decode cX2_rankWith 191 = .ok (.getfield 74, 3) := by decide +kernel
theorem dX2_rankWith_194 : decode cX2_rankWith 194 = .ok (.iastore, 1) := by decide +kernel
theorem dX2_rankWith_195 : decode cX2_rankWith 195 = .ok (.aload_n 0, 1) := by decide +kernel
theorem dX2_rankWith_196 : decode cX2_rankWith 196 = .ok (.getfield 22, 3) := by decide +kernel
theorem dX2_rankWith_199 : decode cX2_rankWith 199 = .ok (.iload_n 3, 1) := by decide +kernel
theorem dX2_rankWith_200 : decode cX2_rankWith 200 = .ok (.aload_n 0, 1) := by decide +kernel
theorem dX2_rankWith_201 : decode cX2_rankWith 201 = .ok (.getfield 31, 3) := by decide +kernel
theorem dX2_rankWith_204 : decode cX2_rankWith 204 = .ok (.getfield 77, 3) := by decide +kernel
theorem dX2_rankWith_207 : decode cX2_rankWith 207 = .ok (.iastore, 1) := by decide +kernel
theorem dX2_rankWith_208 : decode cX2_rankWith 208 = .ok (.aload_n 0, 1) := by decide +kernel
theorem dX2_rankWith_209 : decode cX2_rankWith 209 = .ok (.getfield 25, 3) := by decide +kernel
theorem dX2_rankWith_212 : decode cX2_rankWith 212 = .ok (.iload_n 3, 1) := by decide +kernel
theorem dX2_rankWith_213 : decode cX2_rankWith 213 = .ok (.aload_n 0, 1) := by decide +kernel
theorem dX2_rankWith_214 : decode cX2_rankWith 214 = .ok (.getfield 31, 3) := by decide +kernel
theorem dX2_rankWith_217 : decode cX2_rankWith 217 = .ok (.getfield 80, 3) := by decide +kernel
theorem dX2_rankWith_220 : decode cX2_rankWith 220 = .ok (.iastore, 1) := by decide +kernel
theorem dX2_rankWith_221 : decode cX2_rankWith 221 = .ok (.return_, 1) := by decide +kernel
theorem dX2_shareDown_0 : decode cX2_shareDown 0 = .ok (.iconst 1, 1) := by decide +kernel
theorem dX2_shareDown_1 : decode cX2_shareDown 1 = .ok (.aload_n 0, 1) := by decide +kernel
theorem dX2_shareDown_2 : decode cX2_shareDown 2 = .ok (.getfield 35, 3) := by decide +kernel
theorem dX2_shareDown_5 : decode cX2_shareDown 5 = .ok (.getfield 39, 3) := by decide +kernel
theorem dX2_shareDown_8 : decode cX2_shareDown 8 = .ok (.ishl, 1) := by decide +kernel
theorem dX2_shareDown_9 : decode cX2_shareDown 9 = .ok (.iconst 1, 1) := by decide +kernel
theorem dX2_shareDown_10 : decode cX2_shareDown 10 = .ok (.isub, 1) := by decide +kernel
theorem dX2_shareDown_11 : decode cX2_shareDown 11 = .ok (.istore_n 1, 1) := by decide +kernel
theorem dX2_shareDown_12 : decode cX2_shareDown 12 = .ok (.iload_n 1, 1) := by decide +kernel
theorem dX2_shareDown_13 : decode cX2_shareDown 13 = .ok (.ifCond .le 50, 3) := by decide +kernel
theorem dX2_shareDown_16 : decode cX2_shareDown 16 = .ok (.iconst 0, 1) := by decide +kernel
theorem dX2_shareDown_17 : decode cX2_shareDown 17 = .ok (.istore_n 2, 1) := by decide +kernel
theorem dX2_shareDown_18 : decode cX2_shareDown 18 = .ok (.iload_n 2, 1) := by decide +kernel
theorem dX2_shareDown_19 : decode cX2_shareDown 19 = .ok (.aload_n 0, 1) := by decide +kernel
theorem dX2_shareDown_20 : decode cX2_shareDown 20 = .ok (.getfield 35, 3) := by decide +kernel
theorem dX2_shareDown_23 : decode cX2_shareDown 23 = .ok (.getfield 39, 3) := by decide +kernel
theorem dX2_shareDown_26 : decode cX2_shareDown 26 = .ok (.if_icmp .ge 31, 3) := by decide +kernel
theorem dX2_shareDown_29 : decode cX2_shareDown 29 = .ok (.aload_n 0, 1) := by decide +kernel
theorem dX2_shareDown_30 : decode cX2_shareDown 30 = .ok (.getfield 15, 3) := by decide +kernel
theorem dX2_shareDown_33 : decode cX2_shareDown 33 = .ok (.iload_n 1, 1) := by decide +kernel
theorem dX2_shareDown_34 : decode cX2_shareDown 34 = .ok (.baload, 1) := by decide +kernel
theorem dX2_shareDown_35 : decode cX2_shareDown 35 = .ok (.ifCond .eq 22, 3) := by decide +kernel
theorem dX2_shareDown_38 : decode cX2_shareDown 38 = .ok (.aload_n 0, 1) := by decide +kernel
theorem dX2_shareDown_39 : decode cX2_shareDown 39 = .ok (.getfield 15, 3) := by decide +kernel
theorem dX2_shareDown_42 : decode cX2_shareDown 42 = .ok (.iload_n 1, 1) := by decide +kernel
theorem dX2_shareDown_43 : decode cX2_shareDown 43 = .ok (.iconst 1, 1) := by decide +kernel
theorem dX2_shareDown_44 : decode cX2_shareDown 44 = .ok (.iload_n 2, 1) := by decide +kernel
theorem dX2_shareDown_45 : decode cX2_shareDown 45 = .ok (.ishl, 1) := by decide +kernel
theorem dX2_shareDown_46 : decode cX2_shareDown 46 = .ok (.iconst (-1), 1) := by decide +kernel
theorem dX2_shareDown_47 : decode cX2_shareDown 47 = .ok (.ixor, 1) := by decide +kernel
theorem dX2_shareDown_48 : decode cX2_shareDown 48 = .ok (.iand, 1) := by decide +kernel
theorem dX2_shareDown_49 : decode cX2_shareDown 49 = .ok (.iconst 1, 1) := by decide +kernel
theorem dX2_shareDown_50 : decode cX2_shareDown 50 = .ok (.bastore, 1) := by decide +kernel
theorem dX2_shareDown_51 : decode cX2_shareDown 51 = .ok (.iinc 2 1, 3) := by decide +kernel
theorem dX2_shareDown_54 : decode cX2_shareDown 54 = .ok (.goto (-36), 3) := by decide +kernel
theorem dX2_shareDown_57 : decode cX2_shareDown 57 = .ok (.iinc 1 (-1), 3) := by decide +kernel
theorem dX2_shareDown_60 : decode cX2_shareDown 60 = .ok (.goto (-48), 3) := by decide +kernel
theorem dX2_shareDown_63 : decode cX2_shareDown 63 = .ok (.return_, 1) := by decide +kernel
set_option maxRecDepth 20000 in
theorem ggX2_factor_J6_bitCount_0f7a4 : GoodIn wsX2_factor wsJ6_bitCount_0f7a4 := goodIn_r _ [7, 8, 9, 10] (by decide +kernel) (by decide +kernel)
set_option maxRecDepth 20000 in
theorem gX2_factor_J6_bitCount_0f7a4 : GoodIn wsX2_factor (va_wsS RX2 86 yJ6_bitCount_0f7a4 wsJ6_bitCount_0f7a4) := goodIn_app (goodIn_of _ (by decide +kernel)) ggX2_factor_J6_bitCount_0f7a4
theorem dX2_factor_0 : decode cX2_factor 0 = .ok (.iconst 0, 1) := by decide +kernel
theorem dX2_factor_1 : decode cX2_factor 1 = .ok (.istore_n 3, 1) := by decide +kernel
theorem dX2_factor_2 : decode cX2_factor 2 = .ok (.iconst 0, 1) := by decide +kernel
theorem dX2_factor_3 : decode cX2_factor 3 = .ok (.istore 4, 2) := by decide +kernel
theorem dX2_factor_5 : decode cX2_factor 5 = .ok (.iload 4, 2) := by decide +kernel
theorem dX2_factor_7 : decode cX2_factor 7 = .ok (.iconst 1, 1) := by decide +kernel
theorem dX2_factor_8 : decode cX2_factor 8 = .ok (.aload_n 0, 1) := by decide +kernel
theorem dX2_factor_9 : decode cX2_factor 9 = .ok (.getfield 35, 3) := by decide +kernel
theorem dX2_factor_12 : decode cX2_factor 12 = .ok (.getfield 39, 3) := by decide +kernel
theorem dX2_factor_15 : decode cX2_factor 15 = .ok (.ishl, 1) := by decide +kernel
theorem dX2_factor_16 : decode cX2_factor 16 = .ok (.if_icmp .ge 63, 3) := by decide +kernel
theorem dX2_factor_19 : decode cX2_factor 19 = .ok (.aload_n 0, 1) := by decide +kernel
theorem dX2_factor_20 : decode cX2_factor 20 = .ok (.getfield 15, 3) := by decide +kernel
theorem dX2_factor_23 : decode cX2_factor 23 = .ok (.iload 4, 2) := by decide +kernel
theorem dX2_factor_25 : decode cX2_factor 25 = .ok (.baload, 1) := by decide +kernel
theorem dX2_factor_26 : decode cX2_factor 26 = .ok (.ifCond .eq 47, 3) := by decide +kernel
theorem dX2_factor_29 : decode cX2_factor 29 = .ok (.iload 4, 2) := by decide +kernel
theorem dX2_factor_31 : decode cX2_factor 31 = .ok (.iload_n 2, 1) := by decide +kernel
theorem dX2_factor_32 : decode cX2_factor 32 = .ok (.iand, 1) := by decide +kernel
theorem dX2_factor_33 : decode cX2_factor 33 = .ok (.ifCond .ne 40, 3) := by decide +kernel
theorem dX2_factor_36 : decode cX2_factor 36 = .ok (.aload_n 0, 1) := by decide +kernel
theorem dX2_factor_37 : decode cX2_factor 37 = .ok (.getfield 35, 3) := by decide +kernel
theorem dX2_factor_40 : decode cX2_factor 40 = .ok (.getfield 83, 3) := by decide +kernel
theorem dX2_factor_43 : decode cX2_factor 43 = .ok (.aload_n 0, 1) := by decide +kernel
theorem dX2_factor_44 : decode cX2_factor 44 = .ok (.getfield 9, 3) := by decide +kernel
theorem dX2_factor_47 : decode cX2_factor 47 = .ok (.iload 4, 2) := by decide +kernel
theorem dX2_factor_49 : decode cX2_factor 49 = .ok (.iaload, 1) := by decide +kernel
theorem dX2_factor_50 : decode cX2_factor 50 = .ok (.isub, 1) := by decide +kernel
theorem dX2_factor_51 : decode cX2_factor 51 = .ok (.iload_n 1, 1) := by decide +kernel
theorem dX2_factor_52 : decode cX2_factor 52 = .ok (.if_icmp .ne 21, 3) := by decide +kernel
theorem dX2_factor_55 : decode cX2_factor 55 = .ok (.iload_n 3, 1) := by decide +kernel
theorem dX2_factor_56 : decode cX2_factor 56 = .ok (.iload 4, 2) := by decide +kernel
theorem dX2_factor_58 : decode cX2_factor 58 = .ok (.invokestatic 86, 3) := by decide +kernel
theorem dX2_factor_61 : decode cX2_factor 61 = .ok (.iconst 1, 1) := by decide +kernel
theorem dX2_factor_62 : decode cX2_factor 62 = .ok (.iand, 1) := by decide +kernel
theorem dX2_factor_63 : decode cX2_factor 63 = .ok (.ifCond .ne 7, 3) := by decide +kernel
theorem dX2_factor_66 : decode cX2_factor 66 = .ok (.iconst 1, 1) := by decide +kernel
theorem dX2_factor_67 : decode cX2_factor 67 = .ok (.goto 4, 3) := by decide +kernel
theorem dX2_factor_70 : decode cX2_factor 70 = .ok (.iconst (-1), 1) := by decide +kernel
theorem dX2_factor_71 : decode cX2_factor 71 = .ok (.iadd, 1) := by decide +kernel
theorem dX2_factor_72 : decode cX2_factor 72 = .ok (.istore_n 3, 1) := by decide +kernel
theorem dX2_factor_73 : decode cX2_factor 73 = .ok (.iinc 4 1, 3) := by decide +kernel
theorem dX2_factor_76 : decode cX2_factor 76 = .ok (.goto (-71), 3) := by decide +kernel
theorem dX2_factor_79 : decode cX2_factor 79 = .ok (.iload_n 3, 1) := by decide +kernel
theorem dX2_factor_80 : decode cX2_factor 80 = .ok (.ireturn, 1) := by decide +kernel
theorem dX3_init_0 : decode cX3_init 0 = .ok (.aload_n 0, 1) := by decide +kernel
theorem dX3_init_1 : decode cX3_init 1 = .ok (.invokespecial 3, 3) := by decide +kernel
theorem dX3_init_4 : decode cX3_init 4 = .ok (.aload_n 0, 1) := by decide +kernel
theorem dX3_init_5 : decode cX3_init 5 = .ok (.bipush 11, 2) := by decide +kernel
theorem dX3_init_7 : decode cX3_init 7 = .ok (.newarray .int, 2) := by decide +kernel
theorem dX3_init_9 : decode cX3_init 9 = .ok (.putfield 9, 3) := by decide +kernel
theorem dX3_init_12 : decode cX3_init 12 = .ok (.aload_n 0, 1) := by decide +kernel
theorem dX3_init_13 : decode cX3_init 13 = .ok (.bipush 11, 2) := by decide +kernel
theorem dX3_init_15 : decode cX3_init 15 = .ok (.newarray .int, 2) := by decide +kernel
theorem dX3_init_17 : decode cX3_init 17 = .ok (.putfield 15, 3) := by decide +kernel
theorem dX3_init_20 : decode cX3_init 20 = .ok (.aload_n 0, 1) := by decide +kernel
theorem dX3_init_21 : decode cX3_init 21 = .ok (.bipush 11, 2) := by decide +kernel
theorem dX3_init_23 : decode cX3_init 23 = .ok (.newarray .int, 2) := by decide +kernel
theorem dX3_init_25 : decode cX3_init 25 = .ok (.putfield 18, 3) := by decide +kernel
theorem dX3_init_28 : decode cX3_init 28 = .ok (.aload_n 0, 1) := by decide +kernel
theorem dX3_init_29 : decode cX3_init 29 = .ok (.bipush 11, 2) := by decide +kernel
theorem dX3_init_31 : decode cX3_init 31 = .ok (.newarray .int, 2) := by decide +kernel
theorem dX3_init_33 : decode cX3_init 33 = .ok (.putfield 21, 3) := by decide +kernel
theorem dX3_init_36 : decode cX3_init 36 = .ok (.aload_n 0, 1) := by decide +kernel
theorem dX3_init_37 : decode cX3_init 37 = .ok (.sipush 256, 3) := by decide +kernel
theorem dX3_init_40 : decode cX3_init 40 = .ok (.newarray .int, 2) := by decide +kernel
theorem dX3_init_42 : decode cX3_init 42 = .ok (.putfield 24, 3) := by decide +kernel
theorem dX3_init_45 : decode cX3_init 45 = .ok (.aload_n 0, 1) := by decide +kernel
theorem dX3_init_46 : decode cX3_init 46 = .ok (.iload_n 1, 1) := by decide +kernel
theorem dX3_init_47 : decode cX3_init 47 = .ok (.putfield 27, 3) := by decide +kernel
theorem dX3_init_50 : decode cX3_init 50 = .ok (.aload_n 0, 1) := by decide +kernel
theorem dX3_init_51 : decode cX3_init 51 = .ok (.getfield 9, 3) := by decide +kernel
theorem dX3_init_54 : decode cX3_init 54 = .ok (.bipush 8, 2) := by decide +kernel
theorem dX3_init_56 : decode cX3_init 56 = .ok (.iconst 1, 1) := by decide +kernel
theorem dX3_init_57 : decode cX3_init 57 = .ok (.iastore, 1) := by decide +kernel
theorem dX3_init_58 : decode cX3_init 58 = .ok (.aload_n 0, 1) := by decide +kernel
theorem dX3_init_59 : decode cX3_init 59 = .ok (.getfield 15, 3) := by decide +kernel
theorem dX3_init_62 : decode cX3_init 62 = .ok (.bipush 9, 2) := by decide +kernel
theorem dX3_init_64 : decode cX3_init 64 = .ok (.iconst 1, 1) := by decide +kernel
theorem dX3_init_65 : decode cX3_init 65 = .ok (.iastore, 1) := by decide +kernel
theorem dX3_init_66 : decode cX3_init 66 = .ok (.aload_n 0, 1) := by decide +kernel
theorem dX3_init_67 : decode cX3_init 67 = .ok (.getfield 18, 3) := by decide +kernel
theorem dX3_init_70 : decode cX3_init 70 = .ok (.bipush 10, 2) := by decide +kernel
theorem dX3_init_72 : decode cX3_init 72 = .ok (.iconst 1, 1) := by decide +kernel
theorem dX3_init_73 : decode cX3_init 73 = .ok (.iastore, 1) := by decide +kernel
theorem dX3_init_74 : decode cX3_init 74 = .ok (.aload_n 0, 1) := by decide +kernel
theorem dX3_init_75 : decode cX3_init 75 = .ok (.iconst 0, 1) := by decide +kernel
theorem dX3_init_76 : decode cX3_init 76 = .ok (.putfield 31, 3) := by decide +kernel
theorem dX3_init_79 : decode cX3_init 79 = .ok (.iconst 0, 1) := by decide +kernel
theorem dX3_init_80 : decode cX3_init 80 = .ok (.istore_n 2, 1) := by decide +kernel
theorem dX3_init_81 : decode cX3_init 81 = .ok (.iload_n 2, 1) := by decide +kernel
theorem dX3_init_82 : decode cX3_init 82 = .ok (.bipush 8, 2) := by decide +kernel
theorem dX3_init_84 : decode cX3_init 84 = .ok (.if_icmp .ge 46, 3) := by decide +kernel
theorem dX3_init_87 : decode cX3_init 87 = .ok (.iconst 0, 1) := by decide +kernel
theorem dX3_init_88 : decode cX3_init 88 = .ok (.istore_n 3, 1) := by decide +kernel
theorem dX3_init_89 : decode cX3_init 89 = .ok (.iload_n 3, 1) := by decide +kernel
theorem dX3_init_90 : decode cX3_init 90 = .ok (.iconst 1, 1) := by decide +kernel
theorem dX3_init_91 : decode cX3_init 91 = .ok (.iload_n 2, 1) := by decide +kernel
theorem dX3_init_92 : decode cX3_init 92 = .ok (.ishl, 1) := by decide +kernel
theorem dX3_init_93 : decode cX3_init 93 = .ok (.if_icmp .ge 31, 3) := by decide +kernel
theorem dX3_init_96 : decode cX3_init 96 = .ok (.aload_n 0, 1) := by decide +kernel
theorem dX3_init_97 : decode cX3_init 97 = .ok (.getfield 24, 3) := by decide +kernel
theorem dX3_init_100 : decode cX3_init 100 = .ok (.iload_n 3, 1) := by decide +kernel
theorem dX3_init_101 : decode cX3_init 101 = .ok (.iconst 1, 1) := by decide +kernel
theorem dX3_init_102 : decode cX3_init 102 = .ok (.iload_n 2, 1) := by decide +kernel
theorem dX3_init_103 : decode cX3_init 103 = .ok (.ishl, 1) := by decide +kernel
theorem dX3_init_104 : decode cX3_init 104 = .ok (.ior, 1) := by decide +kernel
theorem dX3_init_105 : decode cX3_init 105 = .ok (.aload_n 0, 1) := by decide +kernel
theorem dX3_init_106 : decode cX3_init 106 = .ok (.getfield 24, 3) := by decide +kernel
theorem dX3_init_109 : decode cX3_init 109 = .ok (.iload_n 3, 1) := by decide +kernel
theorem dX3_init_110 : decode cX3_init 110 = .ok (.iaload, 1) := by decide +kernel
theorem dX3_init_111 : decode cX3_init 111 = .ok (.getstatic 34, 3) := by decide +kernel
theorem dX3_init_114 : decode cX3_init 114 = .ok (.iload_n 2, 1) := by decide +kernel
theorem dX3_init_115 : decode cX3_init 115 = .ok (.iaload, 1) := by decide +kernel
theorem dX3_init_116 : decode cX3_init 116 = .ok (.iadd, 1) := by decide +kernel
theorem dX3_init_117 : decode cX3_init 117 = .ok (.iastore, 1) := by decide +kernel
theorem dX3_init_118 : decode cX3_init 118 = .ok (.iinc 3 1, 3) := by decide +kernel
theorem dX3_init_121 : decode cX3_init 121 = .ok (.goto (-32), 3) := by decide +kernel
theorem dX3_init_124 : decode cX3_init 124 = .ok (.iinc 2 1, 3) := by decide +kernel
theorem dX3_init_127 : decode cX3_init 127 = .ok (.goto (-46), 3) := by decide +kernel
theorem dX3_init_130 : decode cX3_init 130 = .ok (.return_, 1) := by decide +kernel
theorem dX3_holds_0 : decode cX3_holds 0 = .ok (.iload_n 1, 1) := by decide +kernel
theorem dX3_holds_1 : decode cX3_holds 1 = .ok (.ifCond .lt 15, 3) := by decide +kernel
theorem dX3_holds_4 : decode cX3_holds 4 = .ok (.iload_n 1, 1) := by decide +kernel
theorem dX3_holds_5 : decode cX3_holds 5 = .ok (.aload_n 0, 1) := by decide +kernel
theorem dX3_holds_6 : decode cX3_holds 6 = .ok (.getfield 31, 3) := by decide +kernel
theorem dX3_holds_9 : decode cX3_holds 9 = .ok (.if_icmp .ge 7, 3) := by decide +kernel
theorem dX3_holds_12 : decode cX3_holds 12 = .ok (.iconst 1, 1) := by decide +kernel
theorem dX3_holds_13 : decode cX3_holds 13 = .ok (.goto 4, 3) := by decide +kernel
theorem dX3_holds_16 : decode cX3_holds 16 = .ok (.iconst 0, 1) := by decide +kernel
theorem dX3_holds_17 : decode cX3_holds 17 = .ok (.ireturn, 1) := by decide +kernel
set_option maxRecDepth 20000 in
theorem ggX3_isPlane_X3_isWithin : GoodIn wsX3_isPlane wsX3_isWithin := goodIn_r _ [5] (by decide +kernel) (by decide +kernel)
set_option maxRecDepth 20000 in
theorem gX3_isPlane_X3_isWithin : GoodIn wsX3_isPlane (va_wsS RX3 37 yX3_isWithin wsX3_isWithin) := goodIn_app (goodIn_of _ (by decide +kernel)) ggX3_isPlane_X3_isWithin
theorem dX3_isPlane_0 : decode cX3_isPlane 0 = .ok (.iload_n 1, 1) := by decide +kernel
theorem dX3_isPlane_1 : decode cX3_isPlane 1 = .ok (.bipush 9, 2) := by decide +kernel
theorem dX3_isPlane_3 : decode cX3_isPlane 3 = .ok (.invokestatic 37, 3) := by decide +kernel
theorem dX3_isPlane_6 : decode cX3_isPlane 6 = .ok (.ifCond .eq 31, 3) := by decide +kernel
theorem dX3_isPlane_9 : decode cX3_isPlane 9 = .ok (.iload_n 2, 1) := by decide +kernel
theorem dX3_isPlane_10 : decode cX3_isPlane 10 = .ok (.bipush 9, 2) := by decide +kernel
theorem dX3_isPlane_12 : decode cX3_isPlane 12 = .ok (.invokestatic 37, 3) := by decide +kernel
theorem dX3_isPlane_15 : decode cX3_isPlane 15 = .ok (.ifCond .eq 22, 3) := by decide +kernel
theorem dX3_isPlane_18 : decode cX3_isPlane 18 = .ok (.iload_n 3, 1) := by decide +kernel
theorem dX3_isPlane_19 : decode cX3_isPlane 19 = .ok (.bipush 9, 2) := by decide +kernel
theorem dX3_isPlane_21 : decode cX3_isPlane 21 = .ok (.invokestatic 37, 3) := by decide +kernel
theorem dX3_isPlane_24 : decode cX3_isPlane 24 = .ok (.ifCond .eq 13, 3) := by decide +kernel
theorem dX3_isPlane_27 : decode cX3_isPlane 27 = .ok (.iload 4, 2) := by decide +kernel
theorem dX3_isPlane_29 : decode cX3_isPlane 29 = .ok (.bipush 99, 2) := by decide +kernel
theorem dX3_isPlane_31 : decode cX3_isPlane 31 = .ok (.invokestatic 37, 3) := by decide +kernel
theorem dX3_isPlane_34 : decode cX3_isPlane 34 = .ok (.ifCond .ne 5, 3) := by decide +kernel
theorem dX3_isPlane_37 : decode cX3_isPlane 37 = .ok (.iconst 0, 1) := by decide +kernel
theorem dX3_isPlane_38 : decode cX3_isPlane 38 = .ok (.ireturn, 1) := by decide +kernel
theorem dX3_isPlane_39 : decode cX3_isPlane 39 = .ok (.aload_n 0, 1) := by decide +kernel
theorem dX3_isPlane_40 : decode cX3_isPlane 40 = .ok (.getfield 27, 3) := by decide +kernel
theorem dX3_isPlane_43 : decode cX3_isPlane 43 = .ok (.iconst 2, 1) := by decide +kernel
theorem dX3_isPlane_44 : decode cX3_isPlane 44 = .ok (.if_icmp .ge 7, 3) := by decide +kernel
theorem dX3_isPlane_47 : decode cX3_isPlane 47 = .ok (.iload_n 2, 1) := by decide +kernel
theorem dX3_isPlane_48 : decode cX3_isPlane 48 = .ok (.ifCond .ne 15, 3) := by decide +kernel
theorem dX3_isPlane_51 : decode cX3_isPlane 51 = .ok (.aload_n 0, 1) := by decide +kernel
theorem dX3_isPlane_52 : decode cX3_isPlane 52 = .ok (.getfield 27, 3) := by decide +kernel
theorem dX3_isPlane_55 : decode cX3_isPlane 55 = .ok (.iconst 3, 1) := by decide +kernel
theorem dX3_isPlane_56 : decode cX3_isPlane 56 = .ok (.if_icmp .ge 9, 3) := by decide +kernel
theorem dX3_isPlane_59 : decode cX3_isPlane 59 = .ok (.iload_n 3, 1) := by decide +kernel
theorem dX3_isPlane_60 : decode cX3_isPlane 60 = .ok (.ifCond .eq 5, 3) := by decide +kernel
theorem dX3_isPlane_63 : decode cX3_isPlane 63 = .ok (.iconst 0, 1) := by decide +kernel
theorem dX3_isPlane_64 : decode cX3_isPlane 64 = .ok (.ireturn, 1) := by decide +kernel
theorem dX3_isPlane_65 : decode cX3_isPlane 65 = .ok (.iload_n 1, 1) := by decide +kernel
theorem dX3_isPlane_66 : decode cX3_isPlane 66 = .ok (.ifCond .ne 11, 3) := by decide +kernel
theorem dX3_isPlane_69 : decode cX3_isPlane 69 = .ok (.iload_n 2, 1) := by decide +kernel
theorem dX3_isPlane_70 : decode cX3_isPlane 70 = .ok (.ifCond .ne 7, 3) := by decide +kernel
theorem dX3_isPlane_73 : decode cX3_isPlane 73 = .ok (.iload_n 3, 1) := by decide +kernel
theorem dX3_isPlane_74 : decode cX3_isPlane 74 = .ok (.ifCond .eq 7, 3) := by decide +kernel
theorem dX3_isPlane_77 : decode cX3_isPlane 77 = .ok (.iconst 1, 1) := by decide +kernel
theorem dX3_isPlane_78 : decode cX3_isPlane 78 = .ok (.goto 4, 3) := by decide +kernel
theorem dX3_isPlane_81 : decode cX3_isPlane 81 = .ok (.iconst 0, 1) := by decide +kernel
theorem dX3_isPlane_82 : decode cX3_isPlane 82 = .ok (.ireturn, 1) := by decide +kernel
theorem dX3_isWithin_0 : decode cX3_isWithin 0 = .ok (.iload_n 0, 1) := by decide +kernel
theorem dX3_isWithin_1 : decode cX3_isWithin 1 = .ok (.iload_n 1, 1) := by decide +kernel
theorem dX3_isWithin_2 : decode cX3_isWithin 2 = .ok (.ineg, 1) := by decide +kernel
theorem dX3_isWithin_3 : decode cX3_isWithin 3 = .ok (.if_icmp .lt 12, 3) := by decide +kernel
theorem dX3_isWithin_6 : decode cX3_isWithin 6 = .ok (.iload_n 0, 1) := by decide +kernel
theorem dX3_isWithin_7 : decode cX3_isWithin 7 = .ok (.iload_n 1, 1) := by decide +kernel
theorem dX3_isWithin_8 : decode cX3_isWithin 8 = .ok (.if_icmp .gt 7, 3) := by decide +kernel
theorem dX3_isWithin_11 : decode cX3_isWithin 11 = .ok (.iconst 1, 1) := by decide +kernel
theorem dX3_isWithin_12 : decode cX3_isWithin 12 = .ok (.goto 4, 3) := by decide +kernel
theorem dX3_isWithin_15 : decode cX3_isWithin 15 = .ok (.iconst 0, 1) := by decide +kernel
theorem dX3_isWithin_16 : decode cX3_isWithin 16 = .ok (.ireturn, 1) := by decide +kernel
theorem dX3_isThere_0 : decode cX3_isThere 0 = .ok (.iconst 0, 1) := by decide +kernel
theorem dX3_isThere_1 : decode cX3_isThere 1 = .ok (.istore 5, 2) := by decide +kernel
theorem dX3_isThere_3 : decode cX3_isThere 3 = .ok (.iload 5, 2) := by decide +kernel
theorem dX3_isThere_5 : decode cX3_isThere 5 = .ok (.aload_n 0, 1) := by decide +kernel
theorem dX3_isThere_6 : decode cX3_isThere 6 = .ok (.getfield 31, 3) := by decide +kernel
theorem dX3_isThere_9 : decode cX3_isThere 9 = .ok (.if_icmp .ge 140, 3) := by decide +kernel
theorem dX3_isThere_12 : decode cX3_isThere 12 = .ok (.aload_n 0, 1) := by decide +kernel
theorem dX3_isThere_13 : decode cX3_isThere 13 = .ok (.getfield 9, 3) := by decide +kernel
theorem dX3_isThere_16 : decode cX3_isThere 16 = .ok (.iload 5, 2) := by decide +kernel
theorem dX3_isThere_18 : decode cX3_isThere 18 = .ok (.iaload, 1) := by decide +kernel
theorem dX3_isThere_19 : decode cX3_isThere 19 = .ok (.iload_n 2, 1) := by decide +kernel
theorem dX3_isThere_20 : decode cX3_isThere 20 = .ok (.imul, 1) := by decide +kernel
theorem dX3_isThere_21 : decode cX3_isThere 21 = .ok (.aload_n 0, 1) := by decide +kernel
theorem dX3_isThere_22 : decode cX3_isThere 22 = .ok (.getfield 15, 3) := by decide +kernel
theorem dX3_isThere_25 : decode cX3_isThere 25 = .ok (.iload 5, 2) := by decide +kernel
theorem dX3_isThere_27 : decode cX3_isThere 27 = .ok (.iaload, 1) := by decide +kernel
theorem dX3_isThere_28 : decode cX3_isThere 28 = .ok (.iload_n 1, 1) := by decide +kernel
theorem dX3_isThere_29 : decode cX3_isThere 29 = .ok (.imul, 1) := by decide +kernel
theorem dX3_isThere_30 : decode cX3_isThere 30 = .ok (.if_icmp .ne 113, 3) := by decide +kernel
theorem dX3_isThere_33 : decode cX3_isThere 33 = .ok (.aload_n 0, 1) := by decide +kernel
theorem dX3_isThere_34 : decode cX3_isThere 34 = .ok (.getfield 9, 3) := by decide +kernel
theorem dX3_isThere_37 : decode cX3_isThere 37 = .ok (.iload 5, 2) := by decide +kernel
theorem dX3_isThere_39 : decode cX3_isThere 39 = .ok (.iaload, 1) := by decide +kernel
theorem dX3_isThere_40 : decode cX3_isThere 40 = .ok (.iload_n 3, 1) := by decide +kernel
theorem dX3_isThere_41 : decode cX3_isThere 41 = .ok (.imul, 1) := by decide +kernel
theorem dX3_isThere_42 : decode cX3_isThere 42 = .ok (.aload_n 0, 1) := by decide +kernel
theorem dX3_isThere_43 : decode cX3_isThere 43 = .ok (.getfield 18, 3) := by decide +kernel
theorem dX3_isThere_46 : decode cX3_isThere 46 = .ok (.iload 5, 2) := by decide +kernel
theorem dX3_isThere_48 : decode cX3_isThere 48 = .ok (.iaload, 1) := by decide +kernel
theorem dX3_isThere_49 : decode cX3_isThere 49 = .ok (.iload_n 1, 1) := by decide +kernel
theorem dX3_isThere_50 : decode cX3_isThere 50 = .ok (.imul, 1) := by decide +kernel
theorem dX3_isThere_51 : decode cX3_isThere 51 = .ok (.if_icmp .ne 92, 3) := by decide +kernel
theorem dX3_isThere_54 : decode cX3_isThere 54 = .ok (.aload_n 0, 1) := by decide +kernel
theorem dX3_isThere_55 : decode cX3_isThere 55 = .ok (.getfield 15, 3) := by decide +kernel
theorem dX3_isThere_58 : decode cX3_isThere 58 = .ok (.iload 5, 2) := by decide +kernel
theorem dX3_isThere_60 : decode cX3_isThere 60 = .ok (.iaload, 1) := by decide +kernel
theorem dX3_isThere_61 : decode cX3_isThere 61 = .ok (.iload_n 3, 1) := by decide +kernel
theorem dX3_isThere_62 : decode cX3_isThere 62 = .ok (.imul, 1) := by decide +kernel
theorem dX3_isThere_63 : decode cX3_isThere 63 = .ok (.aload_n 0, 1) := by decide +kernel
theorem dX3_isThere_64 : decode cX3_isThere 64 = .ok (.getfield 18, 3) := by decide +kernel
theorem dX3_isThere_67 : decode cX3_isThere 67 = .ok (.iload 5, 2) := by decide +kernel
theorem dX3_isThere_69 : decode cX3_isThere 69 = .ok (.iaload, 1) := by decide +kernel
theorem dX3_isThere_70 : decode cX3_isThere 70 = .ok (.iload_n 2, 1) := by decide +kernel
theorem dX3_isThere_71 : decode cX3_isThere 71 = .ok (.imul, 1) := by decide +kernel
theorem dX3_isThere_72 : decode cX3_isThere 72 = .ok (.if_icmp .ne 71, 3) := by decide +kernel
theorem dX3_isThere_75 : decode cX3_isThere 75 = .ok (.aload_n 0, 1) := by decide +kernel
theorem dX3_isThere_76 : decode cX3_isThere 76 = .ok (.getfield 9, 3) := by decide +kernel
theorem dX3_isThere_79 : decode cX3_isThere 79 = .ok (.iload 5, 2) := by decide +kernel
theorem dX3_isThere_81 : decode cX3_isThere 81 = .ok (.iaload, 1) := by decide +kernel
theorem dX3_isThere_82 : decode cX3_isThere 82 = .ok (.iload 4, 2) := by decide +kernel
theorem dX3_isThere_84 : decode cX3_isThere 84 = .ok (.imul, 1) := by decide +kernel
theorem dX3_isThere_85 : decode cX3_isThere 85 = .ok (.aload_n 0, 1) := by decide +kernel
theorem dX3_isThere_86 : decode cX3_isThere 86 = .ok (.getfield 21, 3) := by decide +kernel
theorem dX3_isThere_89 : decode cX3_isThere 89 = .ok (.iload 5, 2) := by decide +kernel
theorem dX3_isThere_91 : decode cX3_isThere 91 = .ok (.iaload, 1) := by decide +kernel
theorem dX3_isThere_92 : decode cX3_isThere 92 = .ok (.iload_n 1, 1) := by decide +kernel
theorem dX3_isThere_93 : decode cX3_isThere 93 = .ok (.imul, 1) := by decide +kernel
theorem dX3_isThere_94 : decode cX3_isThere 94 = .ok (.if_icmp .ne 49, 3) := by decide +kernel
theorem dX3_isThere_97 : decode cX3_isThere 97 = .ok (.aload_n 0, 1) := by decide +kernel
theorem dX3_isThere_98 : decode cX3_isThere 98 = .ok (.getfield 15, 3) := by decide +kernel
theorem dX3_isThere_101 : decode cX3_isThere 101 = .ok (.iload 5, 2) := by decide +kernel
theorem dX3_isThere_103 : decode cX3_isThere 103 = .ok (.iaload, 1) := by decide +kernel
theorem dX3_isThere_104 : decode cX3_isThere 104 = .ok (.iload 4, 2) := by decide +kernel
theorem dX3_isThere_106 : decode cX3_isThere 106 = .ok (.imul, 1) := by decide +kernel
theorem dX3_isThere_107 : decode cX3_isThere 107 = .ok (.aload_n 0, 1) := by decide +kernel
theorem dX3_isThere_108 : decode cX3_isThere 108 = .ok (.getfield 21, 3) := by decide +kernel
theorem dX3_isThere_111 : decode cX3_isThere 111 = .ok (.iload 5, 2) := by decide +kernel
theorem dX3_isThere_113 : decode cX3_isThere 113 = .ok (.iaload, 1) := by decide +kernel
theorem dX3_isThere_114 : decode cX3_isThere 114 = .ok (.iload_n 2, 1) := by decide +kernel
theorem dX3_isThere_115 : decode cX3_isThere 115 = .ok (.imul, 1) := by decide +kernel
theorem dX3_isThere_116 : decode cX3_isThere 116 = .ok (.if_icmp .ne 27, 3) := by decide +kernel
theorem dX3_isThere_119 : decode cX3_isThere 119 = .ok (.aload_n 0, 1) := by decide +kernel
theorem dX3_isThere_120 : decode cX3_isThere 120 = .ok (.getfield 18, 3) := by decide +kernel
theorem dX3_isThere_123 : decode cX3_isThere 123 = .ok (.iload 5, 2) := by decide +kernel
theorem dX3_isThere_125 : decode cX3_isThere 125 = .ok (.iaload, 1) := by decide +kernel
theorem dX3_isThere_126 : decode cX3_isThere 126 = .ok (.iload 4, 2) := by decide +kernel
theorem dX3_isThere_128 : decode cX3_isThere 128 = .ok (.imul, 1) := by decide +kernel
theorem dX3_isThere_129 : decode cX3_isThere 129 = .ok (.aload_n 0, 1) := by decide +kernel
theorem dX3_isThere_130 : decode cX3_isThere 130 = .ok (.getfield 21, 3) := by decide +kernel
theorem dX3_isThere_133 : decode cX3_isThere 133 = .ok (.iload 5, 2) := by decide +kernel
theorem dX3_isThere_135 : decode cX3_isThere 135 = .ok (.iaload, 1) := by decide +kernel
theorem dX3_isThere_136 : decode cX3_isThere 136 = .ok (.iload_n 3, 1) := by decide +kernel
theorem dX3_isThere_137 : decode cX3_isThere 137 = .ok (.imul, 1) := by decide +kernel
theorem dX3_isThere_138 : decode cX3_isThere 138 = .ok (.if_icmp .ne 5, 3) := by decide +kernel
theorem dX3_isThere_141 : decode cX3_isThere 141 = .ok (.iconst 1, 1) := by decide +kernel
theorem dX3_isThere_142 : decode cX3_isThere 142 = .ok (.ireturn, 1) := by decide +kernel
theorem dX3_isThere_143 : decode cX3_isThere 143 = .ok (.iinc 5 1, 3) := by decide +kernel
theorem dX3_isThere_146 : decode cX3_isThere 146 = .ok (.goto (-143), 3) := by decide +kernel
theorem dX3_isThere_149 : decode cX3_isThere 149 = .ok (.iconst 0, 1) := by decide +kernel
theorem dX3_isThere_150 : decode cX3_isThere 150 = .ok (.ireturn, 1) := by decide +kernel
theorem dX3_append_0 : decode cX3_append 0 = .ok (.aload_n 0, 1) := by decide +kernel
theorem dX3_append_1 : decode cX3_append 1 = .ok (.getfield 31, 3) := by decide +kernel
theorem dX3_append_4 : decode cX3_append 4 = .ok (.bipush 8, 2) := by decide +kernel
theorem dX3_append_6 : decode cX3_append 6 = .ok (.if_icmp .lt 4, 3) := by decide +kernel
theorem dX3_append_9 : decode cX3_append 9 = .ok (.return_, 1) := by decide +kernel
theorem dX3_append_10 : decode cX3_append 10 = .ok (.aload_n 0, 1) := by decide +kernel
theorem dX3_append_11 : decode cX3_append 11 = .ok (.getfield 9, 3) := by decide +kernel
theorem dX3_append_14 : decode cX3_append 14 = .ok (.aload_n 0, 1) := by decide +kernel
theorem dX3_append_15 : decode cX3_append 15 = .ok (.getfield 31, 3) := by decide +kernel
theorem dX3_append_18 : decode cX3_append 18 = .ok (.iload_n 1, 1) := by decide +kernel
theorem dX3_append_19 : decode cX3_append 19 = .ok (.iastore, 1) := by decide +kernel
theorem dX3_append_20 : decode cX3_append 20 = .ok (.aload_n 0, 1) := by decide +kernel
theorem dX3_append_21 : decode cX3_append 21 = .ok (.getfield 15, 3) := by decide +kernel
theorem dX3_append_24 : decode cX3_append 24 = .ok (.aload_n 0, 1) := by decide +kernel
theorem dX3_append_25 : decode cX3_append 25 = .ok (.getfield 31, 3) := by decide +kernel
theorem dX3_append_28 : decode cX3_append 28 = .ok (.iload_n 2, 1) := by decide +kernel
theorem dX3_append_29 : decode cX3_append 29 = .ok (.iastore, 1) := by decide +kernel
theorem dX3_append_30 : decode cX3_append 30 = .ok (.aload_n 0, 1) := by decide +kernel
theorem dX3_append_31 : decode cX3_append 31 = .ok (.getfield 18, 3) := by decide +kernel
theorem dX3_append_34 : decode cX3_append 34 = .ok (.aload_n 0, 1) := by decide +kernel
theorem dX3_append_35 : decode cX3_append 35 = .ok (.getfield 31, 3) := by decide +kernel
theorem dX3_append_38 : decode cX3_append 38 = .ok (.iload_n 3, 1) := by decide +kernel
theorem dX3_append_39 : decode cX3_append 39 = .ok (.iastore, 1) := by decide +kernel
theorem dX3_append_40 : decode cX3_append 40 = .ok (.aload_n 0, 1) := by decide +kernel
theorem dX3_append_41 : decode cX3_append 41 = .ok (.getfield 21, 3) := by decide +kernel
theorem dX3_append_44 : decode cX3_append 44 = .ok (.aload_n 0, 1) := by decide +kernel
theorem dX3_append_45 : decode cX3_append 45 = .ok (.getfield 31, 3) := by decide +kernel
theorem dX3_append_48 : decode cX3_append 48 = .ok (.iload 4, 2) := by decide +kernel
theorem dX3_append_50 : decode cX3_append 50 = .ok (.iastore, 1) := by decide +kernel
theorem dX3_append_51 : decode cX3_append 51 = .ok (.aload_n 0, 1) := by decide +kernel
theorem dX3_append_52 : decode cX3_append 52 = .ok (.dup, 1) := by decide +kernel
theorem dX3_append_53 : decode cX3_append 53 = .ok (.getfield 31, 3) := by decide +kernel
theorem dX3_append_56 : decode cX3_append 56 = .ok (.iconst 1, 1) := by decide +kernel
theorem dX3_append_57 : decode cX3_append 57 = .ok (.iadd, 1) := by decide +kernel
theorem dX3_append_58 : decode cX3_append 58 = .ok (.putfield 31, 3) := by decide +kernel
theorem dX3_append_61 : decode cX3_append 61 = .ok (.return_, 1) := by decide +kernel
set_option maxRecDepth 20000 in
theorem ggX3_drop_X3_holds : GoodIn wsX3_drop wsX3_holds := goodIn_r _ [10, 1, 11, 12, 13, 14, 15, 16, 17] (by decide +kernel) (by decide +kernel)
set_option maxRecDepth 20000 in
theorem gX3_drop_X3_holds : GoodIn wsX3_drop (wsV RX3 41 RX3 yX3_holds wsX3_holds) := goodIn_app (goodIn_of _ (by decide +kernel)) ggX3_drop_X3_holds
theorem dX3_drop_0 : decode cX3_drop 0 = .ok (.aload_n 0, 1) := by decide +kernel
theorem dX3_drop_1 : decode cX3_drop 1 = .ok (.iload_n 1, 1) := by decide +kernel
theorem dX3_drop_2 : decode cX3_drop 2 = .ok (.invokevirtual 41, 3) := by decide +kernel
theorem dX3_drop_5 : decode cX3_drop 5 = .ok (.ifCond .ne 4, 3) := by decide +kernel
theorem dX3_drop_8 : decode cX3_drop 8 = .ok (.return_, 1) := by decide +kernel
theorem dX3_drop_9 : decode cX3_drop 9 = .ok (.iload_n 1, 1) := by decide +kernel
theorem dX3_drop_10 : decode cX3_drop 10 = .ok (.istore_n 2, 1) := by decide +kernel
theorem dX3_drop_11 : decode cX3_drop 11 = .ok (.iload_n 2, 1) := by decide +kernel
theorem dX3_drop_12 : decode cX3_drop 12 = .ok (.iconst 1, 1) := by decide +kernel
theorem dX3_drop_13 : decode cX3_drop 13 = .ok (.iadd, 1) := by decide +kernel
theorem dX3_drop_14 : decode cX3_drop 14 = .ok (.aload_n 0, 1) := by decide +kernel
theorem dX3_drop_15 : decode cX3_drop 15 = .ok (.getfield 31, 3) := by decide +kernel
theorem dX3_drop_18 : decode cX3_drop 18 = .ok (.if_icmp .ge 65, 3) := by decide +kernel
theorem dX3_drop_21 : decode cX3_drop 21 = .ok (.aload_n 0, 1) := by decide +kernel
theorem dX3_drop_22 : decode cX3_drop 22 = .ok (.getfield 9, 3) := by decide +kernel
theorem dX3_drop_25 : decode cX3_drop 25 = .ok (.iload_n 2, 1) := by decide +kernel
theorem dX3_drop_26 : decode cX3_drop 26 = .ok (.aload_n 0, 1) := by decide +kernel
theorem dX3_drop_27 : decode cX3_drop 27 = .ok (.getfield 9, 3) := by decide +kernel
theorem dX3_drop_30 : decode cX3_drop 30 = .ok (.iload_n 2, 1) := by decide +kernel
theorem dX3_drop_31 : decode cX3_drop 31 = .ok (.iconst 1, 1) := by decide +kernel
theorem dX3_drop_32 : decode cX3_drop 32 = .ok (.iadd, 1) := by decide +kernel
theorem dX3_drop_33 : decode cX3_drop 33 = .ok (.iaload, 1) := by decide +kernel
theorem dX3_drop_34 : decode cX3_drop 34 = .ok (.iastore, 1) := by decide +kernel
theorem dX3_drop_35 : decode cX3_drop 35 = .ok (.aload_n 0, 1) := by decide +kernel
theorem dX3_drop_36 : decode cX3_drop 36 = .ok (.getfield 15, 3) := by decide +kernel
theorem dX3_drop_39 : decode cX3_drop 39 = .ok (.iload_n 2, 1) := by decide +kernel
theorem dX3_drop_40 : decode cX3_drop 40 = .ok (.aload_n 0, 1) := by decide +kernel
theorem dX3_drop_41 : decode cX3_drop 41 = .ok (.getfield 15, 3) := by decide +kernel
theorem dX3_drop_44 : decode cX3_drop 44 = .ok (.iload_n 2, 1) := by decide +kernel
theorem dX3_drop_45 : decode cX3_drop 45 = .ok (.iconst 1, 1) := by decide +kernel
theorem dX3_drop_46 : decode cX3_drop 46 = .ok (.iadd, 1) := by decide +kernel
theorem dX3_drop_47 : decode cX3_drop 47 = .ok (.iaload, 1) := by decide +kernel
theorem dX3_drop_48 : decode cX3_drop 48 = .ok (.iastore, 1) := by decide +kernel
theorem dX3_drop_49 : decode cX3_drop 49 = .ok (.aload_n 0, 1) := by decide +kernel
theorem dX3_drop_50 : decode cX3_drop 50 = .ok (.getfield 18, 3) := by decide +kernel
theorem dX3_drop_53 : decode cX3_drop 53 = .ok (.iload_n 2, 1) := by decide +kernel
theorem dX3_drop_54 : decode cX3_drop 54 = .ok (.aload_n 0, 1) := by decide +kernel
theorem dX3_drop_55 : decode cX3_drop 55 = .ok (.getfield 18, 3) := by decide +kernel
theorem dX3_drop_58 : decode cX3_drop 58 = .ok (.iload_n 2, 1) := by decide +kernel
theorem dX3_drop_59 : decode cX3_drop 59 = .ok (.iconst 1, 1) := by decide +kernel
theorem dX3_drop_60 : decode cX3_drop 60 = .ok (.iadd, 1) := by decide +kernel
theorem dX3_drop_61 : decode cX3_drop 61 = .ok (.iaload, 1) := by decide +kernel
theorem dX3_drop_62 : decode cX3_drop 62 = .ok (.iastore, 1) := by decide +kernel
theorem dX3_drop_63 : decode cX3_drop 63 = .ok (.aload_n 0, 1) := by decide +kernel
theorem dX3_drop_64 : decode cX3_drop 64 = .ok (.getfield 21, 3) := by decide +kernel
theorem dX3_drop_67 : decode cX3_drop 67 = .ok (.iload_n 2, 1) := by decide +kernel
theorem dX3_drop_68 : decode cX3_drop 68 = .ok (.aload_n 0, 1) := by decide +kernel
theorem dX3_drop_69 : decode cX3_drop 69 = .ok (.getfield 21, 3) := by decide +kernel
theorem dX3_drop_72 : decode cX3_drop 72 = .ok (.iload_n 2, 1) := by decide +kernel
theorem dX3_drop_73 : decode cX3_drop 73 = .ok (.iconst 1, 1) := by decide +kernel
theorem dX3_drop_74 : decode cX3_drop 74 = .ok (.iadd, 1) := by decide +kernel
theorem dX3_drop_75 : decode cX3_drop 75 = .ok (.iaload, 1) := by decide +kernel
theorem dX3_drop_76 : decode cX3_drop 76 = .ok (.iastore, 1) := by decide +kernel
theorem dX3_drop_77 : decode cX3_drop 77 = .ok (.iinc 2 1, 3) := by decide +kernel
theorem dX3_drop_80 : decode cX3_drop 80 = .ok (.goto (-69), 3) := by decide +kernel
theorem dX3_drop_83 : decode cX3_drop 83 = .ok (.aload_n 0, 1) := by decide +kernel
theorem dX3_drop_84 : decode cX3_drop 84 = .ok (.dup, 1) := by decide +kernel
theorem dX3_drop_85 : decode cX3_drop 85 = .ok (.getfield 31, 3) := by decide +kernel
theorem dX3_drop_88 : decode cX3_drop 88 = .ok (.iconst 1, 1) := by decide +kernel
theorem dX3_drop_89 : decode cX3_drop 89 = .ok (.isub, 1) := by decide +kernel
theorem dX3_drop_90 : decode cX3_drop 90 = .ok (.putfield 31, 3) := by decide +kernel
theorem dX3_drop_93 : decode cX3_drop 93 = .ok (.return_, 1) := by decide +kernel
theorem dX3_indexOf_0 : decode cX3_indexOf 0 = .ok (.iload_n 1, 1) := by decide +kernel
theorem dX3_indexOf_1 : decode cX3_indexOf 1 = .ok (.aload_n 0, 1) := by decide +kernel
theorem dX3_indexOf_2 : decode cX3_indexOf 2 = .ok (.getfield 31, 3) := by decide +kernel
theorem dX3_indexOf_5 : decode cX3_indexOf 5 = .ok (.if_icmp .ge 7, 3) := by decide +kernel
theorem dX3_indexOf_8 : decode cX3_indexOf 8 = .ok (.iload_n 1, 1) := by decide +kernel
theorem dX3_indexOf_9 : decode cX3_indexOf 9 = .ok (.goto 17, 3) := by decide +kernel
theorem dX3_indexOf_12 : decode cX3_indexOf 12 = .ok (.bipush 8, 2) := by decide +kernel
theorem dX3_indexOf_14 : decode cX3_indexOf 14 = .ok (.iload_n 1, 1) := by decide +kernel
theorem dX3_indexOf_15 : decode cX3_indexOf 15 = .ok (.iadd, 1) := by decide +kernel
theorem dX3_indexOf_16 : decode cX3_indexOf 16 = .ok (.aload_n 0, 1) := by decide +kernel
theorem dX3_indexOf_17 : decode cX3_indexOf 17 = .ok (.getfield 31, 3) := by decide +kernel
theorem dX3_indexOf_20 : decode cX3_indexOf 20 = .ok (.isub, 1) := by decide +kernel
theorem dX3_indexOf_21 : decode cX3_indexOf 21 = .ok (.bipush 10, 2) := by decide +kernel
theorem dX3_indexOf_23 : decode cX3_indexOf 23 = .ok (.invokestatic 45, 3) := by decide +kernel
theorem dX3_indexOf_26 : decode cX3_indexOf 26 = .ok (.ireturn, 1) := by decide +kernel
theorem dX3_signs_0 : decode cX3_signs 0 = .ok (.iconst 0, 1) := by decide +kernel
theorem dX3_signs_1 : decode cX3_signs 1 = .ok (.istore 5, 2) := by decide +kernel
theorem dX3_signs_3 : decode cX3_signs 3 = .ok (.iconst 0, 1) := by decide +kernel
theorem dX3_signs_4 : decode cX3_signs 4 = .ok (.istore 6, 2) := by decide +kernel
theorem dX3_signs_6 : decode cX3_signs 6 = .ok (.iload 6, 2) := by decide +kernel
theorem dX3_signs_8 : decode cX3_signs 8 = .ok (.aload_n 0, 1) := by decide +kernel
theorem dX3_signs_9 : decode cX3_signs 9 = .ok (.getfield 31, 3) := by decide +kernel
theorem dX3_signs_12 : decode cX3_signs 12 = .ok (.if_icmp .ge 85, 3) := by decide +kernel
theorem dX3_signs_15 : decode cX3_signs 15 = .ok (.aload_n 0, 1) := by decide +kernel
theorem dX3_signs_16 : decode cX3_signs 16 = .ok (.getfield 9, 3) := by decide +kernel
theorem dX3_signs_19 : decode cX3_signs 19 = .ok (.iload 6, 2) := by decide +kernel
theorem dX3_signs_21 : decode cX3_signs 21 = .ok (.iaload, 1) := by decide +kernel
theorem dX3_signs_22 : decode cX3_signs 22 = .ok (.iload_n 1, 1) := by decide +kernel
theorem dX3_signs_23 : decode cX3_signs 23 = .ok (.imul, 1) := by decide +kernel
theorem dX3_signs_24 : decode cX3_signs 24 = .ok (.aload_n 0, 1) := by decide +kernel
theorem dX3_signs_25 : decode cX3_signs 25 = .ok (.getfield 15, 3) := by decide +kernel
theorem dX3_signs_28 : decode cX3_signs 28 = .ok (.iload 6, 2) := by decide +kernel
theorem dX3_signs_30 : decode cX3_signs 30 = .ok (.iaload, 1) := by decide +kernel
theorem dX3_signs_31 : decode cX3_signs 31 = .ok (.iload_n 2, 1) := by decide +kernel
theorem dX3_signs_32 : decode cX3_signs 32 = .ok (.imul, 1) := by decide +kernel
theorem dX3_signs_33 : decode cX3_signs 33 = .ok (.iadd, 1) := by decide +kernel
theorem dX3_signs_34 : decode cX3_signs 34 = .ok (.aload_n 0, 1) := by decide +kernel
theorem dX3_signs_35 : decode cX3_signs 35 = .ok (.getfield 18, 3) := by decide +kernel
theorem dX3_signs_38 : decode cX3_signs 38 = .ok (.iload 6, 2) := by decide +kernel
theorem dX3_signs_40 : decode cX3_signs 40 = .ok (.iaload, 1) := by decide +kernel
theorem dX3_signs_41 : decode cX3_signs 41 = .ok (.iload_n 3, 1) := by decide +kernel
theorem dX3_signs_42 : decode cX3_signs 42 = .ok (.imul, 1) := by decide +kernel
theorem dX3_signs_43 : decode cX3_signs 43 = .ok (.iadd, 1) := by decide +kernel
theorem dX3_signs_44 : decode cX3_signs 44 = .ok (.aload_n 0, 1) := by decide +kernel
theorem dX3_signs_45 : decode cX3_signs 45 = .ok (.getfield 21, 3) := by decide +kernel
theorem dX3_signs_48 : decode cX3_signs 48 = .ok (.iload 6, 2) := by decide +kernel
theorem dX3_signs_50 : decode cX3_signs 50 = .ok (.iaload, 1) := by decide +kernel
theorem dX3_signs_51 : decode cX3_signs 51 = .ok (.iload 4, 2) := by decide +kernel
theorem dX3_signs_53 : decode cX3_signs 53 = .ok (.imul, 1) := by decide +kernel
theorem dX3_signs_54 : decode cX3_signs 54 = .ok (.isub, 1) := by decide +kernel
theorem dX3_signs_55 : decode cX3_signs 55 = .ok (.istore 7, 2) := by decide +kernel
theorem dX3_signs_57 : decode cX3_signs 57 = .ok (.iload 7, 2) := by decide +kernel
theorem dX3_signs_59 : decode cX3_signs 59 = .ok (.ifCond .ne 15, 3) := by decide +kernel
theorem dX3_signs_62 : decode cX3_signs 62 = .ok (.iload 5, 2) := by decide +kernel
theorem dX3_signs_64 : decode cX3_signs 64 = .ok (.iconst 1, 1) := by decide +kernel
theorem dX3_signs_65 : decode cX3_signs 65 = .ok (.iload 6, 2) := by decide +kernel
theorem dX3_signs_67 : decode cX3_signs 67 = .ok (.ishl, 1) := by decide +kernel
theorem dX3_signs_68 : decode cX3_signs 68 = .ok (.ior, 1) := by decide +kernel
theorem dX3_signs_69 : decode cX3_signs 69 = .ok (.istore 5, 2) := by decide +kernel
theorem dX3_signs_71 : decode cX3_signs 71 = .ok (.goto 20, 3) := by decide +kernel
theorem dX3_signs_74 : decode cX3_signs 74 = .ok (.iload 7, 2) := by decide +kernel
theorem dX3_signs_76 : decode cX3_signs 76 = .ok (.ifCond .le 15, 3) := by decide +kernel
theorem dX3_signs_79 : decode cX3_signs 79 = .ok (.iload 5, 2) := by decide +kernel
theorem dX3_signs_81 : decode cX3_signs 81 = .ok (.iconst 1, 1) := by decide +kernel
theorem dX3_signs_82 : decode cX3_signs 82 = .ok (.iload 6, 2) := by decide +kernel
theorem dX3_signs_84 : decode cX3_signs 84 = .ok (.bipush 8, 2) := by decide +kernel
theorem dX3_signs_86 : decode cX3_signs 86 = .ok (.iadd, 1) := by decide +kernel
theorem dX3_signs_87 : decode cX3_signs 87 = .ok (.ishl, 1) := by decide +kernel
theorem dX3_signs_88 : decode cX3_signs 88 = .ok (.ior, 1) := by decide +kernel
theorem dX3_signs_89 : decode cX3_signs 89 = .ok (.istore 5, 2) := by decide +kernel
theorem dX3_signs_91 : decode cX3_signs 91 = .ok (.iinc 6 1, 3) := by decide +kernel
theorem dX3_signs_94 : decode cX3_signs 94 = .ok (.goto (-88), 3) := by decide +kernel
theorem dX3_signs_97 : decode cX3_signs 97 = .ok (.iload 5, 2) := by decide +kernel
theorem dX3_signs_99 : decode cX3_signs 99 = .ok (.ireturn, 1) := by decide +kernel
set_option maxRecDepth 20000 in
theorem ggX3_rowOf_X5_onMask : GoodIn wsX3_rowOf wsX5_onMask := goodIn_r _ [4] (by decide +kernel) (by decide +kernel)
set_option maxRecDepth 20000 in
theorem gX3_rowOf_X5_onMask_n51 : GoodIn wsX3_rowOf (wsX5_onMask) := ggX3_rowOf_X5_onMask
set_option maxRecDepth 20000 in
theorem ggX3_rowOf_X5_aboveMask : GoodIn wsX3_rowOf wsX5_aboveMask := goodIn_r _ [6] (by decide +kernel) (by decide +kernel)
set_option maxRecDepth 20000 in
theorem gX3_rowOf_X5_aboveMask_n55 : GoodIn wsX3_rowOf (wsX5_aboveMask) := ggX3_rowOf_X5_aboveMask
theorem dX3_rowOf_0 : decode cX3_rowOf 0 = .ok (.aload_n 0, 1) := by decide +kernel
theorem dX3_rowOf_1 : decode cX3_rowOf 1 = .ok (.getfield 24, 3) := by decide +kernel
theorem dX3_rowOf_4 : decode cX3_rowOf 4 = .ok (.iload_n 1, 1) := by decide +kernel
theorem dX3_rowOf_5 : decode cX3_rowOf 5 = .ok (.invokestatic 51, 3) := by decide +kernel
theorem dX3_rowOf_8 : decode cX3_rowOf 8 = .ok (.iaload, 1) := by decide +kernel
theorem dX3_rowOf_9 : decode cX3_rowOf 9 = .ok (.iconst 2, 1) := by decide +kernel
theorem dX3_rowOf_10 : decode cX3_rowOf 10 = .ok (.aload_n 0, 1) := by decide +kernel
theorem dX3_rowOf_11 : decode cX3_rowOf 11 = .ok (.getfield 24, 3) := by decide +kernel
theorem dX3_rowOf_14 : decode cX3_rowOf 14 = .ok (.iload_n 1, 1) := by decide +kernel
theorem dX3_rowOf_15 : decode cX3_rowOf 15 = .ok (.invokestatic 55, 3) := by decide +kernel
theorem dX3_rowOf_18 : decode cX3_rowOf 18 = .ok (.iaload, 1) := by decide +kernel
theorem dX3_rowOf_19 : decode cX3_rowOf 19 = .ok (.imul, 1) := by decide +kernel
theorem dX3_rowOf_20 : decode cX3_rowOf 20 = .ok (.iadd, 1) := by decide +kernel
theorem dX3_rowOf_21 : decode cX3_rowOf 21 = .ok (.ireturn, 1) := by decide +kernel
theorem dX4_init_0 : decode cX4_init 0 = .ok (.aload_n 0, 1) := by decide +kernel
theorem dX4_init_1 : decode cX4_init 1 = .ok (.invokespecial 3, 3) := by decide +kernel
theorem dX4_init_4 : decode cX4_init 4 = .ok (.aload_n 0, 1) := by decide +kernel
theorem dX4_init_5 : decode cX4_init 5 = .ok (.bipush 8, 2) := by decide +kernel
theorem dX4_init_7 : decode cX4_init 7 = .ok (.newarray .int, 2) := by decide +kernel
theorem dX4_init_9 : decode cX4_init 9 = .ok (.putfield 9, 3) := by decide +kernel
theorem dX4_init_12 : decode cX4_init 12 = .ok (.aload_n 0, 1) := by decide +kernel
theorem dX4_init_13 : decode cX4_init 13 = .ok (.aload_n 1, 1) := by decide +kernel
theorem dX4_init_14 : decode cX4_init 14 = .ok (.putfield 15, 3) := by decide +kernel
theorem dX4_init_17 : decode cX4_init 17 = .ok (.return_, 1) := by decide +kernel
set_option maxRecDepth 20000 in
theorem ggX4_countMissed_J9_floorMod_7cf53 : GoodIn wsX4_countMissed wsJ9_floorMod_7cf53 := goodIn_r _ [6] (by decide +kernel) (by decide +kernel)
set_option maxRecDepth 20000 in
theorem gX4_countMissed_J9_floorMod_7cf53 : GoodIn wsX4_countMissed (va_wsS RX4 28 yJ9_floorMod_7cf53 wsJ9_floorMod_7cf53) := goodIn_app (goodIn_of _ (by decide +kernel)) ggX4_countMissed_J9_floorMod_7cf53
set_option maxRecDepth 20000 in
theorem ggX4_countMissed_X4_inverse : GoodIn wsX4_countMissed wsX4_inverse := goodIn_r _ [10] (by decide +kernel) (by decide +kernel)
set_option maxRecDepth 20000 in
theorem gX4_countMissed_X4_inverse : GoodIn wsX4_countMissed (va_wsS RX4 34 yX4_inverse wsX4_inverse) := goodIn_app (goodIn_of _ (by decide +kernel)) ggX4_countMissed_X4_inverse
set_option maxRecDepth 20000 in
theorem ggX4_countMissed_X4_hits : GoodIn wsX4_countMissed wsX4_hits := goodIn_r _ [14, 1, 2, 3, 4, 5, 6, 22, 23, 24, 25, 26, 27, 28, 29, 30] (by decide +kernel) (by decide +kernel)
set_option maxRecDepth 20000 in
theorem gX4_countMissed_X4_hits : GoodIn wsX4_countMissed (wsV RX4 40 RX4 yX4_hits wsX4_hits) := goodIn_app (goodIn_of _ (by decide +kernel)) ggX4_countMissed_X4_hits
set_option maxRecDepth 20000 in
theorem ggX4_countMissed_J6_bitCount_0f7a4 : GoodIn wsX4_countMissed wsJ6_bitCount_0f7a4 := goodIn_r _ [18, 19, 20, 21] (by decide +kernel) (by decide +kernel)
set_option maxRecDepth 20000 in
theorem gX4_countMissed_J6_bitCount_0f7a4 : GoodIn wsX4_countMissed (va_wsS RX4 44 yJ6_bitCount_0f7a4 wsJ6_bitCount_0f7a4) := goodIn_app (goodIn_of _ (by decide +kernel)) ggX4_countMissed_J6_bitCount_0f7a4
theorem dX4_countMissed_0 : decode cX4_countMissed 0 = .ok (.iconst 0, 1) := by decide +kernel
theorem dX4_countMissed_1 : decode cX4_countMissed 1 = .ok (.istore_n 2, 1) := by decide +kernel
theorem dX4_countMissed_2 : decode cX4_countMissed 2 = .ok (.iload_n 2, 1) := by decide +kernel
theorem dX4_countMissed_3 : decode cX4_countMissed 3 = .ok (.aload_n 0, 1) := by decide +kernel
theorem dX4_countMissed_4 : decode cX4_countMissed 4 = .ok (.getfield 15, 3) := by decide +kernel
theorem dX4_countMissed_7 : decode cX4_countMissed 7 = .ok (.getfield 19, 3) := by decide +kernel
theorem dX4_countMissed_10 : decode cX4_countMissed 10 = .ok (.if_icmp .ge 32, 3) := by decide +kernel
theorem dX4_countMissed_13 : decode cX4_countMissed 13 = .ok (.aload_n 0, 1) := by decide +kernel
theorem dX4_countMissed_14 : decode cX4_countMissed 14 = .ok (.getfield 9, 3) := by decide +kernel
theorem dX4_countMissed_17 : decode cX4_countMissed 17 = .ok (.iload_n 2, 1) := by decide +kernel
theorem dX4_countMissed_18 : decode cX4_countMissed 18 = .ok (.aload_n 0, 1) := by decide +kernel
theorem dX4_countMissed_19 : decode cX4_countMissed 19 = .ok (.getfield 15, 3) := by decide +kernel
theorem dX4_countMissed_22 : decode cX4_countMissed 22 = .ok (.getfield 25, 3) := by decide +kernel
theorem dX4_countMissed_25 : decode cX4_countMissed 25 = .ok (.iload_n 2, 1) := by decide +kernel
theorem dX4_countMissed_26 : decode cX4_countMissed 26 = .ok (.iaload, 1) := by decide +kernel
theorem dX4_countMissed_27 : decode cX4_countMissed 27 = .ok (.iload_n 1, 1) := by decide +kernel
theorem dX4_countMissed_28 : decode cX4_countMissed 28 = .ok (.invokestatic 28, 3) := by decide +kernel
theorem dX4_countMissed_31 : decode cX4_countMissed 31 = .ok (.iload_n 1, 1) := by decide +kernel
theorem dX4_countMissed_32 : decode cX4_countMissed 32 = .ok (.invokestatic 34, 3) := by decide +kernel
theorem dX4_countMissed_35 : decode cX4_countMissed 35 = .ok (.iastore, 1) := by decide +kernel
theorem dX4_countMissed_36 : decode cX4_countMissed 36 = .ok (.iinc 2 1, 3) := by decide +kernel
theorem dX4_countMissed_39 : decode cX4_countMissed 39 = .ok (.goto (-37), 3) := by decide +kernel
theorem dX4_countMissed_42 : decode cX4_countMissed 42 = .ok (.aload_n 0, 1) := by decide +kernel
theorem dX4_countMissed_43 : decode cX4_countMissed 43 = .ok (.getfield 15, 3) := by decide +kernel
theorem dX4_countMissed_46 : decode cX4_countMissed 46 = .ok (.getfield 37, 3) := by decide +kernel
theorem dX4_countMissed_49 : decode cX4_countMissed 49 = .ok (.iconst 2, 1) := by decide +kernel
theorem dX4_countMissed_50 : decode cX4_countMissed 50 = .ok (.if_icmp .lt 7, 3) := by decide +kernel
theorem dX4_countMissed_53 : decode cX4_countMissed 53 = .ok (.iload_n 1, 1) := by decide +kernel
theorem dX4_countMissed_54 : decode cX4_countMissed 54 = .ok (.goto 4, 3) := by decide +kernel
theorem dX4_countMissed_57 : decode cX4_countMissed 57 = .ok (.iconst 1, 1) := by decide +kernel
theorem dX4_countMissed_58 : decode cX4_countMissed 58 = .ok (.istore_n 2, 1) := by decide +kernel
theorem dX4_countMissed_59 : decode cX4_countMissed 59 = .ok (.aload_n 0, 1) := by decide +kernel
theorem dX4_countMissed_60 : decode cX4_countMissed 60 = .ok (.getfield 15, 3) := by decide +kernel
theorem dX4_countMissed_63 : decode cX4_countMissed 63 = .ok (.getfield 37, 3) := by decide +kernel
theorem dX4_countMissed_66 : decode cX4_countMissed 66 = .ok (.iconst 3, 1) := by decide +kernel
theorem dX4_countMissed_67 : decode cX4_countMissed 67 = .ok (.if_icmp .lt 7, 3) := by decide +kernel
theorem dX4_countMissed_70 : decode cX4_countMissed 70 = .ok (.iload_n 1, 1) := by decide +kernel
theorem dX4_countMissed_71 : decode cX4_countMissed 71 = .ok (.goto 4, 3) := by decide +kernel
theorem dX4_countMissed_74 : decode cX4_countMissed 74 = .ok (.iconst 1, 1) := by decide +kernel
theorem dX4_countMissed_75 : decode cX4_countMissed 75 = .ok (.istore_n 3, 1) := by decide +kernel
theorem dX4_countMissed_76 : decode cX4_countMissed 76 = .ok (.iconst 0, 1) := by decide +kernel
theorem dX4_countMissed_77 : decode cX4_countMissed 77 = .ok (.istore 4, 2) := by decide +kernel
theorem dX4_countMissed_79 : decode cX4_countMissed 79 = .ok (.iconst 0, 1) := by decide +kernel
theorem dX4_countMissed_80 : decode cX4_countMissed 80 = .ok (.istore 5, 2) := by decide +kernel
theorem dX4_countMissed_82 : decode cX4_countMissed 82 = .ok (.iload 5, 2) := by decide +kernel
theorem dX4_countMissed_84 : decode cX4_countMissed 84 = .ok (.iload_n 2, 1) := by decide +kernel
theorem dX4_countMissed_85 : decode cX4_countMissed 85 = .ok (.if_icmp .ge 43, 3) := by decide +kernel
theorem dX4_countMissed_88 : decode cX4_countMissed 88 = .ok (.iconst 0, 1) := by decide +kernel
theorem dX4_countMissed_89 : decode cX4_countMissed 89 = .ok (.istore 6, 2) := by decide +kernel
theorem dX4_countMissed_91 : decode cX4_countMissed 91 = .ok (.iload 6, 2) := by decide +kernel
theorem dX4_countMissed_93 : decode cX4_countMissed 93 = .ok (.iload_n 3, 1) := by decide +kernel
theorem dX4_countMissed_94 : decode cX4_countMissed 94 = .ok (.if_icmp .ge 28, 3) := by decide +kernel
theorem dX4_countMissed_97 : decode cX4_countMissed 97 = .ok (.iload 4, 2) := by decide +kernel
theorem dX4_countMissed_99 : decode cX4_countMissed 99 = .ok (.iload_n 1, 1) := by decide +kernel
theorem dX4_countMissed_100 : decode cX4_countMissed 100 = .ok (.aload_n 0, 1) := by decide +kernel
theorem dX4_countMissed_101 : decode cX4_countMissed 101 = .ok (.iload 5, 2) := by decide +kernel
theorem dX4_countMissed_103 : decode cX4_countMissed 103 = .ok (.iload 6, 2) := by decide +kernel
theorem dX4_countMissed_105 : decode cX4_countMissed 105 = .ok (.iload_n 1, 1) := by decide +kernel
theorem dX4_countMissed_106 : decode cX4_countMissed 106 = .ok (.invokevirtual 40, 3) := by decide +kernel
theorem dX4_countMissed_109 : decode cX4_countMissed 109 = .ok (.invokestatic 44, 3) := by decide +kernel
theorem dX4_countMissed_112 : decode cX4_countMissed 112 = .ok (.isub, 1) := by decide +kernel
theorem dX4_countMissed_113 : decode cX4_countMissed 113 = .ok (.iadd, 1) := by decide +kernel
theorem dX4_countMissed_114 : decode cX4_countMissed 114 = .ok (.istore 4, 2) := by decide +kernel
theorem dX4_countMissed_116 : decode cX4_countMissed 116 = .ok (.iinc 6 1, 3) := by decide +kernel
theorem dX4_countMissed_119 : decode cX4_countMissed 119 = .ok (.goto (-28), 3) := by decide +kernel
theorem dX4_countMissed_122 : decode cX4_countMissed 122 = .ok (.iinc 5 1, 3) := by decide +kernel
theorem dX4_countMissed_125 : decode cX4_countMissed 125 = .ok (.goto (-43), 3) := by decide +kernel
theorem dX4_countMissed_128 : decode cX4_countMissed 128 = .ok (.iload 4, 2) := by decide +kernel
theorem dX4_countMissed_130 : decode cX4_countMissed 130 = .ok (.ireturn, 1) := by decide +kernel
set_option maxRecDepth 20000 in
theorem ggX4_hits_J9_floorMod_7cf53 : GoodIn wsX4_hits wsJ9_floorMod_7cf53 := goodIn_r _ [6] (by decide +kernel) (by decide +kernel)
set_option maxRecDepth 20000 in
theorem gX4_hits_J9_floorMod_7cf53 : GoodIn wsX4_hits (va_wsS RX4 28 yJ9_floorMod_7cf53 wsJ9_floorMod_7cf53) := goodIn_app (goodIn_of _ (by decide +kernel)) ggX4_hits_J9_floorMod_7cf53
theorem dX4_hits_0 : decode cX4_hits 0 = .ok (.iconst 0, 1) := by decide +kernel
theorem dX4_hits_1 : decode cX4_hits 1 = .ok (.istore 4, 2) := by decide +kernel
theorem dX4_hits_3 : decode cX4_hits 3 = .ok (.iconst 0, 1) := by decide +kernel
theorem dX4_hits_4 : decode cX4_hits 4 = .ok (.istore 5, 2) := by decide +kernel
theorem dX4_hits_6 : decode cX4_hits 6 = .ok (.iload 5, 2) := by decide +kernel
theorem dX4_hits_8 : decode cX4_hits 8 = .ok (.aload_n 0, 1) := by decide +kernel
theorem dX4_hits_9 : decode cX4_hits 9 = .ok (.getfield 15, 3) := by decide +kernel
theorem dX4_hits_12 : decode cX4_hits 12 = .ok (.getfield 19, 3) := by decide +kernel
theorem dX4_hits_15 : decode cX4_hits 15 = .ok (.if_icmp .ge 94, 3) := by decide +kernel
theorem dX4_hits_18 : decode cX4_hits 18 = .ok (.aload_n 0, 1) := by decide +kernel
theorem dX4_hits_19 : decode cX4_hits 19 = .ok (.getfield 15, 3) := by decide +kernel
theorem dX4_hits_22 : decode cX4_hits 22 = .ok (.getfield 50, 3) := by decide +kernel
theorem dX4_hits_25 : decode cX4_hits 25 = .ok (.iload 5, 2) := by decide +kernel
theorem dX4_hits_27 : decode cX4_hits 27 = .ok (.iaload, 1) := by decide +kernel
theorem dX4_hits_28 : decode cX4_hits 28 = .ok (.aload_n 0, 1) := by decide +kernel
theorem dX4_hits_29 : decode cX4_hits 29 = .ok (.getfield 15, 3) := by decide +kernel
theorem dX4_hits_32 : decode cX4_hits 32 = .ok (.getfield 53, 3) := by decide +kernel
theorem dX4_hits_35 : decode cX4_hits 35 = .ok (.iload 5, 2) := by decide +kernel
theorem dX4_hits_37 : decode cX4_hits 37 = .ok (.iaload, 1) := by decide +kernel
theorem dX4_hits_38 : decode cX4_hits 38 = .ok (.iload_n 1, 1) := by decide +kernel
theorem dX4_hits_39 : decode cX4_hits 39 = .ok (.imul, 1) := by decide +kernel
theorem dX4_hits_40 : decode cX4_hits 40 = .ok (.isub, 1) := by decide +kernel
theorem dX4_hits_41 : decode cX4_hits 41 = .ok (.aload_n 0, 1) := by decide +kernel
theorem dX4_hits_42 : decode cX4_hits 42 = .ok (.getfield 15, 3) := by decide +kernel
theorem dX4_hits_45 : decode cX4_hits 45 = .ok (.getfield 56, 3) := by decide +kernel
theorem dX4_hits_48 : decode cX4_hits 48 = .ok (.iload 5, 2) := by decide +kernel
theorem dX4_hits_50 : decode cX4_hits 50 = .ok (.iaload, 1) := by decide +kernel
theorem dX4_hits_51 : decode cX4_hits 51 = .ok (.iload_n 2, 1) := by decide +kernel
theorem dX4_hits_52 : decode cX4_hits 52 = .ok (.imul, 1) := by decide +kernel
theorem dX4_hits_53 : decode cX4_hits 53 = .ok (.isub, 1) := by decide +kernel
theorem dX4_hits_54 : decode cX4_hits 54 = .ok (.iload_n 3, 1) := by decide +kernel
theorem dX4_hits_55 : decode cX4_hits 55 = .ok (.invokestatic 28, 3) := by decide +kernel
theorem dX4_hits_58 : decode cX4_hits 58 = .ok (.istore 6, 2) := by decide +kernel
theorem dX4_hits_60 : decode cX4_hits 60 = .ok (.aload_n 0, 1) := by decide +kernel
theorem dX4_hits_61 : decode cX4_hits 61 = .ok (.getfield 9, 3) := by decide +kernel
theorem dX4_hits_64 : decode cX4_hits 64 = .ok (.iload 5, 2) := by decide +kernel
theorem dX4_hits_66 : decode cX4_hits 66 = .ok (.iaload, 1) := by decide +kernel
theorem dX4_hits_67 : decode cX4_hits 67 = .ok (.ifCond .eq 25, 3) := by decide +kernel
theorem dX4_hits_70 : decode cX4_hits 70 = .ok (.iload 4, 2) := by decide +kernel
theorem dX4_hits_72 : decode cX4_hits 72 = .ok (.iconst 1, 1) := by decide +kernel
theorem dX4_hits_73 : decode cX4_hits 73 = .ok (.iload 6, 2) := by decide +kernel
theorem dX4_hits_75 : decode cX4_hits 75 = .ok (.aload_n 0, 1) := by decide +kernel
theorem dX4_hits_76 : decode cX4_hits 76 = .ok (.getfield 9, 3) := by decide +kernel
theorem dX4_hits_79 : decode cX4_hits 79 = .ok (.iload 5, 2) := by decide +kernel
theorem dX4_hits_81 : decode cX4_hits 81 = .ok (.iaload, 1) := by decide +kernel
theorem dX4_hits_82 : decode cX4_hits 82 = .ok (.imul, 1) := by decide +kernel
theorem dX4_hits_83 : decode cX4_hits 83 = .ok (.iload_n 3, 1) := by decide +kernel
theorem dX4_hits_84 : decode cX4_hits 84 = .ok (.irem, 1) := by decide +kernel
theorem dX4_hits_85 : decode cX4_hits 85 = .ok (.ishl, 1) := by decide +kernel
theorem dX4_hits_86 : decode cX4_hits 86 = .ok (.ior, 1) := by decide +kernel
theorem dX4_hits_87 : decode cX4_hits 87 = .ok (.istore 4, 2) := by decide +kernel
theorem dX4_hits_89 : decode cX4_hits 89 = .ok (.goto 14, 3) := by decide +kernel
theorem dX4_hits_92 : decode cX4_hits 92 = .ok (.iload 6, 2) := by decide +kernel
theorem dX4_hits_94 : decode cX4_hits 94 = .ok (.ifCond .ne 9, 3) := by decide +kernel
theorem dX4_hits_97 : decode cX4_hits 97 = .ok (.iconst 1, 1) := by decide +kernel
theorem dX4_hits_98 : decode cX4_hits 98 = .ok (.iload_n 3, 1) := by decide +kernel
theorem dX4_hits_99 : decode cX4_hits 99 = .ok (.ishl, 1) := by decide +kernel
theorem dX4_hits_100 : decode cX4_hits 100 = .ok (.iconst 1, 1) := by decide +kernel
theorem dX4_hits_101 : decode cX4_hits 101 = .ok (.isub, 1) := by decide +kernel
theorem dX4_hits_102 : decode cX4_hits 102 = .ok (.ireturn, 1) := by decide +kernel
theorem dX4_hits_103 : decode cX4_hits 103 = .ok (.iinc 5 1, 3) := by decide +kernel
theorem dX4_hits_106 : decode cX4_hits 106 = .ok (.goto (-100), 3) := by decide +kernel
theorem dX4_hits_109 : decode cX4_hits 109 = .ok (.iload 4, 2) := by decide +kernel
theorem dX4_hits_111 : decode cX4_hits 111 = .ok (.ireturn, 1) := by decide +kernel
theorem dX4_inverse_0 : decode cX4_inverse 0 = .ok (.iconst 1, 1) := by decide +kernel
theorem dX4_inverse_1 : decode cX4_inverse 1 = .ok (.istore_n 2, 1) := by decide +kernel
theorem dX4_inverse_2 : decode cX4_inverse 2 = .ok (.iload_n 2, 1) := by decide +kernel
theorem dX4_inverse_3 : decode cX4_inverse 3 = .ok (.iload_n 1, 1) := by decide +kernel
theorem dX4_inverse_4 : decode cX4_inverse 4 = .ok (.if_icmp .ge 20, 3) := by decide +kernel
theorem dX4_inverse_7 : decode cX4_inverse 7 = .ok (.iload_n 0, 1) := by decide +kernel
theorem dX4_inverse_8 : decode cX4_inverse 8 = .ok (.iload_n 2, 1) := by decide +kernel
theorem dX4_inverse_9 : decode cX4_inverse 9 = .ok (.imul, 1) := by decide +kernel
theorem dX4_inverse_10 : decode cX4_inverse 10 = .ok (.iload_n 1, 1) := by decide +kernel
theorem dX4_inverse_11 : decode cX4_inverse 11 = .ok (.irem, 1) := by decide +kernel
theorem dX4_inverse_12 : decode cX4_inverse 12 = .ok (.iconst 1, 1) := by decide +kernel
theorem dX4_inverse_13 : decode cX4_inverse 13 = .ok (.if_icmp .ne 5, 3) := by decide +kernel
theorem dX4_inverse_16 : decode cX4_inverse 16 = .ok (.iload_n 2, 1) := by decide +kernel
theorem dX4_inverse_17 : decode cX4_inverse 17 = .ok (.ireturn, 1) := by decide +kernel
theorem dX4_inverse_18 : decode cX4_inverse 18 = .ok (.iinc 2 1, 3) := by decide +kernel
theorem dX4_inverse_21 : decode cX4_inverse 21 = .ok (.goto (-19), 3) := by decide +kernel
theorem dX4_inverse_24 : decode cX4_inverse 24 = .ok (.iconst 0, 1) := by decide +kernel
theorem dX4_inverse_25 : decode cX4_inverse 25 = .ok (.ireturn, 1) := by decide +kernel
set_option maxRecDepth 20000 in
theorem ggX5_init_X3_init : GoodIn wsX5_init wsX3_init := goodIn_r _ [30, 31, 2, 3, 32, 33, 34, 35, 36, 37, 38, 39, 82, 83, 84, 85, 86, 87, 88] (by decide +kernel) (by decide +kernel)
set_option maxRecDepth 20000 in
theorem gX5_init_X3_init : GoodIn wsX5_init (wsX3_init) := ggX5_init_X3_init
set_option maxRecDepth 20000 in
theorem ggX5_init_X2_init : GoodIn wsX5_init wsX2_init := goodIn_r _ [42, 43, 2, 3, 32, 44, 45, 46, 47, 48, 49, 50, 51, 52, 53, 54, 55, 56, 57, 94, 95, 96, 97, 98, 99, 100, 116, 117, 118] (by decide +kernel) (by decide +kernel)
set_option maxRecDepth 20000 in
theorem gX5_init_X2_init : GoodIn wsX5_init (wsX2_init) := ggX5_init_X2_init
set_option maxRecDepth 20000 in
theorem ggX5_init_X1_init : GoodIn wsX5_init wsX1_init := goodIn_r _ [60, 61, 2, 3, 32, 62, 63, 64, 65, 66, 67, 68, 51, 52, 69, 70, 71, 72, 73, 74, 75, 55, 56, 57, 101, 102, 103, 104, 105, 106, 107, 108, 109, 110, 111, 112, 113, 116, 117, 118] (by decide +kernel) (by decide +kernel)
set_option maxRecDepth 20000 in
theorem gX5_init_X1_init : GoodIn wsX5_init (wsX1_init) := ggX5_init_X1_init
set_option maxRecDepth 20000 in
theorem ggX5_init_X4_init : GoodIn wsX5_init wsX4_init := goodIn_r _ [78, 79, 2, 3, 32, 80, 81, 114, 115] (by decide +kernel) (by decide +kernel)
set_option maxRecDepth 20000 in
theorem gX5_init_X4_init : GoodIn wsX5_init (wsX4_init) := ggX5_init_X4_init
theorem dX5_init_0 : decode cX5_init 0 = .ok (.aload_n 0, 1) := by decide +kernel
theorem dX5_init_1 : decode cX5_init 1 = .ok (.invokespecial 1, 3) := by decide +kernel
theorem dX5_init_4 : decode cX5_init 4 = .ok (.aload_n 0, 1) := by decide +kernel
theorem dX5_init_5 : decode cX5_init 5 = .ok (.new 7, 3) := by decide +kernel
theorem dX5_init_8 : decode cX5_init 8 = .ok (.dup, 1) := by decide +kernel
theorem dX5_init_9 : decode cX5_init 9 = .ok (.iconst 1, 1) := by decide +kernel
theorem dX5_init_10 : decode cX5_init 10 = .ok (.iconst 3, 1) := by decide +kernel
theorem dX5_init_11 : decode cX5_init 11 = .ok (.iload_n 1, 1) := by decide +kernel
theorem dX5_init_12 : decode cX5_init 12 = .ok (.invokestatic 11, 3) := by decide +kernel
theorem dX5_init_15 : decode cX5_init 15 = .ok (.invokestatic 17, 3) := by decide +kernel
theorem dX5_init_18 : decode cX5_init 18 = .ok (.invokespecial 20, 3) := by decide +kernel
theorem dX5_init_21 : decode cX5_init 21 = .ok (.putfield 23, 3) := by decide +kernel
theorem dX5_init_24 : decode cX5_init 24 = .ok (.aload_n 0, 1) := by decide +kernel
theorem dX5_init_25 : decode cX5_init 25 = .ok (.new 27, 3) := by decide +kernel
theorem dX5_init_28 : decode cX5_init 28 = .ok (.dup, 1) := by decide +kernel
theorem dX5_init_29 : decode cX5_init 29 = .ok (.aload_n 0, 1) := by decide +kernel
theorem dX5_init_30 : decode cX5_init 30 = .ok (.getfield 23, 3) := by decide +kernel
theorem dX5_init_33 : decode cX5_init 33 = .ok (.invokespecial 29, 3) := by decide +kernel
theorem dX5_init_36 : decode cX5_init 36 = .ok (.putfield 32, 3) := by decide +kernel
theorem dX5_init_39 : decode cX5_init 39 = .ok (.aload_n 0, 1) := by decide +kernel
theorem dX5_init_40 : decode cX5_init 40 = .ok (.new 36, 3) := by decide +kernel
theorem dX5_init_43 : decode cX5_init 43 = .ok (.dup, 1) := by decide +kernel
theorem dX5_init_44 : decode cX5_init 44 = .ok (.aload_n 0, 1) := by decide +kernel
theorem dX5_init_45 : decode cX5_init 45 = .ok (.getfield 23, 3) := by decide +kernel
theorem dX5_init_48 : decode cX5_init 48 = .ok (.aload_n 0, 1) := by decide +kernel
theorem dX5_init_49 : decode cX5_init 49 = .ok (.getfield 32, 3) := by decide +kernel
theorem dX5_init_52 : decode cX5_init 52 = .ok (.invokespecial 38, 3) := by decide +kernel
theorem dX5_init_55 : decode cX5_init 55 = .ok (.putfield 41, 3) := by decide +kernel
theorem dX5_init_58 : decode cX5_init 58 = .ok (.aload_n 0, 1) := by decide +kernel
theorem dX5_init_59 : decode cX5_init 59 = .ok (.new 45, 3) := by decide +kernel
theorem dX5_init_62 : decode cX5_init 62 = .ok (.dup, 1) := by decide +kernel
theorem dX5_init_63 : decode cX5_init 63 = .ok (.aload_n 0, 1) := by decide +kernel
theorem dX5_init_64 : decode cX5_init 64 = .ok (.getfield 23, 3) := by decide +kernel
theorem dX5_init_67 : decode cX5_init 67 = .ok (.invokespecial 47, 3) := by decide +kernel
theorem dX5_init_70 : decode cX5_init 70 = .ok (.putfield 48, 3) := by decide +kernel
theorem dX5_init_73 : decode cX5_init 73 = .ok (.aload_n 0, 1) := by decide +kernel
theorem dX5_init_74 : decode cX5_init 74 = .ok (.iconst 0, 1) := by decide +kernel
theorem dX5_init_75 : decode cX5_init 75 = .ok (.putfield 52, 3) := by decide +kernel
theorem dX5_init_78 : decode cX5_init 78 = .ok (.return_, 1) := by decide +kernel
set_option maxRecDepth 20000 in
theorem ggX5_wall_X3_isPlane : GoodIn wsX5_wall wsX3_isPlane := goodIn_r _ [7, 8, 9, 10, 6, 11, 30, 31, 32, 33, 34, 35, 36] (by decide +kernel) (by decide +kernel)
set_option maxRecDepth 20000 in
theorem gX5_wall_X3_isPlane : GoodIn wsX5_wall (wsV RX5 60 RX3 yX3_isPlane wsX3_isPlane) := goodIn_app (goodIn_of _ (by decide +kernel)) ggX5_wall_X3_isPlane
set_option maxRecDepth 20000 in
theorem ggX5_wall_X3_isThere : GoodIn wsX5_wall wsX3_isThere := goodIn_r _ [15, 16, 17, 18, 19, 20, 30, 31, 32, 33, 34, 35, 36] (by decide +kernel) (by decide +kernel)
set_option maxRecDepth 20000 in
theorem gX5_wall_X3_isThere : GoodIn wsX5_wall (wsV RX5 64 RX3 yX3_isThere wsX3_isThere) := goodIn_app (goodIn_of _ (by decide +kernel)) ggX5_wall_X3_isThere
set_option maxRecDepth 20000 in
theorem ggX5_wall_X3_append : GoodIn wsX5_wall wsX3_append := goodIn_r _ [24, 16, 17, 18, 19, 20, 30, 31, 32, 33, 34, 35, 36] (by decide +kernel) (by decide +kernel)
set_option maxRecDepth 20000 in
theorem gX5_wall_X3_append : GoodIn wsX5_wall (wsV RX5 67 RX3 yX3_append wsX3_append) := goodIn_app (goodIn_of _ (by decide +kernel)) ggX5_wall_X3_append
theorem dX5_wall_0 : decode cX5_wall 0 = .ok (.aload_n 0, 1) := by decide +kernel
theorem dX5_wall_1 : decode cX5_wall 1 = .ok (.getfield 23, 3) := by decide +kernel
theorem dX5_wall_4 : decode cX5_wall 4 = .ok (.getfield 56, 3) := by decide +kernel
theorem dX5_wall_7 : decode cX5_wall 7 = .ok (.bipush 8, 2) := by decide +kernel
theorem dX5_wall_9 : decode cX5_wall 9 = .ok (.if_icmp .ge 33, 3) := by decide +kernel
theorem dX5_wall_12 : decode cX5_wall 12 = .ok (.aload_n 0, 1) := by decide +kernel
theorem dX5_wall_13 : decode cX5_wall 13 = .ok (.getfield 23, 3) := by decide +kernel
theorem dX5_wall_16 : decode cX5_wall 16 = .ok (.iload_n 1, 1) := by decide +kernel
theorem dX5_wall_17 : decode cX5_wall 17 = .ok (.iload_n 2, 1) := by decide +kernel
theorem dX5_wall_18 : decode cX5_wall 18 = .ok (.iload_n 3, 1) := by decide +kernel
theorem dX5_wall_19 : decode cX5_wall 19 = .ok (.iload 4, 2) := by decide +kernel
theorem dX5_wall_21 : decode cX5_wall 21 = .ok (.invokevirtual 60, 3) := by decide +kernel
theorem dX5_wall_24 : decode cX5_wall 24 = .ok (.ifCond .eq 18, 3) := by decide +kernel
theorem dX5_wall_27 : decode cX5_wall 27 = .ok (.aload_n 0, 1) := by decide +kernel
theorem dX5_wall_28 : decode cX5_wall 28 = .ok (.getfield 23, 3) := by decide +kernel
theorem dX5_wall_31 : decode cX5_wall 31 = .ok (.iload_n 1, 1) := by decide +kernel
theorem dX5_wall_32 : decode cX5_wall 32 = .ok (.iload_n 2, 1) := by decide +kernel
theorem dX5_wall_33 : decode cX5_wall 33 = .ok (.iload_n 3, 1) := by decide +kernel
theorem dX5_wall_34 : decode cX5_wall 34 = .ok (.iload 4, 2) := by decide +kernel
theorem dX5_wall_36 : decode cX5_wall 36 = .ok (.invokevirtual 64, 3) := by decide +kernel
theorem dX5_wall_39 : decode cX5_wall 39 = .ok (.ifCond .eq 5, 3) := by decide +kernel
theorem dX5_wall_42 : decode cX5_wall 42 = .ok (.iconst (-1), 1) := by decide +kernel
theorem dX5_wall_43 : decode cX5_wall 43 = .ok (.ireturn, 1) := by decide +kernel
theorem dX5_wall_44 : decode cX5_wall 44 = .ok (.aload_n 0, 1) := by decide +kernel
theorem dX5_wall_45 : decode cX5_wall 45 = .ok (.getfield 23, 3) := by decide +kernel
theorem dX5_wall_48 : decode cX5_wall 48 = .ok (.iload_n 1, 1) := by decide +kernel
theorem dX5_wall_49 : decode cX5_wall 49 = .ok (.iload_n 2, 1) := by decide +kernel
theorem dX5_wall_50 : decode cX5_wall 50 = .ok (.iload_n 3, 1) := by decide +kernel
theorem dX5_wall_51 : decode cX5_wall 51 = .ok (.iload 4, 2) := by decide +kernel
theorem dX5_wall_53 : decode cX5_wall 53 = .ok (.invokevirtual 67, 3) := by decide +kernel
theorem dX5_wall_56 : decode cX5_wall 56 = .ok (.aload_n 0, 1) := by decide +kernel
theorem dX5_wall_57 : decode cX5_wall 57 = .ok (.iconst 0, 1) := by decide +kernel
theorem dX5_wall_58 : decode cX5_wall 58 = .ok (.putfield 52, 3) := by decide +kernel
theorem dX5_wall_61 : decode cX5_wall 61 = .ok (.aload_n 0, 1) := by decide +kernel
theorem dX5_wall_62 : decode cX5_wall 62 = .ok (.getfield 23, 3) := by decide +kernel
theorem dX5_wall_65 : decode cX5_wall 65 = .ok (.getfield 56, 3) := by decide +kernel
theorem dX5_wall_68 : decode cX5_wall 68 = .ok (.iconst 1, 1) := by decide +kernel
theorem dX5_wall_69 : decode cX5_wall 69 = .ok (.isub, 1) := by decide +kernel
theorem dX5_wall_70 : decode cX5_wall 70 = .ok (.ireturn, 1) := by decide +kernel
set_option maxRecDepth 20000 in
theorem ggX5_take_X3_holds : GoodIn wsX5_take wsX3_holds := goodIn_r _ [7, 8, 23, 24, 25, 26, 27, 28, 29] (by decide +kernel) (by decide +kernel)
set_option maxRecDepth 20000 in
theorem gX5_take_X3_holds : GoodIn wsX5_take (wsV RX5 71 RX3 yX3_holds wsX3_holds) := goodIn_app (goodIn_of _ (by decide +kernel)) ggX5_take_X3_holds
set_option maxRecDepth 20000 in
theorem ggX5_take_X3_drop : GoodIn wsX5_take wsX3_drop := goodIn_r _ [12, 8, 13, 14, 15, 16, 17, 4, 5, 6, 7, 23, 24, 25, 26, 27, 28, 29] (by decide +kernel) (by decide +kernel)
set_option maxRecDepth 20000 in
theorem gX5_take_X3_drop : GoodIn wsX5_take (wsV RX5 75 RX3 yX3_drop wsX3_drop) := goodIn_app (goodIn_of _ (by decide +kernel)) ggX5_take_X3_drop
theorem dX5_take_0 : decode cX5_take 0 = .ok (.aload_n 0, 1) := by decide +kernel
theorem dX5_take_1 : decode cX5_take 1 = .ok (.getfield 23, 3) := by decide +kernel
theorem dX5_take_4 : decode cX5_take 4 = .ok (.iload_n 1, 1) := by decide +kernel
theorem dX5_take_5 : decode cX5_take 5 = .ok (.invokevirtual 71, 3) := by decide +kernel
theorem dX5_take_8 : decode cX5_take 8 = .ok (.ifCond .ne 5, 3) := by decide +kernel
theorem dX5_take_11 : decode cX5_take 11 = .ok (.iconst 0, 1) := by decide +kernel
theorem dX5_take_12 : decode cX5_take 12 = .ok (.ireturn, 1) := by decide +kernel
theorem dX5_take_13 : decode cX5_take 13 = .ok (.aload_n 0, 1) := by decide +kernel
theorem dX5_take_14 : decode cX5_take 14 = .ok (.getfield 23, 3) := by decide +kernel
theorem dX5_take_17 : decode cX5_take 17 = .ok (.iload_n 1, 1) := by decide +kernel
theorem dX5_take_18 : decode cX5_take 18 = .ok (.invokevirtual 75, 3) := by decide +kernel
