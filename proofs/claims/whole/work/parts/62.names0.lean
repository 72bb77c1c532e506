theorem inJ6 : ∀ w ∈ wsJ60, w ∈ lw_tbl := by decide +kernel
theorem inJ9 : ∀ w ∈ wsJ90, w ∈ lw_tbl := by decide +kernel
theorem inJ7 : ∀ w ∈ wsJ70, w ∈ lw_tbl := by decide +kernel
theorem dX0_init_0 : decode cX0_init 0 = .ok (.aload_n 0, 1) := by decide +kernel
theorem dX0_init_1 : decode cX0_init 1 = .ok (.invokespecial 1, 3) := by decide +kernel
theorem dX0_init_4 : decode cX0_init 4 = .ok (.return_, 1) := by decide +kernel
set_option maxRecDepth 20000 in
theorem ggX0_alongBoth_X0_set : GoodIn wsX0_alongBoth wsX0_set := goodIn_r _ [5, 6, 7, 8, 20, 21, 22] (by decide +kernel) (by decide +kernel)
set_option maxRecDepth 20000 in
theorem gX0_alongBoth_X0_set : GoodIn wsX0_alongBoth (wsV RX0 19 RX0 yX0_set wsX0_set) := goodIn_app (goodIn_of _ (by decide +kernel)) ggX0_alongBoth_X0_set
set_option maxRecDepth 20000 in
theorem ggX0_alongBoth_X0_crossWith : GoodIn wsX0_alongBoth wsX0_crossWith := goodIn_r _ [12, 7, 8, 6, 1, 2, 3, 4, 5, 13, 14, 15, 16, 17, 18, 19, 20, 21, 22] (by decide +kernel) (by decide +kernel)
set_option maxRecDepth 20000 in
theorem gX0_alongBoth_X0_crossWith : GoodIn wsX0_alongBoth (wsV RX0 25 RX0 yX0_crossWith wsX0_crossWith) := goodIn_app (goodIn_of _ (by decide +kernel)) ggX0_alongBoth_X0_crossWith
theorem dX0_alongBoth_0 : decode cX0_alongBoth 0 = .ok (.aload_n 0, 1) := by decide +kernel
theorem dX0_alongBoth_1 : decode cX0_alongBoth 1 = .ok (.aload_n 1, 1) := by decide +kernel
theorem dX0_alongBoth_2 : decode cX0_alongBoth 2 = .ok (.getfield 7, 3) := by decide +kernel
theorem dX0_alongBoth_5 : decode cX0_alongBoth 5 = .ok (.iload_n 2, 1) := by decide +kernel
theorem dX0_alongBoth_6 : decode cX0_alongBoth 6 = .ok (.iaload, 1) := by decide +kernel
theorem dX0_alongBoth_7 : decode cX0_alongBoth 7 = .ok (.aload_n 1, 1) := by decide +kernel
theorem dX0_alongBoth_8 : decode cX0_alongBoth 8 = .ok (.getfield 13, 3) := by decide +kernel
theorem dX0_alongBoth_11 : decode cX0_alongBoth 11 = .ok (.iload_n 2, 1) := by decide +kernel
theorem dX0_alongBoth_12 : decode cX0_alongBoth 12 = .ok (.iaload, 1) := by decide +kernel
theorem dX0_alongBoth_13 : decode cX0_alongBoth 13 = .ok (.aload_n 1, 1) := by decide +kernel
theorem dX0_alongBoth_14 : decode cX0_alongBoth 14 = .ok (.getfield 16, 3) := by decide +kernel
theorem dX0_alongBoth_17 : decode cX0_alongBoth 17 = .ok (.iload_n 2, 1) := by decide +kernel
theorem dX0_alongBoth_18 : decode cX0_alongBoth 18 = .ok (.iaload, 1) := by decide +kernel
theorem dX0_alongBoth_19 : decode cX0_alongBoth 19 = .ok (.invokevirtual 19, 3) := by decide +kernel
theorem dX0_alongBoth_22 : decode cX0_alongBoth 22 = .ok (.aload_n 0, 1) := by decide +kernel
theorem dX0_alongBoth_23 : decode cX0_alongBoth 23 = .ok (.aload_n 1, 1) := by decide +kernel
theorem dX0_alongBoth_24 : decode cX0_alongBoth 24 = .ok (.iload_n 3, 1) := by decide +kernel
theorem dX0_alongBoth_25 : decode cX0_alongBoth 25 = .ok (.invokevirtual 25, 3) := by decide +kernel
theorem dX0_alongBoth_28 : decode cX0_alongBoth 28 = .ok (.return_, 1) := by decide +kernel
theorem dX0_set_0 : decode cX0_set 0 = .ok (.aload_n 0, 1) := by decide +kernel
theorem dX0_set_1 : decode cX0_set 1 = .ok (.iload_n 1, 1) := by decide +kernel
theorem dX0_set_2 : decode cX0_set 2 = .ok (.putfield 29, 3) := by decide +kernel
theorem dX0_set_5 : decode cX0_set 5 = .ok (.aload_n 0, 1) := by decide +kernel
theorem dX0_set_6 : decode cX0_set 6 = .ok (.iload_n 2, 1) := by decide +kernel
theorem dX0_set_7 : decode cX0_set 7 = .ok (.putfield 33, 3) := by decide +kernel
theorem dX0_set_10 : decode cX0_set 10 = .ok (.aload_n 0, 1) := by decide +kernel
theorem dX0_set_11 : decode cX0_set 11 = .ok (.iload_n 3, 1) := by decide +kernel
theorem dX0_set_12 : decode cX0_set 12 = .ok (.putfield 36, 3) := by decide +kernel
theorem dX0_set_15 : decode cX0_set 15 = .ok (.return_, 1) := by decide +kernel
set_option maxRecDepth 20000 in
theorem ggX0_crossWith_X0_set : GoodIn wsX0_crossWith wsX0_set := goodIn_r _ [8, 3, 1, 2, 16, 17, 18] (by decide +kernel) (by decide +kernel)
set_option maxRecDepth 20000 in
theorem gX0_crossWith_X0_set : GoodIn wsX0_crossWith (wsV RX0 19 RX0 yX0_set wsX0_set) := goodIn_app (goodIn_of _ (by decide +kernel)) ggX0_crossWith_X0_set
theorem dX0_crossWith_0 : decode cX0_crossWith 0 = .ok (.aload_n 1, 1) := by decide +kernel
theorem dX0_crossWith_1 : decode cX0_crossWith 1 = .ok (.getfield 7, 3) := by decide +kernel
theorem dX0_crossWith_4 : decode cX0_crossWith 4 = .ok (.iload_n 2, 1) := by decide +kernel
theorem dX0_crossWith_5 : decode cX0_crossWith 5 = .ok (.iaload, 1) := by decide +kernel
theorem dX0_crossWith_6 : decode cX0_crossWith 6 = .ok (.istore_n 3, 1) := by decide +kernel
theorem dX0_crossWith_7 : decode cX0_crossWith 7 = .ok (.aload_n 1, 1) := by decide +kernel
theorem dX0_crossWith_8 : decode cX0_crossWith 8 = .ok (.getfield 13, 3) := by decide +kernel
theorem dX0_crossWith_11 : decode cX0_crossWith 11 = .ok (.iload_n 2, 1) := by decide +kernel
theorem dX0_crossWith_12 : decode cX0_crossWith 12 = .ok (.iaload, 1) := by decide +kernel
theorem dX0_crossWith_13 : decode cX0_crossWith 13 = .ok (.istore 4, 2) := by decide +kernel
theorem dX0_crossWith_15 : decode cX0_crossWith 15 = .ok (.aload_n 1, 1) := by decide +kernel
theorem dX0_crossWith_16 : decode cX0_crossWith 16 = .ok (.getfield 16, 3) := by decide +kernel
theorem dX0_crossWith_19 : decode cX0_crossWith 19 = .ok (.iload_n 2, 1) := by decide +kernel
theorem dX0_crossWith_20 : decode cX0_crossWith 20 = .ok (.iaload, 1) := by decide +kernel
theorem dX0_crossWith_21 : decode cX0_crossWith 21 = .ok (.istore 5, 2) := by decide +kernel
theorem dX0_crossWith_23 : decode cX0_crossWith 23 = .ok (.aload_n 0, 1) := by decide +kernel
theorem dX0_crossWith_24 : decode cX0_crossWith 24 = .ok (.aload_n 0, 1) := by decide +kernel
theorem dX0_crossWith_25 : decode cX0_crossWith 25 = .ok (.getfield 33, 3) := by decide +kernel
theorem dX0_crossWith_28 : decode cX0_crossWith 28 = .ok (.iload 5, 2) := by decide +kernel
theorem dX0_crossWith_30 : decode cX0_crossWith 30 = .ok (.imul, 1) := by decide +kernel
theorem dX0_crossWith_31 : decode cX0_crossWith 31 = .ok (.aload_n 0, 1) := by decide +kernel
theorem dX0_crossWith_32 : decode cX0_crossWith 32 = .ok (.getfield 36, 3) := by decide +kernel
theorem dX0_crossWith_35 : decode cX0_crossWith 35 = .ok (.iload 4, 2) := by decide +kernel
theorem dX0_crossWith_37 : decode cX0_crossWith 37 = .ok (.imul, 1) := by decide +kernel
theorem dX0_crossWith_38 : decode cX0_crossWith 38 = .ok (.isub, 1) := by decide +kernel
theorem dX0_crossWith_39 : decode cX0_crossWith 39 = .ok (.aload_n 0, 1) := by decide +kernel
theorem dX0_crossWith_40 : decode cX0_crossWith 40 = .ok (.getfield 36, 3) := by decide +kernel
theorem dX0_crossWith_43 : decode cX0_crossWith 43 = .ok (.iload_n 3, 1) := by decide +kernel
theorem dX0_crossWith_44 : decode cX0_crossWith 44 = .ok (.imul, 1) := by decide +kernel
theorem dX0_crossWith_45 : decode cX0_crossWith 45 = .ok (.aload_n 0, 1) := by decide +kernel
theorem dX0_crossWith_46 : decode cX0_crossWith 46 = .ok (.getfield 29, 3) := by decide +kernel
theorem dX0_crossWith_49 : decode cX0_crossWith 49 = .ok (.iload 5, 2) := by decide +kernel
theorem dX0_crossWith_51 : decode cX0_crossWith 51 = .ok (.imul, 1) := by decide +kernel
theorem dX0_crossWith_52 : decode cX0_crossWith 52 = .ok (.isub, 1) := by decide +kernel
theorem dX0_crossWith_53 : decode cX0_crossWith 53 = .ok (.aload_n 0, 1) := by decide +kernel
theorem dX0_crossWith_54 : decode cX0_crossWith 54 = .ok (.getfield 29, 3) := by decide +kernel
theorem dX0_crossWith_57 : decode cX0_crossWith 57 = .ok (.iload 4, 2) := by decide +kernel
theorem dX0_crossWith_59 : decode cX0_crossWith 59 = .ok (.imul, 1) := by decide +kernel
theorem dX0_crossWith_60 : decode cX0_crossWith 60 = .ok (.aload_n 0, 1) := by decide +kernel
theorem dX0_crossWith_61 : decode cX0_crossWith 61 = .ok (.getfield 33, 3) := by decide +kernel
theorem dX0_crossWith_64 : decode cX0_crossWith 64 = .ok (.iload_n 3, 1) := by decide +kernel
theorem dX0_crossWith_65 : decode cX0_crossWith 65 = .ok (.imul, 1) := by decide +kernel
theorem dX0_crossWith_66 : decode cX0_crossWith 66 = .ok (.isub, 1) := by decide +kernel
theorem dX0_crossWith_67 : decode cX0_crossWith 67 = .ok (.invokevirtual 19, 3) := by decide +kernel
theorem dX0_crossWith_70 : decode cX0_crossWith 70 = .ok (.return_, 1) := by decide +kernel
theorem dX0_climb_0 : decode cX0_climb 0 = .ok (.aload_n 1, 1) := by decide +kernel
theorem dX0_climb_1 : decode cX0_climb 1 = .ok (.getfield 7, 3) := by decide +kernel
theorem dX0_climb_4 : decode cX0_climb 4 = .ok (.iload_n 2, 1) := by decide +kernel
theorem dX0_climb_5 : decode cX0_climb 5 = .ok (.iaload, 1) := by decide +kernel
theorem dX0_climb_6 : decode cX0_climb 6 = .ok (.aload_n 0, 1) := by decide +kernel
theorem dX0_climb_7 : decode cX0_climb 7 = .ok (.getfield 29, 3) := by decide +kernel
theorem dX0_climb_10 : decode cX0_climb 10 = .ok (.imul, 1) := by decide +kernel
theorem dX0_climb_11 : decode cX0_climb 11 = .ok (.aload_n 1, 1) := by decide +kernel
theorem dX0_climb_12 : decode cX0_climb 12 = .ok (.getfield 13, 3) := by decide +kernel
theorem dX0_climb_15 : decode cX0_climb 15 = .ok (.iload_n 2, 1) := by decide +kernel
theorem dX0_climb_16 : decode cX0_climb 16 = .ok (.iaload, 1) := by decide +kernel
theorem dX0_climb_17 : decode cX0_climb 17 = .ok (.aload_n 0, 1) := by decide +kernel
theorem dX0_climb_18 : decode cX0_climb 18 = .ok (.getfield 33, 3) := by decide +kernel
theorem dX0_climb_21 : decode cX0_climb 21 = .ok (.imul, 1) := by decide +kernel
theorem dX0_climb_22 : decode cX0_climb 22 = .ok (.iadd, 1) := by decide +kernel
theorem dX0_climb_23 : decode cX0_climb 23 = .ok (.aload_n 1, 1) := by decide +kernel
theorem dX0_climb_24 : decode cX0_climb 24 = .ok (.getfield 16, 3) := by decide +kernel
theorem dX0_climb_27 : decode cX0_climb 27 = .ok (.iload_n 2, 1) := by decide +kernel
theorem dX0_climb_28 : decode cX0_climb 28 = .ok (.iaload, 1) := by decide +kernel
theorem dX0_climb_29 : decode cX0_climb 29 = .ok (.aload_n 0, 1) := by decide +kernel
theorem dX0_climb_30 : decode cX0_climb 30 = .ok (.getfield 36, 3) := by decide +kernel
theorem dX0_climb_33 : decode cX0_climb 33 = .ok (.imul, 1) := by decide +kernel
theorem dX0_climb_34 : decode cX0_climb 34 = .ok (.iadd, 1) := by decide +kernel
theorem dX0_climb_35 : decode cX0_climb 35 = .ok (.ireturn, 1) := by decide +kernel
theorem dX0_isNothing_0 : decode cX0_isNothing 0 = .ok (.aload_n 0, 1) := by decide +kernel
theorem dX0_isNothing_1 : decode cX0_isNothing 1 = .ok (.getfield 29, 3) := by decide +kernel
theorem dX0_isNothing_4 : decode cX0_isNothing 4 = .ok (.ifCond .ne 21, 3) := by decide +kernel
theorem dX0_isNothing_7 : decode cX0_isNothing 7 = .ok (.aload_n 0, 1) := by decide +kernel
theorem dX0_isNothing_8 : decode cX0_isNothing 8 = .ok (.getfield 33, 3) := by decide +kernel
theorem dX0_isNothing_11 : decode cX0_isNothing 11 = .ok (.ifCond .ne 14, 3) := by decide +kernel
theorem dX0_isNothing_14 : decode cX0_isNothing 14 = .ok (.aload_n 0, 1) := by decide +kernel
theorem dX0_isNothing_15 : decode cX0_isNothing 15 = .ok (.getfield 36, 3) := by decide +kernel
theorem dX0_isNothing_18 : decode cX0_isNothing 18 = .ok (.ifCond .ne 7, 3) := by decide +kernel
theorem dX0_isNothing_21 : decode cX0_isNothing 21 = .ok (.iconst 1, 1) := by decide +kernel
theorem dX0_isNothing_22 : decode cX0_isNothing 22 = .ok (.goto 4, 3) := by decide +kernel
theorem dX0_isNothing_25 : decode cX0_isNothing 25 = .ok (.iconst 0, 1) := by decide +kernel
theorem dX0_isNothing_26 : decode cX0_isNothing 26 = .ok (.ireturn, 1) := by decide +kernel
set_option maxRecDepth 20000 in
theorem ggX1_init_X0_init : GoodIn wsX1_init wsX0_init := goodIn_r _ [22, 23, 2, 3] (by decide +kernel) (by decide +kernel)
set_option maxRecDepth 20000 in
theorem gX1_init_X0_init_n32 : GoodIn wsX1_init (wsX0_init) := ggX1_init_X0_init
theorem dX1_init_0 : decode cX1_init 0 = .ok (.aload_n 0, 1) := by decide +kernel
theorem dX1_init_1 : decode cX1_init 1 = .ok (.invokespecial 3, 3) := by decide +kernel
theorem dX1_init_4 : decode cX1_init 4 = .ok (.aload_n 0, 1) := by decide +kernel
theorem dX1_init_5 : decode cX1_init 5 = .ok (.sipush 206, 3) := by decide +kernel
theorem dX1_init_8 : decode cX1_init 8 = .ok (.newarray .int, 2) := by decide +kernel
theorem dX1_init_10 : decode cX1_init 10 = .ok (.putfield 9, 3) := by decide +kernel
theorem dX1_init_13 : decode cX1_init 13 = .ok (.aload_n 0, 1) := by decide +kernel
theorem dX1_init_14 : decode cX1_init 14 = .ok (.sipush 577, 3) := by decide +kernel
theorem dX1_init_17 : decode cX1_init 17 = .ok (.newarray .int, 2) := by decide +kernel
theorem dX1_init_19 : decode cX1_init 19 = .ok (.putfield 15, 3) := by decide +kernel
theorem dX1_init_22 : decode cX1_init 22 = .ok (.aload_n 0, 1) := by decide +kernel
theorem dX1_init_23 : decode cX1_init 23 = .ok (.sipush 577, 3) := by decide +kernel
theorem dX1_init_26 : decode cX1_init 26 = .ok (.newarray .int, 2) := by decide +kernel
theorem dX1_init_28 : decode cX1_init 28 = .ok (.putfield 18, 3) := by decide +kernel
theorem dX1_init_31 : decode cX1_init 31 = .ok (.aload_n 0, 1) := by decide +kernel
theorem dX1_init_32 : decode cX1_init 32 = .ok (.sipush 577, 3) := by decide +kernel
theorem dX1_init_35 : decode cX1_init 35 = .ok (.newarray .int, 2) := by decide +kernel
theorem dX1_init_37 : decode cX1_init 37 = .ok (.putfield 21, 3) := by decide +kernel
theorem dX1_init_40 : decode cX1_init 40 = .ok (.aload_n 0, 1) := by decide +kernel
theorem dX1_init_41 : decode cX1_init 41 = .ok (.bipush 55, 2) := by decide +kernel
theorem dX1_init_43 : decode cX1_init 43 = .ok (.newarray .int, 2) := by decide +kernel
theorem dX1_init_45 : decode cX1_init 45 = .ok (.putfield 24, 3) := by decide +kernel
theorem dX1_init_48 : decode cX1_init 48 = .ok (.aload_n 0, 1) := by decide +kernel
theorem dX1_init_49 : decode cX1_init 49 = .ok (.bipush 55, 2) := by decide +kernel
theorem dX1_init_51 : decode cX1_init 51 = .ok (.newarray .int, 2) := by decide +kernel
theorem dX1_init_53 : decode cX1_init 53 = .ok (.putfield 27, 3) := by decide +kernel
theorem dX1_init_56 : decode cX1_init 56 = .ok (.aload_n 0, 1) := by decide +kernel
theorem dX1_init_57 : decode cX1_init 57 = .ok (.new 30, 3) := by decide +kernel
theorem dX1_init_60 : decode cX1_init 60 = .ok (.dup, 1) := by decide +kernel
theorem dX1_init_61 : decode cX1_init 61 = .ok (.invokespecial 32, 3) := by decide +kernel
theorem dX1_init_64 : decode cX1_init 64 = .ok (.putfield 33, 3) := by decide +kernel
theorem dX1_init_67 : decode cX1_init 67 = .ok (.aload_n 0, 1) := by decide +kernel
theorem dX1_init_68 : decode cX1_init 68 = .ok (.new 30, 3) := by decide +kernel
theorem dX1_init_71 : decode cX1_init 71 = .ok (.dup, 1) := by decide +kernel
theorem dX1_init_72 : decode cX1_init 72 = .ok (.invokespecial 32, 3) := by decide +kernel
theorem dX1_init_75 : decode cX1_init 75 = .ok (.putfield 37, 3) := by decide +kernel
theorem dX1_init_78 : decode cX1_init 78 = .ok (.aload_n 0, 1) := by decide +kernel
theorem dX1_init_79 : decode cX1_init 79 = .ok (.new 30, 3) := by decide +kernel
theorem dX1_init_82 : decode cX1_init 82 = .ok (.dup, 1) := by decide +kernel
theorem dX1_init_83 : decode cX1_init 83 = .ok (.invokespecial 32, 3) := by decide +kernel
theorem dX1_init_86 : decode cX1_init 86 = .ok (.putfield 40, 3) := by decide +kernel
theorem dX1_init_89 : decode cX1_init 89 = .ok (.aload_n 0, 1) := by decide +kernel
theorem dX1_init_90 : decode cX1_init 90 = .ok (.aload_n 1, 1) := by decide +kernel
theorem dX1_init_91 : decode cX1_init 91 = .ok (.putfield 43, 3) := by decide +kernel
theorem dX1_init_94 : decode cX1_init 94 = .ok (.aload_n 0, 1) := by decide +kernel
theorem dX1_init_95 : decode cX1_init 95 = .ok (.aload_n 2, 1) := by decide +kernel
theorem dX1_init_96 : decode cX1_init 96 = .ok (.putfield 47, 3) := by decide +kernel
theorem dX1_init_99 : decode cX1_init 99 = .ok (.aload_n 0, 1) := by decide +kernel
theorem dX1_init_100 : decode cX1_init 100 = .ok (.iconst 0, 1) := by decide +kernel
theorem dX1_init_101 : decode cX1_init 101 = .ok (.putfield 51, 3) := by decide +kernel
theorem dX1_init_104 : decode cX1_init 104 = .ok (.aload_n 0, 1) := by decide +kernel
theorem dX1_init_105 : decode cX1_init 105 = .ok (.iconst 0, 1) := by decide +kernel
theorem dX1_init_106 : decode cX1_init 106 = .ok (.putfield 55, 3) := by decide +kernel
theorem dX1_init_109 : decode cX1_init 109 = .ok (.return_, 1) := by decide +kernel
set_option maxRecDepth 20000 in
theorem ggX1_cutAnew_J7_fill_53178 : GoodIn wsX1_cutAnew wsJ7_fill_53178 := goodIn_r _ [9] (by decide +kernel) (by decide +kernel)
set_option maxRecDepth 20000 in
theorem gX1_cutAnew_J7_fill_53178 : GoodIn wsX1_cutAnew (va_wsS RX1 58 yJ7_fill_53178 wsJ7_fill_53178) := goodIn_app (goodIn_of _ (by decide +kernel)) ggX1_cutAnew_J7_fill_53178
set_option maxRecDepth 20000 in
theorem ggX1_cutAnew_X2_forgetCommon : GoodIn wsX1_cutAnew wsX2_forgetCommon := goodIn_r _ [14, 15, 146, 147, 148, 149, 150, 151, 152] (by decide +kernel) (by decide +kernel)
set_option maxRecDepth 20000 in
theorem gX1_cutAnew_X2_forgetCommon : GoodIn wsX1_cutAnew (wsV RX1 64 RX2 yX2_forgetCommon wsX2_forgetCommon) := goodIn_app (goodIn_of _ (by decide +kernel)) ggX1_cutAnew_X2_forgetCommon
set_option maxRecDepth 20000 in
theorem ggX1_cutAnew_X2_rankAnew : GoodIn wsX1_cutAnew wsX2_rankAnew := goodIn_r _ [19, 20, 21, 22, 23, 13, 24, 25, 26, 27, 28, 29, 30, 31, 32, 33, 34, 35, 36, 37, 38, 39, 40, 41, 42, 43, 44, 45, 46, 47, 48, 49, 50, 146, 147, 148, 149, 150, 151, 152, 153, 154, 155, 156, 157, 158, 159, 160, 161, 162] (by decide +kernel) (by decide +kernel)
set_option maxRecDepth 20000 in
theorem gX1_cutAnew_X2_rankAnew : GoodIn wsX1_cutAnew (wsV RX1 69 RX2 yX2_rankAnew wsX2_rankAnew) := goodIn_app (goodIn_of _ (by decide +kernel)) ggX1_cutAnew_X2_rankAnew
set_option maxRecDepth 20000 in
theorem ggX1_cutAnew_X1_crossPlanes : GoodIn wsX1_cutAnew wsX1_crossPlanes := goodIn_r _ [55, 4, 56, 57, 58, 59, 60, 13, 61, 25, 20, 62, 63, 64, 65, 66, 67, 68, 69, 70, 71, 72, 73, 74, 33, 75, 42, 31, 32, 34, 35, 36, 37, 76, 39, 40, 41, 77, 44, 45, 46, 78, 79, 80, 54, 81, 3, 82, 83, 84, 85, 86, 87, 88, 89, 90, 91, 92, 93, 94, 95, 96, 97, 98, 99, 100, 101, 102, 103, 48, 49, 50, 104, 105, 106, 107, 2, 1, 5, 108, 109, 110, 111, 112, 113, 114, 115, 116, 133, 134, 135, 136, 137, 138, 139, 140, 141, 142, 143, 144, 145, 153, 154, 155, 156, 157, 158, 159, 146, 147, 148, 149, 150, 151, 152, 160, 161, 162] (by decide +kernel) (by decide +kernel)
set_option maxRecDepth 20000 in
theorem gX1_cutAnew_X1_crossPlanes : GoodIn wsX1_cutAnew (wsV RX1 72 RX1 yX1_crossPlanes wsX1_crossPlanes) := goodIn_app (goodIn_of _ (by decide +kernel)) ggX1_cutAnew_X1_crossPlanes
set_option maxRecDepth 20000 in
theorem ggX1_cutAnew_X1_moveFrom : GoodIn wsX1_cutAnew wsX1_moveFrom := goodIn_r _ [120, 3, 82, 83, 4, 92, 93, 94, 95, 96, 104, 105, 106, 54, 107, 56, 2, 1, 5, 108, 109, 110, 65, 111, 112, 113, 114, 115, 116, 133, 134, 135, 136, 137, 138, 139, 140, 141, 142, 143, 144, 145, 146, 147, 148, 149, 150, 151, 152, 153, 154, 155, 156, 157, 158, 159] (by decide +kernel) (by decide +kernel)
set_option maxRecDepth 20000 in
theorem gX1_cutAnew_X1_moveFrom : GoodIn wsX1_cutAnew (wsV RX1 75 RX1 yX1_moveFrom wsX1_moveFrom) := goodIn_app (goodIn_of _ (by decide +kernel)) ggX1_cutAnew_X1_moveFrom
set_option maxRecDepth 20000 in
theorem ggX1_cutAnew_X1_sortRows : GoodIn wsX1_cutAnew wsX1_sortRows := goodIn_r _ [124, 2, 125, 126, 56, 4, 113, 114, 115, 54, 116, 1, 127, 93, 128, 133, 134, 135, 136, 137, 138, 139, 140, 141, 142, 143, 144, 145, 153, 154, 155, 156, 157, 158, 159, 146, 147, 148, 149, 150, 151, 152] (by decide +kernel) (by decide +kernel)
set_option maxRecDepth 20000 in
theorem gX1_cutAnew_X1_sortRows : GoodIn wsX1_cutAnew (wsV RX1 79 RX1 yX1_sortRows wsX1_sortRows) := goodIn_app (goodIn_of _ (by decide +kernel)) ggX1_cutAnew_X1_sortRows
set_option maxRecDepth 20000 in
theorem ggX1_cutAnew_X2_shareDown : GoodIn wsX1_cutAnew wsX2_shareDown := goodIn_r _ [132, 20, 15, 146, 147, 148, 149, 150, 151, 152, 153, 154, 155, 156, 157, 158, 159] (by decide +kernel) (by decide +kernel)
set_option maxRecDepth 20000 in
theorem gX1_cutAnew_X2_shareDown : GoodIn wsX1_cutAnew (wsV RX1 82 RX2 yX2_shareDown wsX2_shareDown) := goodIn_app (goodIn_of _ (by decide +kernel)) ggX1_cutAnew_X2_shareDown
theorem dX1_cutAnew_0 : decode cX1_cutAnew 0 = .ok (.aload_n 0, 1) := by decide +kernel
theorem dX1_cutAnew_1 : decode cX1_cutAnew 1 = .ok (.getfield 9, 3) := by decide +kernel
theorem dX1_cutAnew_4 : decode cX1_cutAnew 4 = .ok (.iconst 0, 1) := by decide +kernel
theorem dX1_cutAnew_5 : decode cX1_cutAnew 5 = .ok (.invokestatic 58, 3) := by decide +kernel
theorem dX1_cutAnew_8 : decode cX1_cutAnew 8 = .ok (.aload_n 0, 1) := by decide +kernel
theorem dX1_cutAnew_9 : decode cX1_cutAnew 9 = .ok (.iconst 0, 1) := by decide +kernel
theorem dX1_cutAnew_10 : decode cX1_cutAnew 10 = .ok (.putfield 51, 3) := by decide +kernel
theorem dX1_cutAnew_13 : decode cX1_cutAnew 13 = .ok (.aload_n 0, 1) := by decide +kernel
theorem dX1_cutAnew_14 : decode cX1_cutAnew 14 = .ok (.iconst 0, 1) := by decide +kernel
theorem dX1_cutAnew_15 : decode cX1_cutAnew 15 = .ok (.putfield 55, 3) := by decide +kernel
theorem dX1_cutAnew_18 : decode cX1_cutAnew 18 = .ok (.aload_n 0, 1) := by decide +kernel
theorem dX1_cutAnew_19 : decode cX1_cutAnew 19 = .ok (.getfield 47, 3) := by decide +kernel
theorem dX1_cutAnew_22 : decode cX1_cutAnew 22 = .ok (.invokevirtual 64, 3) := by decide +kernel
theorem dX1_cutAnew_25 : decode cX1_cutAnew 25 = .ok (.aload_n 0, 1) := by decide +kernel
theorem dX1_cutAnew_26 : decode cX1_cutAnew 26 = .ok (.getfield 47, 3) := by decide +kernel
theorem dX1_cutAnew_29 : decode cX1_cutAnew 29 = .ok (.invokevirtual 69, 3) := by decide +kernel
theorem dX1_cutAnew_32 : decode cX1_cutAnew 32 = .ok (.aload_n 0, 1) := by decide +kernel
theorem dX1_cutAnew_33 : decode cX1_cutAnew 33 = .ok (.invokevirtual 72, 3) := by decide +kernel
theorem dX1_cutAnew_36 : decode cX1_cutAnew 36 = .ok (.iconst 0, 1) := by decide +kernel
theorem dX1_cutAnew_37 : decode cX1_cutAnew 37 = .ok (.istore_n 1, 1) := by decide +kernel
theorem dX1_cutAnew_38 : decode cX1_cutAnew 38 = .ok (.iload_n 1, 1) := by decide +kernel
theorem dX1_cutAnew_39 : decode cX1_cutAnew 39 = .ok (.sipush 577, 3) := by decide +kernel
theorem dX1_cutAnew_42 : decode cX1_cutAnew 42 = .ok (.if_icmp .ge 27, 3) := by decide +kernel
theorem dX1_cutAnew_45 : decode cX1_cutAnew 45 = .ok (.iload_n 1, 1) := by decide +kernel
theorem dX1_cutAnew_46 : decode cX1_cutAnew 46 = .ok (.aload_n 0, 1) := by decide +kernel
theorem dX1_cutAnew_47 : decode cX1_cutAnew 47 = .ok (.getfield 51, 3) := by decide +kernel
theorem dX1_cutAnew_50 : decode cX1_cutAnew 50 = .ok (.if_icmp .ge 19, 3) := by decide +kernel
theorem dX1_cutAnew_53 : decode cX1_cutAnew 53 = .ok (.aload_n 0, 1) := by decide +kernel
theorem dX1_cutAnew_54 : decode cX1_cutAnew 54 = .ok (.aload_n 0, 1) := by decide +kernel
theorem dX1_cutAnew_55 : decode cX1_cutAnew 55 = .ok (.getfield 15, 3) := by decide +kernel
theorem dX1_cutAnew_58 : decode cX1_cutAnew 58 = .ok (.iload_n 1, 1) := by decide +kernel
theorem dX1_cutAnew_59 : decode cX1_cutAnew 59 = .ok (.iaload, 1) := by decide +kernel
theorem dX1_cutAnew_60 : decode cX1_cutAnew 60 = .ok (.invokevirtual 75, 3) := by decide +kernel
theorem dX1_cutAnew_63 : decode cX1_cutAnew 63 = .ok (.iinc 1 1, 3) := by decide +kernel
theorem dX1_cutAnew_66 : decode cX1_cutAnew 66 = .ok (.goto (-28), 3) := by decide +kernel
theorem dX1_cutAnew_69 : decode cX1_cutAnew 69 = .ok (.aload_n 0, 1) := by decide +kernel
theorem dX1_cutAnew_70 : decode cX1_cutAnew 70 = .ok (.invokevirtual 79, 3) := by decide +kernel
theorem dX1_cutAnew_73 : decode cX1_cutAnew 73 = .ok (.aload_n 0, 1) := by decide +kernel
theorem dX1_cutAnew_74 : decode cX1_cutAnew 74 = .ok (.getfield 47, 3) := by decide +kernel
theorem dX1_cutAnew_77 : decode cX1_cutAnew 77 = .ok (.invokevirtual 82, 3) := by decide +kernel
theorem dX1_cutAnew_80 : decode cX1_cutAnew 80 = .ok (.return_, 1) := by decide +kernel
set_option maxRecDepth 20000 in
theorem ggX1_crossPlanes_X2_rankOfAll : GoodIn wsX1_crossPlanes wsX2_rankOfAll := goodIn_r _ [8, 9, 10, 108, 109, 110, 111, 112, 113, 114, 101, 102, 103, 104, 105, 106, 107] (by decide +kernel) (by decide +kernel)
set_option maxRecDepth 20000 in
theorem gX1_crossPlanes_X2_rankOfAll : GoodIn wsX1_crossPlanes (wsV RX1 85 RX2 yX2_rankOfAll wsX2_rankOfAll) := goodIn_app (goodIn_of _ (by decide +kernel)) ggX1_crossPlanes_X2_rankOfAll
set_option maxRecDepth 20000 in
theorem ggX1_crossPlanes_X3_indexOf : GoodIn wsX1_crossPlanes wsX3_indexOf := goodIn_r _ [15, 16, 17, 18, 19, 20, 101, 102, 103, 104, 105, 106, 107] (by decide +kernel) (by decide +kernel)
set_option maxRecDepth 20000 in
theorem gX1_crossPlanes_X3_indexOf : GoodIn wsX1_crossPlanes (wsV RX1 94 RX3 yX3_indexOf wsX3_indexOf) := goodIn_app (goodIn_of _ (by decide +kernel)) ggX1_crossPlanes_X3_indexOf
set_option maxRecDepth 20000 in
theorem ggX1_crossPlanes_X0_alongBoth : GoodIn wsX1_crossPlanes wsX0_alongBoth := goodIn_r _ [25, 26, 27, 28, 24, 29, 30, 31, 32, 33, 34, 35, 36, 101, 102, 103, 104, 105, 106, 107, 115, 116, 117] (by decide +kernel) (by decide +kernel)
set_option maxRecDepth 20000 in
theorem gX1_crossPlanes_X0_alongBoth : GoodIn wsX1_crossPlanes (wsV RX1 98 RX0 yX0_alongBoth wsX0_alongBoth) := goodIn_app (goodIn_of _ (by decide +kernel)) ggX1_crossPlanes_X0_alongBoth
set_option maxRecDepth 20000 in
theorem ggX1_crossPlanes_X0_isNothing : GoodIn wsX1_crossPlanes wsX0_isNothing := goodIn_r _ [40, 30, 31, 32, 115, 116, 117] (by decide +kernel) (by decide +kernel)
set_option maxRecDepth 20000 in
theorem gX1_crossPlanes_X0_isNothing : GoodIn wsX1_crossPlanes (wsV RX1 102 RX0 yX0_isNothing wsX0_isNothing) := goodIn_app (goodIn_of _ (by decide +kernel)) ggX1_crossPlanes_X0_isNothing
set_option maxRecDepth 20000 in
theorem ggX1_crossPlanes_X1_noteLine : GoodIn wsX1_crossPlanes wsX1_noteLine := goodIn_r _ [45, 2, 3, 46, 47, 48, 49, 50, 51, 14, 52, 16, 53, 54, 55, 56, 57, 58, 59, 60, 61, 88, 89, 90, 91, 92, 93, 94, 95, 96, 97, 98, 99, 100, 101, 102, 103, 104, 105, 106, 107, 115, 116, 117] (by decide +kernel) (by decide +kernel)
set_option maxRecDepth 20000 in
theorem gX1_crossPlanes_X1_noteLine : GoodIn wsX1_crossPlanes (wsV RX1 106 RX1 yX1_noteLine wsX1_noteLine) := goodIn_app (goodIn_of _ (by decide +kernel)) ggX1_crossPlanes_X1_noteLine
set_option maxRecDepth 20000 in
theorem ggX1_crossPlanes_X1_noteCorner : GoodIn wsX1_crossPlanes wsX1_noteCorner := goodIn_r _ [65, 3, 2, 66, 67, 68, 69, 70, 24, 71, 30, 31, 32, 21, 22, 23, 25, 26, 27, 28, 29, 33, 34, 35, 36, 49, 50, 51, 14, 52, 16, 53, 54, 55, 56, 72, 73, 74, 44, 75, 76, 77, 78, 1, 79, 80, 81, 82, 83, 57, 58, 59, 60, 61, 84, 85, 86, 87, 88, 89, 90, 91, 92, 93, 94, 95, 96, 97, 98, 99, 100, 101, 102, 103, 104, 105, 106, 107, 115, 116, 117, 108, 109, 110, 111, 112, 113, 114] (by decide +kernel) (by decide +kernel)
set_option maxRecDepth 20000 in
theorem gX1_crossPlanes_X1_noteCorner : GoodIn wsX1_crossPlanes (wsV RX1 109 RX1 yX1_noteCorner wsX1_noteCorner) := goodIn_app (goodIn_of _ (by decide +kernel)) ggX1_crossPlanes_X1_noteCorner
theorem dX1_crossPlanes_0 : decode cX1_crossPlanes 0 = .ok (.aload_n 0, 1) := by decide +kernel
theorem dX1_crossPlanes_1 : decode cX1_crossPlanes 1 = .ok (.getfield 47, 3) := by decide +kernel
theorem dX1_crossPlanes_4 : decode cX1_crossPlanes 4 = .ok (.invokevirtual 85, 3) := by decide +kernel
theorem dX1_crossPlanes_7 : decode cX1_crossPlanes 7 = .ok (.iconst 3, 1) := by decide +kernel
theorem dX1_crossPlanes_8 : decode cX1_crossPlanes 8 = .ok (.if_icmp .ne 13, 3) := by decide +kernel
theorem dX1_crossPlanes_11 : decode cX1_crossPlanes 11 = .ok (.aload_n 0, 1) := by decide +kernel
theorem dX1_crossPlanes_12 : decode cX1_crossPlanes 12 = .ok (.getfield 43, 3) := by decide +kernel
theorem dX1_crossPlanes_15 : decode cX1_crossPlanes 15 = .ok (.getfield 89, 3) := by decide +kernel
theorem dX1_crossPlanes_18 : decode cX1_crossPlanes 18 = .ok (.goto 12, 3) := by decide +kernel
theorem dX1_crossPlanes_21 : decode cX1_crossPlanes 21 = .ok (.aload_n 0, 1) := by decide +kernel
theorem dX1_crossPlanes_22 : decode cX1_crossPlanes 22 = .ok (.getfield 43, 3) := by decide +kernel
theorem dX1_crossPlanes_25 : decode cX1_crossPlanes 25 = .ok (.getfield 89, 3) := by decide +kernel
theorem dX1_crossPlanes_28 : decode cX1_crossPlanes 28 = .ok (.iconst 3, 1) := by decide +kernel
theorem dX1_crossPlanes_29 : decode cX1_crossPlanes 29 = .ok (.iadd, 1) := by decide +kernel
theorem dX1_crossPlanes_30 : decode cX1_crossPlanes 30 = .ok (.istore_n 1, 1) := by decide +kernel
theorem dX1_crossPlanes_31 : decode cX1_crossPlanes 31 = .ok (.iconst 0, 1) := by decide +kernel
theorem dX1_crossPlanes_32 : decode cX1_crossPlanes 32 = .ok (.istore_n 2, 1) := by decide +kernel
theorem dX1_crossPlanes_33 : decode cX1_crossPlanes 33 = .ok (.iload_n 2, 1) := by decide +kernel
theorem dX1_crossPlanes_34 : decode cX1_crossPlanes 34 = .ok (.iload_n 1, 1) := by decide +kernel
theorem dX1_crossPlanes_35 : decode cX1_crossPlanes 35 = .ok (.if_icmp .ge 114, 3) := by decide +kernel
theorem dX1_crossPlanes_38 : decode cX1_crossPlanes 38 = .ok (.iload_n 2, 1) := by decide +kernel
theorem dX1_crossPlanes_39 : decode cX1_crossPlanes 39 = .ok (.iconst 1, 1) := by decide +kernel
theorem dX1_crossPlanes_40 : decode cX1_crossPlanes 40 = .ok (.iadd, 1) := by decide +kernel
theorem dX1_crossPlanes_41 : decode cX1_crossPlanes 41 = .ok (.istore_n 3, 1) := by decide +kernel
theorem dX1_crossPlanes_42 : decode cX1_crossPlanes 42 = .ok (.iload_n 3, 1) := by decide +kernel
theorem dX1_crossPlanes_43 : decode cX1_crossPlanes 43 = .ok (.iload_n 1, 1) := by decide +kernel
theorem dX1_crossPlanes_44 : decode cX1_crossPlanes 44 = .ok (.if_icmp .ge 99, 3) := by decide +kernel
theorem dX1_crossPlanes_47 : decode cX1_crossPlanes 47 = .ok (.aload_n 0, 1) := by decide +kernel
theorem dX1_crossPlanes_48 : decode cX1_crossPlanes 48 = .ok (.getfield 33, 3) := by decide +kernel
theorem dX1_crossPlanes_51 : decode cX1_crossPlanes 51 = .ok (.aload_n 0, 1) := by decide +kernel
theorem dX1_crossPlanes_52 : decode cX1_crossPlanes 52 = .ok (.getfield 43, 3) := by decide +kernel
theorem dX1_crossPlanes_55 : decode cX1_crossPlanes 55 = .ok (.aload_n 0, 1) := by decide +kernel
theorem dX1_crossPlanes_56 : decode cX1_crossPlanes 56 = .ok (.getfield 43, 3) := by decide +kernel
theorem dX1_crossPlanes_59 : decode cX1_crossPlanes 59 = .ok (.iload_n 2, 1) := by decide +kernel
theorem dX1_crossPlanes_60 : decode cX1_crossPlanes 60 = .ok (.invokevirtual 94, 3) := by decide +kernel
theorem dX1_crossPlanes_63 : decode cX1_crossPlanes 63 = .ok (.aload_n 0, 1) := by decide +kernel
theorem dX1_crossPlanes_64 : decode cX1_crossPlanes 64 = .ok (.getfield 43, 3) := by decide +kernel
theorem dX1_crossPlanes_67 : decode cX1_crossPlanes 67 = .ok (.iload_n 3, 1) := by decide +kernel
theorem dX1_crossPlanes_68 : decode cX1_crossPlanes 68 = .ok (.invokevirtual 94, 3) := by decide +kernel
theorem dX1_crossPlanes_71 : decode cX1_crossPlanes 71 = .ok (.invokevirtual 98, 3) := by decide +kernel
theorem dX1_crossPlanes_74 : decode cX1_crossPlanes 74 = .ok (.aload_n 0, 1) := by decide +kernel
theorem dX1_crossPlanes_75 : decode cX1_crossPlanes 75 = .ok (.getfield 33, 3) := by decide +kernel
theorem dX1_crossPlanes_78 : decode cX1_crossPlanes 78 = .ok (.invokevirtual 102, 3) := by decide +kernel
theorem dX1_crossPlanes_81 : decode cX1_crossPlanes 81 = .ok (.ifCond .eq 6, 3) := by decide +kernel
theorem dX1_crossPlanes_84 : decode cX1_crossPlanes 84 = .ok (.goto 53, 3) := by decide +kernel
theorem dX1_crossPlanes_87 : decode cX1_crossPlanes 87 = .ok (.aload_n 0, 1) := by decide +kernel
theorem dX1_crossPlanes_88 : decode cX1_crossPlanes 88 = .ok (.invokevirtual 106, 3) := by decide +kernel
theorem dX1_crossPlanes_91 : decode cX1_crossPlanes 91 = .ok (.iload_n 3, 1) := by decide +kernel
theorem dX1_crossPlanes_92 : decode cX1_crossPlanes 92 = .ok (.iconst 1, 1) := by decide +kernel
theorem dX1_crossPlanes_93 : decode cX1_crossPlanes 93 = .ok (.iadd, 1) := by decide +kernel
theorem dX1_crossPlanes_94 : decode cX1_crossPlanes 94 = .ok (.istore 4, 2) := by decide +kernel
theorem dX1_crossPlanes_96 : decode cX1_crossPlanes 96 = .ok (.iload 4, 2) := by decide +kernel
theorem dX1_crossPlanes_98 : decode cX1_crossPlanes 98 = .ok (.iload_n 1, 1) := by decide +kernel
theorem dX1_crossPlanes_99 : decode cX1_crossPlanes 99 = .ok (.if_icmp .ge 38, 3) := by decide +kernel
theorem dX1_crossPlanes_102 : decode cX1_crossPlanes 102 = .ok (.aload_n 0, 1) := by decide +kernel
theorem dX1_crossPlanes_103 : decode cX1_crossPlanes 103 = .ok (.aload_n 0, 1) := by decide +kernel
theorem dX1_crossPlanes_104 : decode cX1_crossPlanes 104 = .ok (.getfield 43, 3) := by decide +kernel
theorem dX1_crossPlanes_107 : decode cX1_crossPlanes 107 = .ok (.iload_n 2, 1) := by decide +kernel
theorem dX1_crossPlanes_108 : decode cX1_crossPlanes 108 = .ok (.invokevirtual 94, 3) := by decide +kernel
theorem dX1_crossPlanes_111 : decode cX1_crossPlanes 111 = .ok (.aload_n 0, 1) := by decide +kernel
theorem dX1_crossPlanes_112 : decode cX1_crossPlanes 112 = .ok (.getfield 43, 3) := by decide +kernel
theorem dX1_crossPlanes_115 : decode cX1_crossPlanes 115 = .ok (.iload_n 3, 1) := by decide +kernel
theorem dX1_crossPlanes_116 : decode cX1_crossPlanes 116 = .ok (.invokevirtual 94, 3) := by decide +kernel
theorem dX1_crossPlanes_119 : decode cX1_crossPlanes 119 = .ok (.aload_n 0, 1) := by decide +kernel
theorem dX1_crossPlanes_120 : decode cX1_crossPlanes 120 = .ok (.getfield 43, 3) := by decide +kernel
theorem dX1_crossPlanes_123 : decode cX1_crossPlanes 123 = .ok (.iload 4, 2) := by decide +kernel
theorem dX1_crossPlanes_125 : decode cX1_crossPlanes 125 = .ok (.invokevirtual 94, 3) := by decide +kernel
theorem dX1_crossPlanes_128 : decode cX1_crossPlanes 128 = .ok (.invokevirtual 109, 3) := by decide +kernel
theorem dX1_crossPlanes_131 : decode cX1_crossPlanes 131 = .ok (.iinc 4 1, 3) := by decide +kernel
theorem dX1_crossPlanes_134 : decode cX1_crossPlanes 134 = .ok (.goto (-38), 3) := by decide +kernel
theorem dX1_crossPlanes_137 : decode cX1_crossPlanes 137 = .ok (.iinc 3 1, 3) := by decide +kernel
theorem dX1_crossPlanes_140 : decode cX1_crossPlanes 140 = .ok (.goto (-98), 3) := by decide +kernel
theorem dX1_crossPlanes_143 : decode cX1_crossPlanes 143 = .ok (.iinc 2 1, 3) := by decide +kernel
theorem dX1_crossPlanes_146 : decode cX1_crossPlanes 146 = .ok (.goto (-113), 3) := by decide +kernel
theorem dX1_crossPlanes_149 : decode cX1_crossPlanes 149 = .ok (.return_, 1) := by decide +kernel
set_option maxRecDepth 20000 in
theorem ggX1_noteLine_X3_signs : GoodIn wsX1_noteLine wsX3_signs := goodIn_r _ [10, 11, 12, 13, 14, 15, 34, 35, 36, 37, 38, 39, 40] (by decide +kernel) (by decide +kernel)
set_option maxRecDepth 20000 in
theorem gX1_noteLine_X3_signs : GoodIn wsX1_noteLine (wsV RX1 122 RX3 yX3_signs wsX3_signs) := goodIn_app (goodIn_of _ (by decide +kernel)) ggX1_noteLine_X3_signs
set_option maxRecDepth 20000 in
theorem ggX1_noteLine_X5_onMask : GoodIn wsX1_noteLine wsX5_onMask := goodIn_r _ [18] (by decide +kernel) (by decide +kernel)
set_option maxRecDepth 20000 in
theorem gX1_noteLine_X5_onMask_n126 : GoodIn wsX1_noteLine (wsX5_onMask) := ggX1_noteLine_X5_onMask
set_option maxRecDepth 20000 in
theorem ggX1_noteLine_X5_aboveMask : GoodIn wsX1_noteLine wsX5_aboveMask := goodIn_r _ [20] (by decide +kernel) (by decide +kernel)
set_option maxRecDepth 20000 in
theorem gX1_noteLine_X5_aboveMask_n129 : GoodIn wsX1_noteLine (wsX5_aboveMask) := ggX1_noteLine_X5_aboveMask
theorem dX1_noteLine_0 : decode cX1_noteLine 0 = .ok (.iconst 1, 1) := by decide +kernel
theorem dX1_noteLine_1 : decode cX1_noteLine 1 = .ok (.aload_n 0, 1) := by decide +kernel
theorem dX1_noteLine_2 : decode cX1_noteLine 2 = .ok (.getfield 43, 3) := by decide +kernel
theorem dX1_noteLine_5 : decode cX1_noteLine 5 = .ok (.getfield 89, 3) := by decide +kernel
theorem dX1_noteLine_8 : decode cX1_noteLine 8 = .ok (.ishl, 1) := by decide +kernel
theorem dX1_noteLine_9 : decode cX1_noteLine 9 = .ok (.iconst 1, 1) := by decide +kernel
theorem dX1_noteLine_10 : decode cX1_noteLine 10 = .ok (.isub, 1) := by decide +kernel
theorem dX1_noteLine_11 : decode cX1_noteLine 11 = .ok (.istore_n 1, 1) := by decide +kernel
theorem dX1_noteLine_12 : decode cX1_noteLine 12 = .ok (.aload_n 0, 1) := by decide +kernel
theorem dX1_noteLine_13 : decode cX1_noteLine 13 = .ok (.getfield 43, 3) := by decide +kernel
theorem dX1_noteLine_16 : decode cX1_noteLine 16 = .ok (.aload_n 0, 1) := by decide +kernel
theorem dX1_noteLine_17 : decode cX1_noteLine 17 = .ok (.getfield 33, 3) := by decide +kernel
theorem dX1_noteLine_20 : decode cX1_noteLine 20 = .ok (.getfield 113, 3) := by decide +kernel
theorem dX1_noteLine_23 : decode cX1_noteLine 23 = .ok (.aload_n 0, 1) := by decide +kernel
theorem dX1_noteLine_24 : decode cX1_noteLine 24 = .ok (.getfield 33, 3) := by decide +kernel
theorem dX1_noteLine_27 : decode cX1_noteLine 27 = .ok (.getfield 116, 3) := by decide +kernel
theorem dX1_noteLine_30 : decode cX1_noteLine 30 = .ok (.aload_n 0, 1) := by decide +kernel
theorem dX1_noteLine_31 : decode cX1_noteLine 31 = .ok (.getfield 33, 3) := by decide +kernel
theorem dX1_noteLine_34 : decode cX1_noteLine 34 = .ok (.getfield 119, 3) := by decide +kernel
theorem dX1_noteLine_37 : decode cX1_noteLine 37 = .ok (.iconst 0, 1) := by decide +kernel
theorem dX1_noteLine_38 : decode cX1_noteLine 38 = .ok (.invokevirtual 122, 3) := by decide +kernel
theorem dX1_noteLine_41 : decode cX1_noteLine 41 = .ok (.istore_n 2, 1) := by decide +kernel
theorem dX1_noteLine_42 : decode cX1_noteLine 42 = .ok (.iload_n 2, 1) := by decide +kernel
theorem dX1_noteLine_43 : decode cX1_noteLine 43 = .ok (.invokestatic 126, 3) := by decide +kernel
theorem dX1_noteLine_46 : decode cX1_noteLine 46 = .ok (.istore_n 3, 1) := by decide +kernel
theorem dX1_noteLine_47 : decode cX1_noteLine 47 = .ok (.iload_n 2, 1) := by decide +kernel
theorem dX1_noteLine_48 : decode cX1_noteLine 48 = .ok (.invokestatic 129, 3) := by decide +kernel
theorem dX1_noteLine_51 : decode cX1_noteLine 51 = .ok (.istore 4, 2) := by decide +kernel
theorem dX1_noteLine_53 : decode cX1_noteLine 53 = .ok (.iload_n 3, 1) := by decide +kernel
theorem dX1_noteLine_54 : decode cX1_noteLine 54 = .ok (.iload_n 1, 1) := by decide +kernel
theorem dX1_noteLine_55 : decode cX1_noteLine 55 = .ok (.if_icmp .eq 12, 3) := by decide +kernel
theorem dX1_noteLine_58 : decode cX1_noteLine 58 = .ok (.aload_n 0, 1) := by decide +kernel
theorem dX1_noteLine_59 : decode cX1_noteLine 59 = .ok (.getfield 55, 3) := by decide +kernel
theorem dX1_noteLine_62 : decode cX1_noteLine 62 = .ok (.bipush 55, 2) := by decide +kernel
theorem dX1_noteLine_64 : decode cX1_noteLine 64 = .ok (.if_icmp .lt 4, 3) := by decide +kernel
theorem dX1_noteLine_67 : decode cX1_noteLine 67 = .ok (.return_, 1) := by decide +kernel
theorem dX1_noteLine_68 : decode cX1_noteLine 68 = .ok (.aload_n 0, 1) := by decide +kernel
theorem dX1_noteLine_69 : decode cX1_noteLine 69 = .ok (.getfield 24, 3) := by decide +kernel
theorem dX1_noteLine_72 : decode cX1_noteLine 72 = .ok (.aload_n 0, 1) := by decide +kernel
theorem dX1_noteLine_73 : decode cX1_noteLine 73 = .ok (.getfield 55, 3) := by decide +kernel
theorem dX1_noteLine_76 : decode cX1_noteLine 76 = .ok (.iload 4, 2) := by decide +kernel
theorem dX1_noteLine_78 : decode cX1_noteLine 78 = .ok (.iastore, 1) := by decide +kernel
theorem dX1_noteLine_79 : decode cX1_noteLine 79 = .ok (.aload_n 0, 1) := by decide +kernel
theorem dX1_noteLine_80 : decode cX1_noteLine 80 = .ok (.getfield 27, 3) := by decide +kernel
theorem dX1_noteLine_83 : decode cX1_noteLine 83 = .ok (.aload_n 0, 1) := by decide +kernel
theorem dX1_noteLine_84 : decode cX1_noteLine 84 = .ok (.getfield 55, 3) := by decide +kernel
theorem dX1_noteLine_87 : decode cX1_noteLine 87 = .ok (.iload_n 1, 1) := by decide +kernel
theorem dX1_noteLine_88 : decode cX1_noteLine 88 = .ok (.iload_n 3, 1) := by decide +kernel
theorem dX1_noteLine_89 : decode cX1_noteLine 89 = .ok (.iconst (-1), 1) := by decide +kernel
theorem dX1_noteLine_90 : decode cX1_noteLine 90 = .ok (.ixor, 1) := by decide +kernel
theorem dX1_noteLine_91 : decode cX1_noteLine 91 = .ok (.iand, 1) := by decide +kernel
theorem dX1_noteLine_92 : decode cX1_noteLine 92 = .ok (.iload 4, 2) := by decide +kernel
theorem dX1_noteLine_94 : decode cX1_noteLine 94 = .ok (.iconst (-1), 1) := by decide +kernel
theorem dX1_noteLine_95 : decode cX1_noteLine 95 = .ok (.ixor, 1) := by decide +kernel
theorem dX1_noteLine_96 : decode cX1_noteLine 96 = .ok (.iand, 1) := by decide +kernel
theorem dX1_noteLine_97 : decode cX1_noteLine 97 = .ok (.iastore, 1) := by decide +kernel
theorem dX1_noteLine_98 : decode cX1_noteLine 98 = .ok (.aload_n 0, 1) := by decide +kernel
theorem dX1_noteLine_99 : decode cX1_noteLine 99 = .ok (.dup, 1) := by decide +kernel
theorem dX1_noteLine_100 : decode cX1_noteLine 100 = .ok (.getfield 55, 3) := by decide +kernel
theorem dX1_noteLine_103 : decode cX1_noteLine 103 = .ok (.iconst 1, 1) := by decide +kernel
theorem dX1_noteLine_104 : decode cX1_noteLine 104 = .ok (.iadd, 1) := by decide +kernel
theorem dX1_noteLine_105 : decode cX1_noteLine 105 = .ok (.putfield 55, 3) := by decide +kernel
theorem dX1_noteLine_108 : decode cX1_noteLine 108 = .ok (.return_, 1) := by decide +kernel
set_option maxRecDepth 20000 in
theorem ggX1_noteCorner_X0_climb : GoodIn wsX1_noteCorner wsX0_climb := goodIn_r _ [9, 10, 11, 12, 71, 72, 73, 74, 75, 76, 77, 78, 79, 80] (by decide +kernel) (by decide +kernel)
set_option maxRecDepth 20000 in
theorem gX1_noteCorner_X0_climb : GoodIn wsX1_noteCorner (wsV RX1 132 RX0 yX0_climb wsX0_climb) := goodIn_app (goodIn_of _ (by decide +kernel)) ggX1_noteCorner_X0_climb
set_option maxRecDepth 20000 in
theorem ggX1_noteCorner_X0_alongBoth : GoodIn wsX1_noteCorner wsX0_alongBoth := goodIn_r _ [16, 17, 18, 19, 8, 20, 10, 11, 12, 21, 22, 23, 24, 71, 72, 73, 74, 75, 76, 77, 78, 79, 80] (by decide +kernel) (by decide +kernel)
set_option maxRecDepth 20000 in
theorem gX1_noteCorner_X0_alongBoth : GoodIn wsX1_noteCorner (wsV RX1 98 RX0 yX0_alongBoth wsX0_alongBoth) := goodIn_app (goodIn_of _ (by decide +kernel)) ggX1_noteCorner_X0_alongBoth
set_option maxRecDepth 20000 in
theorem ggX1_noteCorner_X3_signs : GoodIn wsX1_noteCorner wsX3_signs := goodIn_r _ [29, 30, 31, 32, 33, 34, 71, 72, 73, 74, 75, 76, 77] (by decide +kernel) (by decide +kernel)
set_option maxRecDepth 20000 in
theorem gX1_noteCorner_X3_signs : GoodIn wsX1_noteCorner (wsV RX1 122 RX3 yX3_signs wsX3_signs) := goodIn_app (goodIn_of _ (by decide +kernel)) ggX1_noteCorner_X3_signs
set_option maxRecDepth 20000 in
theorem ggX1_noteCorner_X1_reach : GoodIn wsX1_noteCorner wsX1_reach := goodIn_r _ [39, 2, 40, 41, 42, 43, 44, 45, 46, 28, 47, 48, 49, 50, 51, 52, 53, 54, 55, 56, 38, 57, 58, 59, 60, 61, 62, 63, 64, 65, 66, 67, 68, 69, 70, 81, 82, 83, 84, 85, 86, 87, 71, 72, 73, 74, 75, 76, 77] (by decide +kernel) (by decide +kernel)
set_option maxRecDepth 20000 in
theorem gX1_noteCorner_X1_reach : GoodIn wsX1_noteCorner (wsV RX1 139 RX1 yX1_reach wsX1_reach) := goodIn_app (goodIn_of _ (by decide +kernel)) ggX1_noteCorner_X1_reach
theorem dX1_noteCorner_0 : decode cX1_noteCorner 0 = .ok (.aload_n 0, 1) := by decide +kernel
theorem dX1_noteCorner_1 : decode cX1_noteCorner 1 = .ok (.getfield 33, 3) := by decide +kernel
theorem dX1_noteCorner_4 : decode cX1_noteCorner 4 = .ok (.aload_n 0, 1) := by decide +kernel
theorem dX1_noteCorner_5 : decode cX1_noteCorner 5 = .ok (.getfield 43, 3) := by decide +kernel
theorem dX1_noteCorner_8 : decode cX1_noteCorner 8 = .ok (.iload_n 3, 1) := by decide +kernel
theorem dX1_noteCorner_9 : decode cX1_noteCorner 9 = .ok (.invokevirtual 132, 3) := by decide +kernel
theorem dX1_noteCorner_12 : decode cX1_noteCorner 12 = .ok (.istore 4, 2) := by decide +kernel
theorem dX1_noteCorner_14 : decode cX1_noteCorner 14 = .ok (.iload 4, 2) := by decide +kernel
theorem dX1_noteCorner_16 : decode cX1_noteCorner 16 = .ok (.ifCond .ne 4, 3) := by decide +kernel
theorem dX1_noteCorner_19 : decode cX1_noteCorner 19 = .ok (.return_, 1) := by decide +kernel
theorem dX1_noteCorner_20 : decode cX1_noteCorner 20 = .ok (.aload_n 0, 1) := by decide +kernel
theorem dX1_noteCorner_21 : decode cX1_noteCorner 21 = .ok (.getfield 37, 3) := by decide +kernel
theorem dX1_noteCorner_24 : decode cX1_noteCorner 24 = .ok (.aload_n 0, 1) := by decide +kernel
theorem dX1_noteCorner_25 : decode cX1_noteCorner 25 = .ok (.getfield 43, 3) := by decide +kernel
theorem dX1_noteCorner_28 : decode cX1_noteCorner 28 = .ok (.iload_n 2, 1) := by decide +kernel
theorem dX1_noteCorner_29 : decode cX1_noteCorner 29 = .ok (.iload_n 3, 1) := by decide +kernel
theorem dX1_noteCorner_30 : decode cX1_noteCorner 30 = .ok (.invokevirtual 98, 3) := by decide +kernel
theorem dX1_noteCorner_33 : decode cX1_noteCorner 33 = .ok (.aload_n 0, 1) := by decide +kernel
theorem dX1_noteCorner_34 : decode cX1_noteCorner 34 = .ok (.getfield 40, 3) := by decide +kernel
theorem dX1_noteCorner_37 : decode cX1_noteCorner 37 = .ok (.aload_n 0, 1) := by decide +kernel
theorem dX1_noteCorner_38 : decode cX1_noteCorner 38 = .ok (.getfield 43, 3) := by decide +kernel
theorem dX1_noteCorner_41 : decode cX1_noteCorner 41 = .ok (.iload_n 3, 1) := by decide +kernel
theorem dX1_noteCorner_42 : decode cX1_noteCorner 42 = .ok (.iload_n 1, 1) := by decide +kernel
theorem dX1_noteCorner_43 : decode cX1_noteCorner 43 = .ok (.invokevirtual 98, 3) := by decide +kernel
theorem dX1_noteCorner_46 : decode cX1_noteCorner 46 = .ok (.iload 4, 2) := by decide +kernel
theorem dX1_noteCorner_48 : decode cX1_noteCorner 48 = .ok (.ifCond .ge 7, 3) := by decide +kernel
theorem dX1_noteCorner_51 : decode cX1_noteCorner 51 = .ok (.iconst (-1), 1) := by decide +kernel
theorem dX1_noteCorner_52 : decode cX1_noteCorner 52 = .ok (.goto 4, 3) := by decide +kernel
theorem dX1_noteCorner_55 : decode cX1_noteCorner 55 = .ok (.iconst 1, 1) := by decide +kernel
theorem dX1_noteCorner_56 : decode cX1_noteCorner 56 = .ok (.istore 5, 2) := by decide +kernel
theorem dX1_noteCorner_58 : decode cX1_noteCorner 58 = .ok (.iload 5, 2) := by decide +kernel
theorem dX1_noteCorner_60 : decode cX1_noteCorner 60 = .ok (.aload_n 0, 1) := by decide +kernel
theorem dX1_noteCorner_61 : decode cX1_noteCorner 61 = .ok (.getfield 43, 3) := by decide +kernel
theorem dX1_noteCorner_64 : decode cX1_noteCorner 64 = .ok (.getfield 136, 3) := by decide +kernel
theorem dX1_noteCorner_67 : decode cX1_noteCorner 67 = .ok (.iload_n 1, 1) := by decide +kernel
theorem dX1_noteCorner_68 : decode cX1_noteCorner 68 = .ok (.iaload, 1) := by decide +kernel
theorem dX1_noteCorner_69 : decode cX1_noteCorner 69 = .ok (.imul, 1) := by decide +kernel
theorem dX1_noteCorner_70 : decode cX1_noteCorner 70 = .ok (.istore 6, 2) := by decide +kernel
theorem dX1_noteCorner_72 : decode cX1_noteCorner 72 = .ok (.iload 5, 2) := by decide +kernel
theorem dX1_noteCorner_74 : decode cX1_noteCorner 74 = .ok (.aload_n 0, 1) := by decide +kernel
theorem dX1_noteCorner_75 : decode cX1_noteCorner 75 = .ok (.getfield 43, 3) := by decide +kernel
theorem dX1_noteCorner_78 : decode cX1_noteCorner 78 = .ok (.getfield 136, 3) := by decide +kernel
theorem dX1_noteCorner_81 : decode cX1_noteCorner 81 = .ok (.iload_n 2, 1) := by decide +kernel
theorem dX1_noteCorner_82 : decode cX1_noteCorner 82 = .ok (.iaload, 1) := by decide +kernel
theorem dX1_noteCorner_83 : decode cX1_noteCorner 83 = .ok (.imul, 1) := by decide +kernel
theorem dX1_noteCorner_84 : decode cX1_noteCorner 84 = .ok (.istore 7, 2) := by decide +kernel
theorem dX1_noteCorner_86 : decode cX1_noteCorner 86 = .ok (.iload 5, 2) := by decide +kernel
theorem dX1_noteCorner_88 : decode cX1_noteCorner 88 = .ok (.aload_n 0, 1) := by decide +kernel
theorem dX1_noteCorner_89 : decode cX1_noteCorner 89 = .ok (.getfield 43, 3) := by decide +kernel
theorem dX1_noteCorner_92 : decode cX1_noteCorner 92 = .ok (.getfield 136, 3) := by decide +kernel
theorem dX1_noteCorner_95 : decode cX1_noteCorner 95 = .ok (.iload_n 3, 1) := by decide +kernel
theorem dX1_noteCorner_96 : decode cX1_noteCorner 96 = .ok (.iaload, 1) := by decide +kernel
theorem dX1_noteCorner_97 : decode cX1_noteCorner 97 = .ok (.imul, 1) := by decide +kernel
theorem dX1_noteCorner_98 : decode cX1_noteCorner 98 = .ok (.istore 8, 2) := by decide +kernel
theorem dX1_noteCorner_100 : decode cX1_noteCorner 100 = .ok (.iload 6, 2) := by decide +kernel
theorem dX1_noteCorner_102 : decode cX1_noteCorner 102 = .ok (.aload_n 0, 1) := by decide +kernel
theorem dX1_noteCorner_103 : decode cX1_noteCorner 103 = .ok (.getfield 37, 3) := by decide +kernel
theorem dX1_noteCorner_106 : decode cX1_noteCorner 106 = .ok (.getfield 113, 3) := by decide +kernel
theorem dX1_noteCorner_109 : decode cX1_noteCorner 109 = .ok (.imul, 1) := by decide +kernel
theorem dX1_noteCorner_110 : decode cX1_noteCorner 110 = .ok (.iload 7, 2) := by decide +kernel
theorem dX1_noteCorner_112 : decode cX1_noteCorner 112 = .ok (.aload_n 0, 1) := by decide +kernel
theorem dX1_noteCorner_113 : decode cX1_noteCorner 113 = .ok (.getfield 40, 3) := by decide +kernel
theorem dX1_noteCorner_116 : decode cX1_noteCorner 116 = .ok (.getfield 113, 3) := by decide +kernel
theorem dX1_noteCorner_119 : decode cX1_noteCorner 119 = .ok (.imul, 1) := by decide +kernel
theorem dX1_noteCorner_120 : decode cX1_noteCorner 120 = .ok (.iadd, 1) := by decide +kernel
theorem dX1_noteCorner_121 : decode cX1_noteCorner 121 = .ok (.iload 8, 2) := by decide +kernel
theorem dX1_noteCorner_123 : decode cX1_noteCorner 123 = .ok (.aload_n 0, 1) := by decide +kernel
theorem dX1_noteCorner_124 : decode cX1_noteCorner 124 = .ok (.getfield 33, 3) := by decide +kernel
theorem dX1_noteCorner_127 : decode cX1_noteCorner 127 = .ok (.getfield 113, 3) := by decide +kernel
theorem dX1_noteCorner_130 : decode cX1_noteCorner 130 = .ok (.imul, 1) := by decide +kernel
theorem dX1_noteCorner_131 : decode cX1_noteCorner 131 = .ok (.iadd, 1) := by decide +kernel
theorem dX1_noteCorner_132 : decode cX1_noteCorner 132 = .ok (.istore 9, 2) := by decide +kernel
theorem dX1_noteCorner_134 : decode cX1_noteCorner 134 = .ok (.iload 6, 2) := by decide +kernel
theorem dX1_noteCorner_136 : decode cX1_noteCorner 136 = .ok (.aload_n 0, 1) := by decide +kernel
theorem dX1_noteCorner_137 : decode cX1_noteCorner 137 = .ok (.getfield 37, 3) := by decide +kernel
theorem dX1_noteCorner_140 : decode cX1_noteCorner 140 = .ok (.getfield 116, 3) := by decide +kernel
theorem dX1_noteCorner_143 : decode cX1_noteCorner 143 = .ok (.imul, 1) := by decide +kernel
theorem dX1_noteCorner_144 : decode cX1_noteCorner 144 = .ok (.iload 7, 2) := by decide +kernel
theorem dX1_noteCorner_146 : decode cX1_noteCorner 146 = .ok (.aload_n 0, 1) := by decide +kernel
theorem dX1_noteCorner_147 : decode cX1_noteCorner 147 = .ok (.getfield 40, 3) := by decide +kernel
theorem dX1_noteCorner_150 : decode cX1_noteCorner 150 = .ok (.getfield 116, 3) := by decide +kernel
theorem dX1_noteCorner_153 : decode cX1_noteCorner 153 = .ok (.imul, 1) := by decide +kernel
theorem dX1_noteCorner_154 : decode cX1_noteCorner 154 = .ok (.iadd, 1) := by decide +kernel
theorem dX1_noteCorner_155 : decode cX1_noteCorner 155 = .ok (.iload 8, 2) := by decide +kernel
theorem dX1_noteCorner_157 : decode cX1_noteCorner 157 = .ok (.aload_n 0, 1) := by decide +kernel
theorem dX1_noteCorner_158 : decode cX1_noteCorner 158 = .ok (.getfield 33, 3) := by decide +kernel
theorem dX1_noteCorner_161 : decode cX1_noteCorner 161 = .ok (.getfield 116, 3) := by decide +kernel
theorem dX1_noteCorner_164 : decode cX1_noteCorner 164 = .ok (.imul, 1) := by decide +kernel
theorem dX1_noteCorner_165 : decode cX1_noteCorner 165 = .ok (.iadd, 1) := by decide +kernel
theorem dX1_noteCorner_166 : decode cX1_noteCorner 166 = .ok (.istore 10, 2) := by decide +kernel
theorem dX1_noteCorner_168 : decode cX1_noteCorner 168 = .ok (.iload 6, 2) := by decide +kernel
theorem dX1_noteCorner_170 : decode cX1_noteCorner 170 = .ok (.aload_n 0, 1) := by decide +kernel
theorem dX1_noteCorner_171 : decode cX1_noteCorner 171 = .ok (.getfield 37, 3) := by decide +kernel
theorem dX1_noteCorner_174 : decode cX1_noteCorner 174 = .ok (.getfield 119, 3) := by decide +kernel
theorem dX1_noteCorner_177 : decode cX1_noteCorner 177 = .ok (.imul, 1) := by decide +kernel
theorem dX1_noteCorner_178 : decode cX1_noteCorner 178 = .ok (.iload 7, 2) := by decide +kernel
theorem dX1_noteCorner_180 : decode cX1_noteCorner 180 = .ok (.aload_n 0, 1) := by decide +kernel
theorem dX1_noteCorner_181 : decode cX1_noteCorner 181 = .ok (.getfield 40, 3) := by decide +kernel
theorem dX1_noteCorner_184 : decode cX1_noteCorner 184 = .ok (.getfield 119, 3) := by decide +kernel
theorem dX1_noteCorner_187 : decode cX1_noteCorner 187 = .ok (.imul, 1) := by decide +kernel
theorem dX1_noteCorner_188 : decode cX1_noteCorner 188 = .ok (.iadd, 1) := by decide +kernel
theorem dX1_noteCorner_189 : decode cX1_noteCorner 189 = .ok (.iload 8, 2) := by decide +kernel
theorem dX1_noteCorner_191 : decode cX1_noteCorner 191 = .ok (.aload_n 0, 1) := by decide +kernel
theorem dX1_noteCorner_192 : decode cX1_noteCorner 192 = .ok (.getfield 33, 3) := by decide +kernel
theorem dX1_noteCorner_195 : decode cX1_noteCorner 195 = .ok (.getfield 119, 3) := by decide +kernel
theorem dX1_noteCorner_198 : decode cX1_noteCorner 198 = .ok (.imul, 1) := by decide +kernel
theorem dX1_noteCorner_199 : decode cX1_noteCorner 199 = .ok (.iadd, 1) := by decide +kernel
theorem dX1_noteCorner_200 : decode cX1_noteCorner 200 = .ok (.istore 11, 2) := by decide +kernel
theorem dX1_noteCorner_202 : decode cX1_noteCorner 202 = .ok (.aload_n 0, 1) := by decide +kernel
theorem dX1_noteCorner_203 : decode cX1_noteCorner 203 = .ok (.aload_n 0, 1) := by decide +kernel
theorem dX1_noteCorner_204 : decode cX1_noteCorner 204 = .ok (.getfield 43, 3) := by decide +kernel
theorem dX1_noteCorner_207 : decode cX1_noteCorner 207 = .ok (.iload 9, 2) := by decide +kernel
theorem dX1_noteCorner_209 : decode cX1_noteCorner 209 = .ok (.iload 10, 2) := by decide +kernel
theorem dX1_noteCorner_211 : decode cX1_noteCorner 211 = .ok (.iload 11, 2) := by decide +kernel
theorem dX1_noteCorner_213 : decode cX1_noteCorner 213 = .ok (.iload 5, 2) := by decide +kernel
theorem dX1_noteCorner_215 : decode cX1_noteCorner 215 = .ok (.iload 4, 2) := by decide +kernel
theorem dX1_noteCorner_217 : decode cX1_noteCorner 217 = .ok (.imul, 1) := by decide +kernel
theorem dX1_noteCorner_218 : decode cX1_noteCorner 218 = .ok (.invokevirtual 122, 3) := by decide +kernel
theorem dX1_noteCorner_221 : decode cX1_noteCorner 221 = .ok (.invokevirtual 139, 3) := by decide +kernel
theorem dX1_noteCorner_224 : decode cX1_noteCorner 224 = .ok (.return_, 1) := by decide +kernel
set_option maxRecDepth 20000 in
theorem ggX1_reach_X3_rowOf : GoodIn wsX1_reach wsX3_rowOf := goodIn_r _ [10, 11, 12, 13, 14, 15, 16, 42, 43, 44, 45, 46, 47, 48] (by decide +kernel) (by decide +kernel)
set_option maxRecDepth 20000 in
theorem gX1_reach_X3_rowOf : GoodIn wsX1_reach (wsV RX1 142 RX3 yX3_rowOf wsX3_rowOf) := goodIn_app (goodIn_of _ (by decide +kernel)) ggX1_reach_X3_rowOf
set_option maxRecDepth 20000 in
theorem ggX1_reach_X1_isMarked : GoodIn wsX1_reach wsX1_isMarked := goodIn_r _ [21, 3, 22, 23, 24, 25, 26, 27, 28, 29, 30, 31, 32, 33, 34] (by decide +kernel) (by decide +kernel)
set_option maxRecDepth 20000 in
theorem gX1_reach_X1_isMarked : GoodIn wsX1_reach (wsV RX1 145 RX1 yX1_isMarked wsX1_isMarked) := goodIn_app (goodIn_of _ (by decide +kernel)) ggX1_reach_X1_isMarked
set_option maxRecDepth 20000 in
theorem ggX1_reach_X5_onMask : GoodIn wsX1_reach wsX5_onMask := goodIn_r _ [14] (by decide +kernel) (by decide +kernel)
set_option maxRecDepth 20000 in
theorem gX1_reach_X5_onMask_n126 : GoodIn wsX1_reach (wsX5_onMask) := ggX1_reach_X5_onMask
theorem dX1_reach_0 : decode cX1_reach 0 = .ok (.aload_n 0, 1) := by decide +kernel
theorem dX1_reach_1 : decode cX1_reach 1 = .ok (.getfield 43, 3) := by decide +kernel
theorem dX1_reach_4 : decode cX1_reach 4 = .ok (.iload_n 1, 1) := by decide +kernel
theorem dX1_reach_5 : decode cX1_reach 5 = .ok (.invokevirtual 142, 3) := by decide +kernel
theorem dX1_reach_8 : decode cX1_reach 8 = .ok (.istore_n 2, 1) := by decide +kernel
theorem dX1_reach_9 : decode cX1_reach 9 = .ok (.aload_n 0, 1) := by decide +kernel
theorem dX1_reach_10 : decode cX1_reach 10 = .ok (.iload_n 2, 1) := by decide +kernel
theorem dX1_reach_11 : decode cX1_reach 11 = .ok (.invokevirtual 145, 3) := by decide +kernel
theorem dX1_reach_14 : decode cX1_reach 14 = .ok (.ifCond .ne 13, 3) := by decide +kernel
theorem dX1_reach_17 : decode cX1_reach 17 = .ok (.aload_n 0, 1) := by decide +kernel
theorem dX1_reach_18 : decode cX1_reach 18 = .ok (.getfield 51, 3) := by decide +kernel
theorem dX1_reach_21 : decode cX1_reach 21 = .ok (.sipush 577, 3) := by decide +kernel
theorem dX1_reach_24 : decode cX1_reach 24 = .ok (.if_icmp .lt 4, 3) := by decide +kernel
theorem dX1_reach_27 : decode cX1_reach 27 = .ok (.return_, 1) := by decide +kernel
theorem dX1_reach_28 : decode cX1_reach 28 = .ok (.aload_n 0, 1) := by decide +kernel
theorem dX1_reach_29 : decode cX1_reach 29 = .ok (.getfield 9, 3) := by decide +kernel
theorem dX1_reach_32 : decode cX1_reach 32 = .ok (.iload_n 2, 1) := by decide +kernel
theorem dX1_reach_33 : decode cX1_reach 33 = .ok (.iconst 5, 1) := by decide +kernel
theorem dX1_reach_34 : decode cX1_reach 34 = .ok (.ishr, 1) := by decide +kernel
theorem dX1_reach_35 : decode cX1_reach 35 = .ok (.dup2, 1) := by decide +kernel
theorem dX1_reach_36 : decode cX1_reach 36 = .ok (.iaload, 1) := by decide +kernel
theorem dX1_reach_37 : decode cX1_reach 37 = .ok (.iconst 1, 1) := by decide +kernel
theorem dX1_reach_38 : decode cX1_reach 38 = .ok (.iload_n 2, 1) := by decide +kernel
theorem dX1_reach_39 : decode cX1_reach 39 = .ok (.bipush 31, 2) := by decide +kernel
theorem dX1_reach_41 : decode cX1_reach 41 = .ok (.iand, 1) := by decide +kernel
theorem dX1_reach_42 : decode cX1_reach 42 = .ok (.ishl, 1) := by decide +kernel
theorem dX1_reach_43 : decode cX1_reach 43 = .ok (.ior, 1) := by decide +kernel
theorem dX1_reach_44 : decode cX1_reach 44 = .ok (.iastore, 1) := by decide +kernel
theorem dX1_reach_45 : decode cX1_reach 45 = .ok (.aload_n 0, 1) := by decide +kernel
theorem dX1_reach_46 : decode cX1_reach 46 = .ok (.getfield 15, 3) := by decide +kernel
theorem dX1_reach_49 : decode cX1_reach 49 = .ok (.aload_n 0, 1) := by decide +kernel
theorem dX1_reach_50 : decode cX1_reach 50 = .ok (.getfield 51, 3) := by decide +kernel
theorem dX1_reach_53 : decode cX1_reach 53 = .ok (.iload_n 1, 1) := by decide +kernel
theorem dX1_reach_54 : decode cX1_reach 54 = .ok (.iastore, 1) := by decide +kernel
theorem dX1_reach_55 : decode cX1_reach 55 = .ok (.aload_n 0, 1) := by decide +kernel
theorem dX1_reach_56 : decode cX1_reach 56 = .ok (.dup, 1) := by decide +kernel
theorem dX1_reach_57 : decode cX1_reach 57 = .ok (.getfield 51, 3) := by decide +kernel
theorem dX1_reach_60 : decode cX1_reach 60 = .ok (.iconst 1, 1) := by decide +kernel
theorem dX1_reach_61 : decode cX1_reach 61 = .ok (.iadd, 1) := by decide +kernel
theorem dX1_reach_62 : decode cX1_reach 62 = .ok (.putfield 51, 3) := by decide +kernel
theorem dX1_reach_65 : decode cX1_reach 65 = .ok (.aload_n 0, 1) := by decide +kernel
theorem dX1_reach_66 : decode cX1_reach 66 = .ok (.getfield 47, 3) := by decide +kernel
theorem dX1_reach_69 : decode cX1_reach 69 = .ok (.getfield 149, 3) := by decide +kernel
theorem dX1_reach_72 : decode cX1_reach 72 = .ok (.iload_n 1, 1) := by decide +kernel
theorem dX1_reach_73 : decode cX1_reach 73 = .ok (.invokestatic 126, 3) := by decide +kernel
theorem dX1_reach_76 : decode cX1_reach 76 = .ok (.iconst 1, 1) := by decide +kernel
theorem dX1_reach_77 : decode cX1_reach 77 = .ok (.bastore, 1) := by decide +kernel
theorem dX1_reach_78 : decode cX1_reach 78 = .ok (.return_, 1) := by decide +kernel
theorem dX1_isMarked_0 : decode cX1_isMarked 0 = .ok (.aload_n 0, 1) := by decide +kernel
theorem dX1_isMarked_1 : decode cX1_isMarked 1 = .ok (.getfield 9, 3) := by decide +kernel
theorem dX1_isMarked_4 : decode cX1_isMarked 4 = .ok (.iload_n 1, 1) := by decide +kernel
theorem dX1_isMarked_5 : decode cX1_isMarked 5 = .ok (.iconst 5, 1) := by decide +kernel
theorem dX1_isMarked_6 : decode cX1_isMarked 6 = .ok (.ishr, 1) := by decide +kernel
theorem dX1_isMarked_7 : decode cX1_isMarked 7 = .ok (.iaload, 1) := by decide +kernel
theorem dX1_isMarked_8 : decode cX1_isMarked 8 = .ok (.iload_n 1, 1) := by decide +kernel
theorem dX1_isMarked_9 : decode cX1_isMarked 9 = .ok (.bipush 31, 2) := by decide +kernel
theorem dX1_isMarked_11 : decode cX1_isMarked 11 = .ok (.iand, 1) := by decide +kernel
theorem dX1_isMarked_12 : decode cX1_isMarked 12 = .ok (.iushr, 1) := by decide +kernel
theorem dX1_isMarked_13 : decode cX1_isMarked 13 = .ok (.iconst 1, 1) := by decide +kernel
theorem dX1_isMarked_14 : decode cX1_isMarked 14 = .ok (.iand, 1) := by decide +kernel
theorem dX1_isMarked_15 : decode cX1_isMarked 15 = .ok (.iconst 1, 1) := by decide +kernel
theorem dX1_isMarked_16 : decode cX1_isMarked 16 = .ok (.if_icmp .ne 7, 3) := by decide +kernel
theorem dX1_isMarked_19 : decode cX1_isMarked 19 = .ok (.iconst 1, 1) := by decide +kernel
theorem dX1_isMarked_20 : decode cX1_isMarked 20 = .ok (.goto 4, 3) := by decide +kernel
theorem dX1_isMarked_23 : decode cX1_isMarked 23 = .ok (.iconst 0, 1) := by decide +kernel
theorem dX1_isMarked_24 : decode cX1_isMarked 24 = .ok (.ireturn, 1) := by decide +kernel
set_option maxRecDepth 20000 in
theorem ggX1_moveFrom_X5_onMask : GoodIn wsX1_moveFrom wsX5_onMask := goodIn_r _ [7] (by decide +kernel) (by decide +kernel)
set_option maxRecDepth 20000 in
theorem gX1_moveFrom_X5_onMask_n126 : GoodIn wsX1_moveFrom (wsX5_onMask) := ggX1_moveFrom_X5_onMask
set_option maxRecDepth 20000 in
theorem ggX1_moveFrom_X5_aboveMask : GoodIn wsX1_moveFrom wsX5_aboveMask := goodIn_r _ [9] (by decide +kernel) (by decide +kernel)
set_option maxRecDepth 20000 in
theorem gX1_moveFrom_X5_aboveMask_n129 : GoodIn wsX1_moveFrom (wsX5_aboveMask) := ggX1_moveFrom_X5_aboveMask
set_option maxRecDepth 20000 in
theorem ggX1_moveFrom_X1_reach : GoodIn wsX1_moveFrom wsX1_reach := goodIn_r _ [14, 15, 16, 17, 18, 4, 19, 20, 21, 22, 23, 24, 5, 6, 7, 8, 9, 25, 26, 27, 13, 28, 29, 30, 31, 32, 33, 34, 35, 36, 37, 38, 39, 40, 41, 42, 43, 44, 45, 46, 47, 48, 49, 50, 51, 52, 53, 54, 55] (by decide +kernel) (by decide +kernel)
set_option maxRecDepth 20000 in
theorem gX1_moveFrom_X1_reach : GoodIn wsX1_moveFrom (wsV RX1 139 RX1 yX1_reach wsX1_reach) := goodIn_app (goodIn_of _ (by decide +kernel)) ggX1_moveFrom_X1_reach
theorem dX1_moveFrom_0 : decode cX1_moveFrom 0 = .ok (.iload_n 1, 1) := by decide +kernel
theorem dX1_moveFrom_1 : decode cX1_moveFrom 1 = .ok (.invokestatic 126, 3) := by decide +kernel
theorem dX1_moveFrom_4 : decode cX1_moveFrom 4 = .ok (.istore_n 2, 1) := by decide +kernel
theorem dX1_moveFrom_5 : decode cX1_moveFrom 5 = .ok (.iload_n 1, 1) := by decide +kernel
theorem dX1_moveFrom_6 : decode cX1_moveFrom 6 = .ok (.invokestatic 129, 3) := by decide +kernel
theorem dX1_moveFrom_9 : decode cX1_moveFrom 9 = .ok (.istore_n 3, 1) := by decide +kernel
theorem dX1_moveFrom_10 : decode cX1_moveFrom 10 = .ok (.iload_n 2, 1) := by decide +kernel
theorem dX1_moveFrom_11 : decode cX1_moveFrom 11 = .ok (.ifCond .ne 4, 3) := by decide +kernel
theorem dX1_moveFrom_14 : decode cX1_moveFrom 14 = .ok (.return_, 1) := by decide +kernel
theorem dX1_moveFrom_15 : decode cX1_moveFrom 15 = .ok (.iconst 0, 1) := by decide +kernel
theorem dX1_moveFrom_16 : decode cX1_moveFrom 16 = .ok (.istore 4, 2) := by decide +kernel
theorem dX1_moveFrom_18 : decode cX1_moveFrom 18 = .ok (.iload 4, 2) := by decide +kernel
theorem dX1_moveFrom_20 : decode cX1_moveFrom 20 = .ok (.aload_n 0, 1) := by decide +kernel
theorem dX1_moveFrom_21 : decode cX1_moveFrom 21 = .ok (.getfield 55, 3) := by decide +kernel
theorem dX1_moveFrom_24 : decode cX1_moveFrom 24 = .ok (.if_icmp .ge 105, 3) := by decide +kernel
theorem dX1_moveFrom_27 : decode cX1_moveFrom 27 = .ok (.iload_n 2, 1) := by decide +kernel
theorem dX1_moveFrom_28 : decode cX1_moveFrom 28 = .ok (.aload_n 0, 1) := by decide +kernel
theorem dX1_moveFrom_29 : decode cX1_moveFrom 29 = .ok (.getfield 24, 3) := by decide +kernel
theorem dX1_moveFrom_32 : decode cX1_moveFrom 32 = .ok (.iload 4, 2) := by decide +kernel
theorem dX1_moveFrom_34 : decode cX1_moveFrom 34 = .ok (.iaload, 1) := by decide +kernel
theorem dX1_moveFrom_35 : decode cX1_moveFrom 35 = .ok (.aload_n 0, 1) := by decide +kernel
theorem dX1_moveFrom_36 : decode cX1_moveFrom 36 = .ok (.getfield 27, 3) := by decide +kernel
theorem dX1_moveFrom_39 : decode cX1_moveFrom 39 = .ok (.iload 4, 2) := by decide +kernel
theorem dX1_moveFrom_41 : decode cX1_moveFrom 41 = .ok (.iaload, 1) := by decide +kernel
theorem dX1_moveFrom_42 : decode cX1_moveFrom 42 = .ok (.ior, 1) := by decide +kernel
theorem dX1_moveFrom_43 : decode cX1_moveFrom 43 = .ok (.iconst (-1), 1) := by decide +kernel
theorem dX1_moveFrom_44 : decode cX1_moveFrom 44 = .ok (.ixor, 1) := by decide +kernel
theorem dX1_moveFrom_45 : decode cX1_moveFrom 45 = .ok (.iand, 1) := by decide +kernel
theorem dX1_moveFrom_46 : decode cX1_moveFrom 46 = .ok (.istore 5, 2) := by decide +kernel
theorem dX1_moveFrom_48 : decode cX1_moveFrom 48 = .ok (.aload_n 0, 1) := by decide +kernel
theorem dX1_moveFrom_49 : decode cX1_moveFrom 49 = .ok (.getfield 47, 3) := by decide +kernel
theorem dX1_moveFrom_52 : decode cX1_moveFrom 52 = .ok (.getfield 153, 3) := by decide +kernel
theorem dX1_moveFrom_55 : decode cX1_moveFrom 55 = .ok (.iload 5, 2) := by decide +kernel
theorem dX1_moveFrom_57 : decode cX1_moveFrom 57 = .ok (.iaload, 1) := by decide +kernel
theorem dX1_moveFrom_58 : decode cX1_moveFrom 58 = .ok (.aload_n 0, 1) := by decide +kernel
theorem dX1_moveFrom_59 : decode cX1_moveFrom 59 = .ok (.getfield 47, 3) := by decide +kernel
theorem dX1_moveFrom_62 : decode cX1_moveFrom 62 = .ok (.getfield 153, 3) := by decide +kernel
theorem dX1_moveFrom_65 : decode cX1_moveFrom 65 = .ok (.iload_n 2, 1) := by decide +kernel
theorem dX1_moveFrom_66 : decode cX1_moveFrom 66 = .ok (.iaload, 1) := by decide +kernel
theorem dX1_moveFrom_67 : decode cX1_moveFrom 67 = .ok (.iconst 1, 1) := by decide +kernel
theorem dX1_moveFrom_68 : decode cX1_moveFrom 68 = .ok (.isub, 1) := by decide +kernel
theorem dX1_moveFrom_69 : decode cX1_moveFrom 69 = .ok (.if_icmp .eq 6, 3) := by decide +kernel
theorem dX1_moveFrom_72 : decode cX1_moveFrom 72 = .ok (.goto 51, 3) := by decide +kernel
theorem dX1_moveFrom_75 : decode cX1_moveFrom 75 = .ok (.aload_n 0, 1) := by decide +kernel
theorem dX1_moveFrom_76 : decode cX1_moveFrom 76 = .ok (.iload_n 3, 1) := by decide +kernel
theorem dX1_moveFrom_77 : decode cX1_moveFrom 77 = .ok (.iload_n 2, 1) := by decide +kernel
theorem dX1_moveFrom_78 : decode cX1_moveFrom 78 = .ok (.aload_n 0, 1) := by decide +kernel
theorem dX1_moveFrom_79 : decode cX1_moveFrom 79 = .ok (.getfield 24, 3) := by decide +kernel
theorem dX1_moveFrom_82 : decode cX1_moveFrom 82 = .ok (.iload 4, 2) := by decide +kernel
theorem dX1_moveFrom_84 : decode cX1_moveFrom 84 = .ok (.iaload, 1) := by decide +kernel
theorem dX1_moveFrom_85 : decode cX1_moveFrom 85 = .ok (.iand, 1) := by decide +kernel
theorem dX1_moveFrom_86 : decode cX1_moveFrom 86 = .ok (.ior, 1) := by decide +kernel
theorem dX1_moveFrom_87 : decode cX1_moveFrom 87 = .ok (.bipush 8, 2) := by decide +kernel
theorem dX1_moveFrom_89 : decode cX1_moveFrom 89 = .ok (.ishl, 1) := by decide +kernel
theorem dX1_moveFrom_90 : decode cX1_moveFrom 90 = .ok (.iload 5, 2) := by decide +kernel
theorem dX1_moveFrom_92 : decode cX1_moveFrom 92 = .ok (.ior, 1) := by decide +kernel
theorem dX1_moveFrom_93 : decode cX1_moveFrom 93 = .ok (.invokevirtual 139, 3) := by decide +kernel
theorem dX1_moveFrom_96 : decode cX1_moveFrom 96 = .ok (.aload_n 0, 1) := by decide +kernel
theorem dX1_moveFrom_97 : decode cX1_moveFrom 97 = .ok (.iload_n 3, 1) := by decide +kernel
theorem dX1_moveFrom_98 : decode cX1_moveFrom 98 = .ok (.iload_n 2, 1) := by decide +kernel
theorem dX1_moveFrom_99 : decode cX1_moveFrom 99 = .ok (.aload_n 0, 1) := by decide +kernel
theorem dX1_moveFrom_100 : decode cX1_moveFrom 100 = .ok (.getfield 27, 3) := by decide +kernel
theorem dX1_moveFrom_103 : decode cX1_moveFrom 103 = .ok (.iload 4, 2) := by decide +kernel
theorem dX1_moveFrom_105 : decode cX1_moveFrom 105 = .ok (.iaload, 1) := by decide +kernel
theorem dX1_moveFrom_106 : decode cX1_moveFrom 106 = .ok (.iand, 1) := by decide +kernel
theorem dX1_moveFrom_107 : decode cX1_moveFrom 107 = .ok (.ior, 1) := by decide +kernel
theorem dX1_moveFrom_108 : decode cX1_moveFrom 108 = .ok (.bipush 8, 2) := by decide +kernel
theorem dX1_moveFrom_110 : decode cX1_moveFrom 110 = .ok (.ishl, 1) := by decide +kernel
theorem dX1_moveFrom_111 : decode cX1_moveFrom 111 = .ok (.iload 5, 2) := by decide +kernel
theorem dX1_moveFrom_113 : decode cX1_moveFrom 113 = .ok (.ior, 1) := by decide +kernel
theorem dX1_moveFrom_114 : decode cX1_moveFrom 114 = .ok (.invokevirtual 139, 3) := by decide +kernel
theorem dX1_moveFrom_117 : decode cX1_moveFrom 117 = .ok (.iload 5, 2) := by decide +kernel
theorem dX1_moveFrom_119 : decode cX1_moveFrom 119 = .ok (.ifCond .ne 4, 3) := by decide +kernel
theorem dX1_moveFrom_122 : decode cX1_moveFrom 122 = .ok (.return_, 1) := by decide +kernel
theorem dX1_moveFrom_123 : decode cX1_moveFrom 123 = .ok (.iinc 4 1, 3) := by decide +kernel
theorem dX1_moveFrom_126 : decode cX1_moveFrom 126 = .ok (.goto (-108), 3) := by decide +kernel
theorem dX1_moveFrom_129 : decode cX1_moveFrom 129 = .ok (.return_, 1) := by decide +kernel
set_option maxRecDepth 20000 in
theorem ggX1_sortRows_X1_isMarked : GoodIn wsX1_sortRows wsX1_isMarked := goodIn_r _ [10, 11, 15, 16, 17, 18, 19, 20, 21, 22, 23, 24, 25, 26, 27] (by decide +kernel) (by decide +kernel)
set_option maxRecDepth 20000 in
theorem gX1_sortRows_X1_isMarked : GoodIn wsX1_sortRows (wsV RX1 145 RX1 yX1_isMarked wsX1_isMarked) := goodIn_app (goodIn_of _ (by decide +kernel)) ggX1_sortRows_X1_isMarked
set_option maxRecDepth 20000 in
theorem ggX1_sortRows_X5_maskOf : GoodIn wsX1_sortRows wsX5_maskOf := goodIn_r _ [14] (by decide +kernel) (by decide +kernel)
set_option maxRecDepth 20000 in
theorem gX1_sortRows_X5_maskOf_n159 : GoodIn wsX1_sortRows (wsX5_maskOf) := ggX1_sortRows_X5_maskOf
theorem dX1_sortRows_0 : decode cX1_sortRows 0 = .ok (.iconst 0, 1) := by decide +kernel
theorem dX1_sortRows_1 : decode cX1_sortRows 1 = .ok (.istore_n 1, 1) := by decide +kernel
theorem dX1_sortRows_2 : decode cX1_sortRows 2 = .ok (.iconst 0, 1) := by decide +kernel
theorem dX1_sortRows_3 : decode cX1_sortRows 3 = .ok (.istore_n 2, 1) := by decide +kernel
theorem dX1_sortRows_4 : decode cX1_sortRows 4 = .ok (.iload_n 2, 1) := by decide +kernel
theorem dX1_sortRows_5 : decode cX1_sortRows 5 = .ok (.sipush 6561, 3) := by decide +kernel
theorem dX1_sortRows_8 : decode cX1_sortRows 8 = .ok (.if_icmp .ge 62, 3) := by decide +kernel
theorem dX1_sortRows_11 : decode cX1_sortRows 11 = .ok (.iload_n 1, 1) := by decide +kernel
theorem dX1_sortRows_12 : decode cX1_sortRows 12 = .ok (.aload_n 0, 1) := by decide +kernel
theorem dX1_sortRows_13 : decode cX1_sortRows 13 = .ok (.getfield 51, 3) := by decide +kernel
theorem dX1_sortRows_16 : decode cX1_sortRows 16 = .ok (.if_icmp .ge 54, 3) := by decide +kernel
theorem dX1_sortRows_19 : decode cX1_sortRows 19 = .ok (.aload_n 0, 1) := by decide +kernel
theorem dX1_sortRows_20 : decode cX1_sortRows 20 = .ok (.iload_n 2, 1) := by decide +kernel
theorem dX1_sortRows_21 : decode cX1_sortRows 21 = .ok (.invokevirtual 145, 3) := by decide +kernel
theorem dX1_sortRows_24 : decode cX1_sortRows 24 = .ok (.ifCond .eq 40, 3) := by decide +kernel
theorem dX1_sortRows_27 : decode cX1_sortRows 27 = .ok (.aload_n 0, 1) := by decide +kernel
theorem dX1_sortRows_28 : decode cX1_sortRows 28 = .ok (.getfield 18, 3) := by decide +kernel
theorem dX1_sortRows_31 : decode cX1_sortRows 31 = .ok (.iload_n 1, 1) := by decide +kernel
theorem dX1_sortRows_32 : decode cX1_sortRows 32 = .ok (.iload_n 2, 1) := by decide +kernel
theorem dX1_sortRows_33 : decode cX1_sortRows 33 = .ok (.iastore, 1) := by decide +kernel
theorem dX1_sortRows_34 : decode cX1_sortRows 34 = .ok (.aload_n 0, 1) := by decide +kernel
theorem dX1_sortRows_35 : decode cX1_sortRows 35 = .ok (.getfield 21, 3) := by decide +kernel
theorem dX1_sortRows_38 : decode cX1_sortRows 38 = .ok (.iload_n 1, 1) := by decide +kernel
theorem dX1_sortRows_39 : decode cX1_sortRows 39 = .ok (.aload_n 0, 1) := by decide +kernel
theorem dX1_sortRows_40 : decode cX1_sortRows 40 = .ok (.getfield 43, 3) := by decide +kernel
theorem dX1_sortRows_43 : decode cX1_sortRows 43 = .ok (.getfield 156, 3) := by decide +kernel
theorem dX1_sortRows_46 : decode cX1_sortRows 46 = .ok (.aload_n 0, 1) := by decide +kernel
theorem dX1_sortRows_47 : decode cX1_sortRows 47 = .ok (.getfield 47, 3) := by decide +kernel
theorem dX1_sortRows_50 : decode cX1_sortRows 50 = .ok (.getfield 153, 3) := by decide +kernel
theorem dX1_sortRows_53 : decode cX1_sortRows 53 = .ok (.iload_n 2, 1) := by decide +kernel
theorem dX1_sortRows_54 : decode cX1_sortRows 54 = .ok (.iconst 1, 1) := by decide +kernel
theorem dX1_sortRows_55 : decode cX1_sortRows 55 = .ok (.invokestatic 159, 3) := by decide +kernel
theorem dX1_sortRows_58 : decode cX1_sortRows 58 = .ok (.iaload, 1) := by decide +kernel
theorem dX1_sortRows_59 : decode cX1_sortRows 59 = .ok (.isub, 1) := by decide +kernel
theorem dX1_sortRows_60 : decode cX1_sortRows 60 = .ok (.iastore, 1) := by decide +kernel
theorem dX1_sortRows_61 : decode cX1_sortRows 61 = .ok (.iinc 1 1, 3) := by decide +kernel
theorem dX1_sortRows_64 : decode cX1_sortRows 64 = .ok (.iinc 2 1, 3) := by decide +kernel
theorem dX1_sortRows_67 : decode cX1_sortRows 67 = .ok (.goto (-63), 3) := by decide +kernel
theorem dX1_sortRows_70 : decode cX1_sortRows 70 = .ok (.return_, 1) := by decide +kernel
set_option maxRecDepth 20000 in
theorem ggX1_hasFace_X1_isMarked : GoodIn wsX1_hasFace wsX1_isMarked := goodIn_r _ [5, 6, 7, 8, 9, 10, 11, 12, 13, 14, 15, 16, 17, 18, 19] (by decide +kernel) (by decide +kernel)
set_option maxRecDepth 20000 in
theorem gX1_hasFace_X1_isMarked : GoodIn wsX1_hasFace (wsV RX1 145 RX1 yX1_isMarked wsX1_isMarked) := goodIn_app (goodIn_of _ (by decide +kernel)) ggX1_hasFace_X1_isMarked
theorem dX1_hasFace_0 : decode cX1_hasFace 0 = .ok (.iload_n 1, 1) := by decide +kernel
theorem dX1_hasFace_1 : decode cX1_hasFace 1 = .ok (.ifCond .lt 22, 3) := by decide +kernel
theorem dX1_hasFace_4 : decode cX1_hasFace 4 = .ok (.iload_n 1, 1) := by decide +kernel
theorem dX1_hasFace_5 : decode cX1_hasFace 5 = .ok (.sipush 6561, 3) := by decide +kernel
theorem dX1_hasFace_8 : decode cX1_hasFace 8 = .ok (.if_icmp .ge 15, 3) := by decide +kernel
theorem dX1_hasFace_11 : decode cX1_hasFace 11 = .ok (.aload_n 0, 1) := by decide +kernel
theorem dX1_hasFace_12 : decode cX1_hasFace 12 = .ok (.iload_n 1, 1) := by decide +kernel
theorem dX1_hasFace_13 : decode cX1_hasFace 13 = .ok (.invokevirtual 145, 3) := by decide +kernel
theorem dX1_hasFace_16 : decode cX1_hasFace 16 = .ok (.ifCond .eq 7, 3) := by decide +kernel
theorem dX1_hasFace_19 : decode cX1_hasFace 19 = .ok (.iconst 1, 1) := by decide +kernel
theorem dX1_hasFace_20 : decode cX1_hasFace 20 = .ok (.goto 4, 3) := by decide +kernel
theorem dX1_hasFace_23 : decode cX1_hasFace 23 = .ok (.iconst 0, 1) := by decide +kernel
theorem dX1_hasFace_24 : decode cX1_hasFace 24 = .ok (.ireturn, 1) := by decide +kernel
set_option maxRecDepth 20000 in
theorem ggX1_hasRoom_X1_hasFace : GoodIn wsX1_hasRoom wsX1_hasFace := goodIn_r _ [5, 6, 7, 8, 4, 9, 10, 14, 15, 16, 17, 18, 19, 20, 21, 22, 23, 24, 25, 26] (by decide +kernel) (by decide +kernel)
set_option maxRecDepth 20000 in
theorem gX1_hasRoom_X1_hasFace : GoodIn wsX1_hasRoom (wsV RX1 163 RX1 yX1_hasFace wsX1_hasFace) := goodIn_app (goodIn_of _ (by decide +kernel)) ggX1_hasRoom_X1_hasFace
set_option maxRecDepth 20000 in
theorem ggX1_hasRoom_X5_maskOf : GoodIn wsX1_hasRoom wsX5_maskOf := goodIn_r _ [13] (by decide +kernel) (by decide +kernel)
set_option maxRecDepth 20000 in
theorem gX1_hasRoom_X5_maskOf_n159 : GoodIn wsX1_hasRoom (wsX5_maskOf) := ggX1_hasRoom_X5_maskOf
theorem dX1_hasRoom_0 : decode cX1_hasRoom 0 = .ok (.aload_n 0, 1) := by decide +kernel
theorem dX1_hasRoom_1 : decode cX1_hasRoom 1 = .ok (.iload_n 1, 1) := by decide +kernel
theorem dX1_hasRoom_2 : decode cX1_hasRoom 2 = .ok (.invokevirtual 163, 3) := by decide +kernel
theorem dX1_hasRoom_5 : decode cX1_hasRoom 5 = .ok (.ifCond .eq 15, 3) := by decide +kernel
theorem dX1_hasRoom_8 : decode cX1_hasRoom 8 = .ok (.iload_n 1, 1) := by decide +kernel
theorem dX1_hasRoom_9 : decode cX1_hasRoom 9 = .ok (.iconst 1, 1) := by decide +kernel
theorem dX1_hasRoom_10 : decode cX1_hasRoom 10 = .ok (.invokestatic 159, 3) := by decide +kernel
theorem dX1_hasRoom_13 : decode cX1_hasRoom 13 = .ok (.ifCond .ne 7, 3) := by decide +kernel
theorem dX1_hasRoom_16 : decode cX1_hasRoom 16 = .ok (.iconst 1, 1) := by decide +kernel
theorem dX1_hasRoom_17 : decode cX1_hasRoom 17 = .ok (.goto 4, 3) := by decide +kernel
theorem dX1_hasRoom_20 : decode cX1_hasRoom 20 = .ok (.iconst 0, 1) := by decide +kernel
theorem dX1_hasRoom_21 : decode cX1_hasRoom 21 = .ok (.ireturn, 1) := by decide +kernel
theorem dX1_countOfWidth_0 : decode cX1_countOfWidth 0 = .ok (.iconst 0, 1) := by decide +kernel
theorem dX1_countOfWidth_1 : decode cX1_countOfWidth 1 = .ok (.istore_n 2, 1) := by decide +kernel
theorem dX1_countOfWidth_2 : decode cX1_countOfWidth 2 = .ok (.iconst 0, 1) := by decide +kernel
theorem dX1_countOfWidth_3 : decode cX1_countOfWidth 3 = .ok (.istore_n 3, 1) := by decide +kernel
theorem dX1_countOfWidth_4 : decode cX1_countOfWidth 4 = .ok (.iload_n 3, 1) := by decide +kernel
theorem dX1_countOfWidth_5 : decode cX1_countOfWidth 5 = .ok (.aload_n 0, 1) := by decide +kernel
theorem dX1_countOfWidth_6 : decode cX1_countOfWidth 6 = .ok (.getfield 51, 3) := by decide +kernel
theorem dX1_countOfWidth_9 : decode cX1_countOfWidth 9 = .ok (.if_icmp .ge 22, 3) := by decide +kernel
theorem dX1_countOfWidth_12 : decode cX1_countOfWidth 12 = .ok (.aload_n 0, 1) := by decide +kernel
theorem dX1_countOfWidth_13 : decode cX1_countOfWidth 13 = .ok (.getfield 21, 3) := by decide +kernel
theorem dX1_countOfWidth_16 : decode cX1_countOfWidth 16 = .ok (.iload_n 3, 1) := by decide +kernel
theorem dX1_countOfWidth_17 : decode cX1_countOfWidth 17 = .ok (.iaload, 1) := by decide +kernel
theorem dX1_countOfWidth_18 : decode cX1_countOfWidth 18 = .ok (.iload_n 1, 1) := by decide +kernel
theorem dX1_countOfWidth_19 : decode cX1_countOfWidth 19 = .ok (.if_icmp .ne 6, 3) := by decide +kernel
theorem dX1_countOfWidth_22 : decode cX1_countOfWidth 22 = .ok (.iinc 2 1, 3) := by decide +kernel
theorem dX1_countOfWidth_25 : decode cX1_countOfWidth 25 = .ok (.iinc 3 1, 3) := by decide +kernel
theorem dX1_countOfWidth_28 : decode cX1_countOfWidth 28 = .ok (.goto (-24), 3) := by decide +kernel
theorem dX1_countOfWidth_31 : decode cX1_countOfWidth 31 = .ok (.iload_n 2, 1) := by decide +kernel
theorem dX1_countOfWidth_32 : decode cX1_countOfWidth 32 = .ok (.ireturn, 1) := by decide +kernel
theorem dX1_rowOfWidth_0 : decode cX1_rowOfWidth 0 = .ok (.iconst 0, 1) := by decide +kernel
theorem dX1_rowOfWidth_1 : decode cX1_rowOfWidth 1 = .ok (.istore_n 3, 1) := by decide +kernel
theorem dX1_rowOfWidth_2 : decode cX1_rowOfWidth 2 = .ok (.iconst 0, 1) := by decide +kernel
theorem dX1_rowOfWidth_3 : decode cX1_rowOfWidth 3 = .ok (.istore 4, 2) := by decide +kernel
theorem dX1_rowOfWidth_5 : decode cX1_rowOfWidth 5 = .ok (.iload 4, 2) := by decide +kernel
theorem dX1_rowOfWidth_7 : decode cX1_rowOfWidth 7 = .ok (.aload_n 0, 1) := by decide +kernel
theorem dX1_rowOfWidth_8 : decode cX1_rowOfWidth 8 = .ok (.getfield 51, 3) := by decide +kernel
theorem dX1_rowOfWidth_11 : decode cX1_rowOfWidth 11 = .ok (.if_icmp .ge 36, 3) := by decide +kernel
theorem dX1_rowOfWidth_14 : decode cX1_rowOfWidth 14 = .ok (.aload_n 0, 1) := by decide +kernel
theorem dX1_rowOfWidth_15 : decode cX1_rowOfWidth 15 = .ok (.getfield 21, 3) := by decide +kernel
theorem dX1_rowOfWidth_18 : decode cX1_rowOfWidth 18 = .ok (.iload 4, 2) := by decide +kernel
theorem dX1_rowOfWidth_20 : decode cX1_rowOfWidth 20 = .ok (.iaload, 1) := by decide +kernel
theorem dX1_rowOfWidth_21 : decode cX1_rowOfWidth 21 = .ok (.iload_n 1, 1) := by decide +kernel
theorem dX1_rowOfWidth_22 : decode cX1_rowOfWidth 22 = .ok (.if_icmp .ne 19, 3) := by decide +kernel
theorem dX1_rowOfWidth_25 : decode cX1_rowOfWidth 25 = .ok (.iload_n 3, 1) := by decide +kernel
theorem dX1_rowOfWidth_26 : decode cX1_rowOfWidth 26 = .ok (.iload_n 2, 1) := by decide +kernel
theorem dX1_rowOfWidth_27 : decode cX1_rowOfWidth 27 = .ok (.if_icmp .ne 11, 3) := by decide +kernel
theorem dX1_rowOfWidth_30 : decode cX1_rowOfWidth 30 = .ok (.aload_n 0, 1) := by decide +kernel
theorem dX1_rowOfWidth_31 : decode cX1_rowOfWidth 31 = .ok (.getfield 18, 3) := by decide +kernel
theorem dX1_rowOfWidth_34 : decode cX1_rowOfWidth 34 = .ok (.iload 4, 2) := by decide +kernel
theorem dX1_rowOfWidth_36 : decode cX1_rowOfWidth 36 = .ok (.iaload, 1) := by decide +kernel
theorem dX1_rowOfWidth_37 : decode cX1_rowOfWidth 37 = .ok (.ireturn, 1) := by decide +kernel
theorem dX1_rowOfWidth_38 : decode cX1_rowOfWidth 38 = .ok (.iinc 3 1, 3) := by decide +kernel
theorem dX1_rowOfWidth_41 : decode cX1_rowOfWidth 41 = .ok (.iinc 4 1, 3) := by decide +kernel
theorem dX1_rowOfWidth_44 : decode cX1_rowOfWidth 44 = .ok (.goto (-39), 3) := by decide +kernel
theorem dX1_rowOfWidth_47 : decode cX1_rowOfWidth 47 = .ok (.iconst (-1), 1) := by decide +kernel
theorem dX1_rowOfWidth_48 : decode cX1_rowOfWidth 48 = .ok (.ireturn, 1) := by decide +kernel
set_option maxRecDepth 20000 in
theorem ggX1_wallsOf_X5_across : GoodIn wsX1_wallsOf wsX5_across := goodIn_r _ [4, 5] (by decide +kernel) (by decide +kernel)
set_option maxRecDepth 20000 in
theorem gX1_wallsOf_X5_across_n166 : GoodIn wsX1_wallsOf (wsX5_across) := ggX1_wallsOf_X5_across
set_option maxRecDepth 20000 in
theorem ggX1_wallsOf_X1_hasRoom : GoodIn wsX1_wallsOf wsX1_hasRoom := goodIn_r _ [10, 11, 12, 13, 9, 14, 15, 16, 17, 18, 19, 20, 3, 21, 22, 23, 24, 25, 26, 27, 28, 29, 30, 31, 32, 33, 34] (by decide +kernel) (by decide +kernel)
set_option maxRecDepth 20000 in
theorem gX1_wallsOf_X1_hasRoom : GoodIn wsX1_wallsOf (wsV RX1 169 RX1 yX1_hasRoom wsX1_hasRoom) := goodIn_app (goodIn_of _ (by decide +kernel)) ggX1_wallsOf_X1_hasRoom
theorem dX1_wallsOf_0 : decode cX1_wallsOf 0 = .ok (.iconst 0, 1) := by decide +kernel
theorem dX1_wallsOf_1 : decode cX1_wallsOf 1 = .ok (.istore_n 2, 1) := by decide +kernel
theorem dX1_wallsOf_2 : decode cX1_wallsOf 2 = .ok (.iconst 0, 1) := by decide +kernel
theorem dX1_wallsOf_3 : decode cX1_wallsOf 3 = .ok (.istore_n 3, 1) := by decide +kernel
theorem dX1_wallsOf_4 : decode cX1_wallsOf 4 = .ok (.iload_n 3, 1) := by decide +kernel
theorem dX1_wallsOf_5 : decode cX1_wallsOf 5 = .ok (.aload_n 0, 1) := by decide +kernel
theorem dX1_wallsOf_6 : decode cX1_wallsOf 6 = .ok (.getfield 43, 3) := by decide +kernel
theorem dX1_wallsOf_9 : decode cX1_wallsOf 9 = .ok (.getfield 89, 3) := by decide +kernel
theorem dX1_wallsOf_12 : decode cX1_wallsOf 12 = .ok (.if_icmp .ge 27, 3) := by decide +kernel
theorem dX1_wallsOf_15 : decode cX1_wallsOf 15 = .ok (.aload_n 0, 1) := by decide +kernel
theorem dX1_wallsOf_16 : decode cX1_wallsOf 16 = .ok (.iload_n 1, 1) := by decide +kernel
theorem dX1_wallsOf_17 : decode cX1_wallsOf 17 = .ok (.iload_n 3, 1) := by decide +kernel
theorem dX1_wallsOf_18 : decode cX1_wallsOf 18 = .ok (.invokestatic 166, 3) := by decide +kernel
theorem dX1_wallsOf_21 : decode cX1_wallsOf 21 = .ok (.invokevirtual 169, 3) := by decide +kernel
theorem dX1_wallsOf_24 : decode cX1_wallsOf 24 = .ok (.ifCond .eq 9, 3) := by decide +kernel
theorem dX1_wallsOf_27 : decode cX1_wallsOf 27 = .ok (.iload_n 2, 1) := by decide +kernel
theorem dX1_wallsOf_28 : decode cX1_wallsOf 28 = .ok (.iconst 1, 1) := by decide +kernel
theorem dX1_wallsOf_29 : decode cX1_wallsOf 29 = .ok (.iload_n 3, 1) := by decide +kernel
theorem dX1_wallsOf_30 : decode cX1_wallsOf 30 = .ok (.ishl, 1) := by decide +kernel
theorem dX1_wallsOf_31 : decode cX1_wallsOf 31 = .ok (.ior, 1) := by decide +kernel
theorem dX1_wallsOf_32 : decode cX1_wallsOf 32 = .ok (.istore_n 2, 1) := by decide +kernel
theorem dX1_wallsOf_33 : decode cX1_wallsOf 33 = .ok (.iinc 3 1, 3) := by decide +kernel
theorem dX1_wallsOf_36 : decode cX1_wallsOf 36 = .ok (.goto (-32), 3) := by decide +kernel
theorem dX1_wallsOf_39 : decode cX1_wallsOf 39 = .ok (.iload_n 2, 1) := by decide +kernel
theorem dX1_wallsOf_40 : decode cX1_wallsOf 40 = .ok (.ireturn, 1) := by decide +kernel
theorem dX1_isOpen_0 : decode cX1_isOpen 0 = .ok (.iconst 0, 1) := by decide +kernel
theorem dX1_isOpen_1 : decode cX1_isOpen 1 = .ok (.istore_n 2, 1) := by decide +kernel
theorem dX1_isOpen_2 : decode cX1_isOpen 2 = .ok (.iload_n 2, 1) := by decide +kernel
theorem dX1_isOpen_3 : decode cX1_isOpen 3 = .ok (.aload_n 0, 1) := by decide +kernel
theorem dX1_isOpen_4 : decode cX1_isOpen 4 = .ok (.getfield 55, 3) := by decide +kernel
theorem dX1_isOpen_7 : decode cX1_isOpen 7 = .ok (.if_icmp .ge 81, 3) := by decide +kernel
theorem dX1_isOpen_10 : decode cX1_isOpen 10 = .ok (.aload_n 0, 1) := by decide +kernel
theorem dX1_isOpen_11 : decode cX1_isOpen 11 = .ok (.getfield 24, 3) := by decide +kernel
theorem dX1_isOpen_14 : decode cX1_isOpen 14 = .ok (.iload_n 2, 1) := by decide +kernel
theorem dX1_isOpen_15 : decode cX1_isOpen 15 = .ok (.iaload, 1) := by decide +kernel
theorem dX1_isOpen_16 : decode cX1_isOpen 16 = .ok (.iload_n 1, 1) := by decide +kernel
theorem dX1_isOpen_17 : decode cX1_isOpen 17 = .ok (.iconst (-1), 1) := by decide +kernel
theorem dX1_isOpen_18 : decode cX1_isOpen 18 = .ok (.ixor, 1) := by decide +kernel
theorem dX1_isOpen_19 : decode cX1_isOpen 19 = .ok (.iand, 1) := by decide +kernel
theorem dX1_isOpen_20 : decode cX1_isOpen 20 = .ok (.ifCond .ne 18, 3) := by decide +kernel
theorem dX1_isOpen_23 : decode cX1_isOpen 23 = .ok (.aload_n 0, 1) := by decide +kernel
theorem dX1_isOpen_24 : decode cX1_isOpen 24 = .ok (.getfield 27, 3) := by decide +kernel
theorem dX1_isOpen_27 : decode cX1_isOpen 27 = .ok (.iload_n 2, 1) := by decide +kernel
theorem dX1_isOpen_28 : decode cX1_isOpen 28 = .ok (.iaload, 1) := by decide +kernel
theorem dX1_isOpen_29 : decode cX1_isOpen 29 = .ok (.iload_n 1, 1) := by decide +kernel
theorem dX1_isOpen_30 : decode cX1_isOpen 30 = .ok (.iand, 1) := by decide +kernel
theorem dX1_isOpen_31 : decode cX1_isOpen 31 = .ok (.ifCond .ne 7, 3) := by decide +kernel
theorem dX1_isOpen_34 : decode cX1_isOpen 34 = .ok (.iconst 1, 1) := by decide +kernel
theorem dX1_isOpen_35 : decode cX1_isOpen 35 = .ok (.goto 4, 3) := by decide +kernel
theorem dX1_isOpen_38 : decode cX1_isOpen 38 = .ok (.iconst 0, 1) := by decide +kernel
theorem dX1_isOpen_39 : decode cX1_isOpen 39 = .ok (.istore_n 3, 1) := by decide +kernel
theorem dX1_isOpen_40 : decode cX1_isOpen 40 = .ok (.aload_n 0, 1) := by decide +kernel
theorem dX1_isOpen_41 : decode cX1_isOpen 41 = .ok (.getfield 27, 3) := by decide +kernel
theorem dX1_isOpen_44 : decode cX1_isOpen 44 = .ok (.iload_n 2, 1) := by decide +kernel
theorem dX1_isOpen_45 : decode cX1_isOpen 45 = .ok (.iaload, 1) := by decide +kernel
theorem dX1_isOpen_46 : decode cX1_isOpen 46 = .ok (.iload_n 1, 1) := by decide +kernel
theorem dX1_isOpen_47 : decode cX1_isOpen 47 = .ok (.iconst (-1), 1) := by decide +kernel
theorem dX1_isOpen_48 : decode cX1_isOpen 48 = .ok (.ixor, 1) := by decide +kernel
theorem dX1_isOpen_49 : decode cX1_isOpen 49 = .ok (.iand, 1) := by decide +kernel
theorem dX1_isOpen_50 : decode cX1_isOpen 50 = .ok (.ifCond .ne 18, 3) := by decide +kernel
theorem dX1_isOpen_53 : decode cX1_isOpen 53 = .ok (.aload_n 0, 1) := by decide +kernel
theorem dX1_isOpen_54 : decode cX1_isOpen 54 = .ok (.getfield 24, 3) := by decide +kernel
theorem dX1_isOpen_57 : decode cX1_isOpen 57 = .ok (.iload_n 2, 1) := by decide +kernel
theorem dX1_isOpen_58 : decode cX1_isOpen 58 = .ok (.iaload, 1) := by decide +kernel
theorem dX1_isOpen_59 : decode cX1_isOpen 59 = .ok (.iload_n 1, 1) := by decide +kernel
theorem dX1_isOpen_60 : decode cX1_isOpen 60 = .ok (.iand, 1) := by decide +kernel
theorem dX1_isOpen_61 : decode cX1_isOpen 61 = .ok (.ifCond .ne 7, 3) := by decide +kernel
theorem dX1_isOpen_64 : decode cX1_isOpen 64 = .ok (.iconst 1, 1) := by decide +kernel
theorem dX1_isOpen_65 : decode cX1_isOpen 65 = .ok (.goto 4, 3) := by decide +kernel
theorem dX1_isOpen_68 : decode cX1_isOpen 68 = .ok (.iconst 0, 1) := by decide +kernel
theorem dX1_isOpen_69 : decode cX1_isOpen 69 = .ok (.istore 4, 2) := by decide +kernel
theorem dX1_isOpen_71 : decode cX1_isOpen 71 = .ok (.iload_n 3, 1) := by decide +kernel
theorem dX1_isOpen_72 : decode cX1_isOpen 72 = .ok (.ifCond .ne 8, 3) := by decide +kernel
theorem dX1_isOpen_75 : decode cX1_isOpen 75 = .ok (.iload 4, 2) := by decide +kernel
theorem dX1_isOpen_77 : decode cX1_isOpen 77 = .ok (.ifCond .eq 5, 3) := by decide +kernel
theorem dX1_isOpen_80 : decode cX1_isOpen 80 = .ok (.iconst 1, 1) := by decide +kernel
theorem dX1_isOpen_81 : decode cX1_isOpen 81 = .ok (.ireturn, 1) := by decide +kernel
theorem dX1_isOpen_82 : decode cX1_isOpen 82 = .ok (.iinc 2 1, 3) := by decide +kernel
theorem dX1_isOpen_85 : decode cX1_isOpen 85 = .ok (.goto (-83), 3) := by decide +kernel
theorem dX1_isOpen_88 : decode cX1_isOpen 88 = .ok (.iconst 0, 1) := by decide +kernel
theorem dX1_isOpen_89 : decode cX1_isOpen 89 = .ok (.ireturn, 1) := by decide +kernel
set_option maxRecDepth 20000 in
theorem ggX2_init_X0_init : GoodIn wsX2_init wsX0_init := goodIn_r _ [17, 18, 2, 3] (by decide +kernel) (by decide +kernel)
set_option maxRecDepth 20000 in
theorem gX2_init_X0_init_n30 : GoodIn wsX2_init (wsX0_init) := ggX2_init_X0_init
theorem dX2_init_0 : decode cX2_init 0 = .ok (.aload_n 0, 1) := by decide +kernel
theorem dX2_init_1 : decode cX2_init 1 = .ok (.invokespecial 3, 3) := by decide +kernel
theorem dX2_init_4 : decode cX2_init 4 = .ok (.aload_n 0, 1) := by decide +kernel
theorem dX2_init_5 : decode cX2_init 5 = .ok (.sipush 256, 3) := by decide +kernel
theorem dX2_init_8 : decode cX2_init 8 = .ok (.newarray .int, 2) := by decide +kernel
theorem dX2_init_10 : decode cX2_init 10 = .ok (.putfield 9, 3) := by decide +kernel
theorem dX2_init_13 : decode cX2_init 13 = .ok (.aload_n 0, 1) := by decide +kernel
theorem dX2_init_14 : decode cX2_init 14 = .ok (.sipush 256, 3) := by decide +kernel
theorem dX2_init_17 : decode cX2_init 17 = .ok (.newarray .boolean, 2) := by decide +kernel
theorem dX2_init_19 : decode cX2_init 19 = .ok (.putfield 15, 3) := by decide +kernel
theorem dX2_init_22 : decode cX2_init 22 = .ok (.aload_n 0, 1) := by decide +kernel
theorem dX2_init_23 : decode cX2_init 23 = .ok (.sipush 256, 3) := by decide +kernel
theorem dX2_init_26 : decode cX2_init 26 = .ok (.newarray .int, 2) := by decide +kernel
theorem dX2_init_28 : decode cX2_init 28 = .ok (.putfield 19, 3) := by decide +kernel
theorem dX2_init_31 : decode cX2_init 31 = .ok (.aload_n 0, 1) := by decide +kernel
theorem dX2_init_32 : decode cX2_init 32 = .ok (.sipush 256, 3) := by decide +kernel
theorem dX2_init_35 : decode cX2_init 35 = .ok (.newarray .int, 2) := by decide +kernel
theorem dX2_init_37 : decode cX2_init 37 = .ok (.putfield 22, 3) := by decide +kernel
theorem dX2_init_40 : decode cX2_init 40 = .ok (.aload_n 0, 1) := by decide +kernel
theorem dX2_init_41 : decode cX2_init 41 = .ok (.sipush 256, 3) := by decide +kernel
theorem dX2_init_44 : decode cX2_init 44 = .ok (.newarray .int, 2) := by decide +kernel
theorem dX2_init_46 : decode cX2_init 46 = .ok (.putfield 25, 3) := by decide +kernel
theorem dX2_init_49 : decode cX2_init 49 = .ok (.aload_n 0, 1) := by decide +kernel
theorem dX2_init_50 : decode cX2_init 50 = .ok (.new 28, 3) := by decide +kernel
theorem dX2_init_53 : decode cX2_init 53 = .ok (.dup, 1) := by decide +kernel
theorem dX2_init_54 : decode cX2_init 54 = .ok (.invokespecial 30, 3) := by decide +kernel
theorem dX2_init_57 : decode cX2_init 57 = .ok (.putfield 31, 3) := by decide +kernel
theorem dX2_init_60 : decode cX2_init 60 = .ok (.aload_n 0, 1) := by decide +kernel
theorem dX2_init_61 : decode cX2_init 61 = .ok (.aload_n 1, 1) := by decide +kernel
theorem dX2_init_62 : decode cX2_init 62 = .ok (.putfield 35, 3) := by decide +kernel
theorem dX2_init_65 : decode cX2_init 65 = .ok (.return_, 1) := by decide +kernel
theorem dX2_rankOfAll_0 : decode cX2_rankOfAll 0 = .ok (.aload_n 0, 1) := by decide +kernel
theorem dX2_rankOfAll_1 : decode cX2_rankOfAll 1 = .ok (.getfield 9, 3) := by decide +kernel
theorem dX2_rankOfAll_4 : decode cX2_rankOfAll 4 = .ok (.iconst 1, 1) := by decide +kernel
theorem dX2_rankOfAll_5 : decode cX2_rankOfAll 5 = .ok (.aload_n 0, 1) := by decide +kernel
theorem dX2_rankOfAll_6 : decode cX2_rankOfAll 6 = .ok (.getfield 35, 3) := by decide +kernel
theorem dX2_rankOfAll_9 : decode cX2_rankOfAll 9 = .ok (.getfield 39, 3) := by decide +kernel
theorem dX2_rankOfAll_12 : decode cX2_rankOfAll 12 = .ok (.ishl, 1) := by decide +kernel
theorem dX2_rankOfAll_13 : decode cX2_rankOfAll 13 = .ok (.iconst 1, 1) := by decide +kernel
theorem dX2_rankOfAll_14 : decode cX2_rankOfAll 14 = .ok (.isub, 1) := by decide +kernel
theorem dX2_rankOfAll_15 : decode cX2_rankOfAll 15 = .ok (.iaload, 1) := by decide +kernel
theorem dX2_rankOfAll_16 : decode cX2_rankOfAll 16 = .ok (.ireturn, 1) := by decide +kernel
theorem dX2_forgetCommon_0 : decode cX2_forgetCommon 0 = .ok (.iconst 0, 1) := by decide +kernel
theorem dX2_forgetCommon_1 : decode cX2_forgetCommon 1 = .ok (.istore_n 1, 1) := by decide +kernel
