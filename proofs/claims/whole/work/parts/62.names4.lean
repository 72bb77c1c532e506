theorem dX6_isRoom_0 : decode cX6_isRoom 0 = .ok (.aload_n 0, 1) := by decide +kernel
theorem dX6_isRoom_1 : decode cX6_isRoom 1 = .ok (.iload_n 1, 1) := by decide +kernel
theorem dX6_isRoom_2 : decode cX6_isRoom 2 = .ok (.invokevirtual 100, 3) := by decide +kernel
theorem dX6_isRoom_5 : decode cX6_isRoom 5 = .ok (.ifCond .eq 15, 3) := by decide +kernel
theorem dX6_isRoom_8 : decode cX6_isRoom 8 = .ok (.aload_n 0, 1) := by decide +kernel
theorem dX6_isRoom_9 : decode cX6_isRoom 9 = .ok (.iload_n 1, 1) := by decide +kernel
theorem dX6_isRoom_10 : decode cX6_isRoom 10 = .ok (.invokevirtual 103, 3) := by decide +kernel
theorem dX6_isRoom_13 : decode cX6_isRoom 13 = .ok (.ifCond .ne 7, 3) := by decide +kernel
theorem dX6_isRoom_16 : decode cX6_isRoom 16 = .ok (.iconst 1, 1) := by decide +kernel
theorem dX6_isRoom_17 : decode cX6_isRoom 17 = .ok (.goto 4, 3) := by decide +kernel
theorem dX6_isRoom_20 : decode cX6_isRoom 20 = .ok (.iconst 0, 1) := by decide +kernel
theorem dX6_isRoom_21 : decode cX6_isRoom 21 = .ok (.ireturn, 1) := by decide +kernel
set_option maxRecDepth 20000 in
theorem ggX6_leadsOn_X6_at : GoodIn wsX6_leadsOn wsX6_at := goodIn_r _ [6, 7, 14, 15, 16, 17, 18, 19, 20, 21, 22, 23, 24, 25] (by decide +kernel) (by decide +kernel)
set_option maxRecDepth 20000 in
theorem gX6_leadsOn_X6_at : GoodIn wsX6_leadsOn (wsV RX6 41 RX6 yX6_at wsX6_at) := goodIn_app (goodIn_of _ (by decide +kernel)) ggX6_leadsOn_X6_at
set_option maxRecDepth 20000 in
theorem ggX6_leadsOn_X6_sign : GoodIn wsX6_leadsOn wsX6_sign := goodIn_r _ [10, 11, 12, 5, 13] (by decide +kernel) (by decide +kernel)
set_option maxRecDepth 20000 in
theorem gX6_leadsOn_X6_sign : GoodIn wsX6_leadsOn (va_wsS RX6 79 yX6_sign wsX6_sign) := goodIn_app (goodIn_of _ (by decide +kernel)) ggX6_leadsOn_X6_sign
theorem dX6_leadsOn_0 : decode cX6_leadsOn 0 = .ok (.iload_n 2, 1) := by decide +kernel
theorem dX6_leadsOn_1 : decode cX6_leadsOn 1 = .ok (.ifCond .ne 14, 3) := by decide +kernel
theorem dX6_leadsOn_4 : decode cX6_leadsOn 4 = .ok (.iload_n 3, 1) := by decide +kernel
theorem dX6_leadsOn_5 : decode cX6_leadsOn 5 = .ok (.ifCond .ne 10, 3) := by decide +kernel
theorem dX6_leadsOn_8 : decode cX6_leadsOn 8 = .ok (.iload 4, 2) := by decide +kernel
theorem dX6_leadsOn_10 : decode cX6_leadsOn 10 = .ok (.ifCond .ne 5, 3) := by decide +kernel
theorem dX6_leadsOn_13 : decode cX6_leadsOn 13 = .ok (.iconst 0, 1) := by decide +kernel
theorem dX6_leadsOn_14 : decode cX6_leadsOn 14 = .ok (.ireturn, 1) := by decide +kernel
theorem dX6_leadsOn_15 : decode cX6_leadsOn 15 = .ok (.iconst 0, 1) := by decide +kernel
theorem dX6_leadsOn_16 : decode cX6_leadsOn 16 = .ok (.istore 5, 2) := by decide +kernel
theorem dX6_leadsOn_18 : decode cX6_leadsOn 18 = .ok (.iload 5, 2) := by decide +kernel
theorem dX6_leadsOn_20 : decode cX6_leadsOn 20 = .ok (.aload_n 0, 1) := by decide +kernel
theorem dX6_leadsOn_21 : decode cX6_leadsOn 21 = .ok (.getfield 49, 3) := by decide +kernel
theorem dX6_leadsOn_24 : decode cX6_leadsOn 24 = .ok (.if_icmp .ge 65, 3) := by decide +kernel
theorem dX6_leadsOn_27 : decode cX6_leadsOn 27 = .ok (.aload_n 0, 1) := by decide +kernel
theorem dX6_leadsOn_28 : decode cX6_leadsOn 28 = .ok (.iload 5, 2) := by decide +kernel
theorem dX6_leadsOn_30 : decode cX6_leadsOn 30 = .ok (.iconst 0, 1) := by decide +kernel
theorem dX6_leadsOn_31 : decode cX6_leadsOn 31 = .ok (.invokevirtual 41, 3) := by decide +kernel
theorem dX6_leadsOn_34 : decode cX6_leadsOn 34 = .ok (.iload_n 2, 1) := by decide +kernel
theorem dX6_leadsOn_35 : decode cX6_leadsOn 35 = .ok (.imul, 1) := by decide +kernel
theorem dX6_leadsOn_36 : decode cX6_leadsOn 36 = .ok (.aload_n 0, 1) := by decide +kernel
theorem dX6_leadsOn_37 : decode cX6_leadsOn 37 = .ok (.iload 5, 2) := by decide +kernel
theorem dX6_leadsOn_39 : decode cX6_leadsOn 39 = .ok (.iconst 1, 1) := by decide +kernel
theorem dX6_leadsOn_40 : decode cX6_leadsOn 40 = .ok (.invokevirtual 41, 3) := by decide +kernel
theorem dX6_leadsOn_43 : decode cX6_leadsOn 43 = .ok (.iload_n 3, 1) := by decide +kernel
theorem dX6_leadsOn_44 : decode cX6_leadsOn 44 = .ok (.imul, 1) := by decide +kernel
theorem dX6_leadsOn_45 : decode cX6_leadsOn 45 = .ok (.iadd, 1) := by decide +kernel
theorem dX6_leadsOn_46 : decode cX6_leadsOn 46 = .ok (.aload_n 0, 1) := by decide +kernel
theorem dX6_leadsOn_47 : decode cX6_leadsOn 47 = .ok (.iload 5, 2) := by decide +kernel
theorem dX6_leadsOn_49 : decode cX6_leadsOn 49 = .ok (.iconst 2, 1) := by decide +kernel
theorem dX6_leadsOn_50 : decode cX6_leadsOn 50 = .ok (.invokevirtual 41, 3) := by decide +kernel
theorem dX6_leadsOn_53 : decode cX6_leadsOn 53 = .ok (.iload 4, 2) := by decide +kernel
theorem dX6_leadsOn_55 : decode cX6_leadsOn 55 = .ok (.imul, 1) := by decide +kernel
theorem dX6_leadsOn_56 : decode cX6_leadsOn 56 = .ok (.iadd, 1) := by decide +kernel
theorem dX6_leadsOn_57 : decode cX6_leadsOn 57 = .ok (.istore 6, 2) := by decide +kernel
theorem dX6_leadsOn_59 : decode cX6_leadsOn 59 = .ok (.iload_n 1, 1) := by decide +kernel
theorem dX6_leadsOn_60 : decode cX6_leadsOn 60 = .ok (.iload 5, 2) := by decide +kernel
theorem dX6_leadsOn_62 : decode cX6_leadsOn 62 = .ok (.invokestatic 79, 3) := by decide +kernel
theorem dX6_leadsOn_65 : decode cX6_leadsOn 65 = .ok (.ifCond .ne 11, 3) := by decide +kernel
theorem dX6_leadsOn_68 : decode cX6_leadsOn 68 = .ok (.iload 6, 2) := by decide +kernel
theorem dX6_leadsOn_70 : decode cX6_leadsOn 70 = .ok (.ifCond .le 13, 3) := by decide +kernel
theorem dX6_leadsOn_73 : decode cX6_leadsOn 73 = .ok (.goto 8, 3) := by decide +kernel
theorem dX6_leadsOn_76 : decode cX6_leadsOn 76 = .ok (.iload 6, 2) := by decide +kernel
theorem dX6_leadsOn_78 : decode cX6_leadsOn 78 = .ok (.ifCond .ge 5, 3) := by decide +kernel
theorem dX6_leadsOn_81 : decode cX6_leadsOn 81 = .ok (.iconst 0, 1) := by decide +kernel
theorem dX6_leadsOn_82 : decode cX6_leadsOn 82 = .ok (.ireturn, 1) := by decide +kernel
theorem dX6_leadsOn_83 : decode cX6_leadsOn 83 = .ok (.iinc 5 1, 3) := by decide +kernel
theorem dX6_leadsOn_86 : decode cX6_leadsOn 86 = .ok (.goto (-68), 3) := by decide +kernel
theorem dX6_leadsOn_89 : decode cX6_leadsOn 89 = .ok (.iconst 1, 1) := by decide +kernel
theorem dX6_leadsOn_90 : decode cX6_leadsOn 90 = .ok (.ireturn, 1) := by decide +kernel
set_option maxRecDepth 20000 in
theorem ggX6_leadsEither_X6_leadsOn : GoodIn wsX6_leadsEither wsX6_leadsOn := goodIn_r _ [5, 6, 7, 8, 9, 4, 10, 11, 12, 13, 14, 15, 16, 17, 18, 19, 20, 21, 22, 23, 24, 25, 26, 27, 28, 29] (by decide +kernel) (by decide +kernel)
set_option maxRecDepth 20000 in
theorem gX6_leadsEither_X6_leadsOn : GoodIn wsX6_leadsEither (wsV RX6 109 RX6 yX6_leadsOn wsX6_leadsOn) := goodIn_app (goodIn_of _ (by decide +kernel)) ggX6_leadsEither_X6_leadsOn
theorem dX6_leadsEither_0 : decode cX6_leadsEither 0 = .ok (.aload_n 0, 1) := by decide +kernel
theorem dX6_leadsEither_1 : decode cX6_leadsEither 1 = .ok (.iload_n 1, 1) := by decide +kernel
theorem dX6_leadsEither_2 : decode cX6_leadsEither 2 = .ok (.iload_n 2, 1) := by decide +kernel
theorem dX6_leadsEither_3 : decode cX6_leadsEither 3 = .ok (.iload_n 3, 1) := by decide +kernel
theorem dX6_leadsEither_4 : decode cX6_leadsEither 4 = .ok (.iload 4, 2) := by decide +kernel
theorem dX6_leadsEither_6 : decode cX6_leadsEither 6 = .ok (.invokevirtual 109, 3) := by decide +kernel
theorem dX6_leadsEither_9 : decode cX6_leadsEither 9 = .ok (.ifCond .ne 18, 3) := by decide +kernel
theorem dX6_leadsEither_12 : decode cX6_leadsEither 12 = .ok (.aload_n 0, 1) := by decide +kernel
theorem dX6_leadsEither_13 : decode cX6_leadsEither 13 = .ok (.iload_n 1, 1) := by decide +kernel
theorem dX6_leadsEither_14 : decode cX6_leadsEither 14 = .ok (.iload_n 2, 1) := by decide +kernel
theorem dX6_leadsEither_15 : decode cX6_leadsEither 15 = .ok (.ineg, 1) := by decide +kernel
theorem dX6_leadsEither_16 : decode cX6_leadsEither 16 = .ok (.iload_n 3, 1) := by decide +kernel
theorem dX6_leadsEither_17 : decode cX6_leadsEither 17 = .ok (.ineg, 1) := by decide +kernel
theorem dX6_leadsEither_18 : decode cX6_leadsEither 18 = .ok (.iload 4, 2) := by decide +kernel
theorem dX6_leadsEither_20 : decode cX6_leadsEither 20 = .ok (.ineg, 1) := by decide +kernel
theorem dX6_leadsEither_21 : decode cX6_leadsEither 21 = .ok (.invokevirtual 109, 3) := by decide +kernel
theorem dX6_leadsEither_24 : decode cX6_leadsEither 24 = .ok (.ifCond .eq 7, 3) := by decide +kernel
theorem dX6_leadsEither_27 : decode cX6_leadsEither 27 = .ok (.iconst 1, 1) := by decide +kernel
theorem dX6_leadsEither_28 : decode cX6_leadsEither 28 = .ok (.goto 4, 3) := by decide +kernel
theorem dX6_leadsEither_31 : decode cX6_leadsEither 31 = .ok (.iconst 0, 1) := by decide +kernel
theorem dX6_leadsEither_32 : decode cX6_leadsEither 32 = .ok (.ireturn, 1) := by decide +kernel
set_option maxRecDepth 20000 in
theorem ggX6_bounded_X6_isRoom : GoodIn wsX6_bounded wsX6_isRoom := goodIn_r _ [7, 8, 9, 10, 6, 11, 12, 13, 14, 15, 16, 17, 1, 18, 19, 20, 21, 22, 23, 24, 2, 25, 26, 27, 28, 29, 30, 31, 32, 33, 34, 35, 36, 37, 38, 39, 40, 41, 42, 43, 44, 45, 46, 47, 48, 49, 50, 51, 52, 53, 54, 55, 56, 57, 58, 59, 60, 61, 62, 63, 64, 78, 79, 80, 81, 82, 83, 84, 85, 86, 87, 88, 89] (by decide +kernel) (by decide +kernel)
set_option maxRecDepth 20000 in
theorem gX6_bounded_X6_isRoom : GoodIn wsX6_bounded (wsV RX6 113 RX6 yX6_isRoom wsX6_isRoom) := goodIn_app (goodIn_of _ (by decide +kernel)) ggX6_bounded_X6_isRoom
set_option maxRecDepth 20000 in
theorem ggX6_bounded_X6_rank : GoodIn wsX6_bounded wsX6_rank := goodIn_r _ [68, 1, 69, 39, 40, 41, 6, 42, 43, 78, 79, 80, 81, 82, 83, 84, 85, 86, 87, 88, 89] (by decide +kernel) (by decide +kernel)
set_option maxRecDepth 20000 in
theorem gX6_bounded_X6_rank : GoodIn wsX6_bounded (wsV RX6 97 RX6 yX6_rank wsX6_rank) := goodIn_app (goodIn_of _ (by decide +kernel)) ggX6_bounded_X6_rank
set_option maxRecDepth 20000 in
theorem ggX6_bounded_X6_leadsEither : GoodIn wsX6_bounded wsX6_leadsEither := goodIn_r _ [73, 74, 75, 76, 6, 77, 1, 39, 40, 41, 42, 43, 32, 33, 34, 18, 19, 20, 78, 79, 80, 81, 82, 83, 84, 85, 86, 87, 88, 89] (by decide +kernel) (by decide +kernel)
set_option maxRecDepth 20000 in
theorem gX6_bounded_X6_leadsEither : GoodIn wsX6_bounded (wsV RX6 116 RX6 yX6_leadsEither wsX6_leadsEither) := goodIn_app (goodIn_of _ (by decide +kernel)) ggX6_bounded_X6_leadsEither
set_option maxRecDepth 20000 in
theorem ggX6_bounded_X6_at : GoodIn wsX6_bounded wsX6_at := goodIn_r _ [42, 43, 78, 79, 80, 81, 82, 83, 84, 85, 86, 87, 88, 89] (by decide +kernel) (by decide +kernel)
set_option maxRecDepth 20000 in
theorem gX6_bounded_X6_at : GoodIn wsX6_bounded (wsV RX6 41 RX6 yX6_at wsX6_at) := goodIn_app (goodIn_of _ (by decide +kernel)) ggX6_bounded_X6_at
theorem dX6_bounded_0 : decode cX6_bounded 0 = .ok (.aload_n 0, 1) := by decide +kernel
theorem dX6_bounded_1 : decode cX6_bounded 1 = .ok (.iload_n 1, 1) := by decide +kernel
theorem dX6_bounded_2 : decode cX6_bounded 2 = .ok (.invokevirtual 113, 3) := by decide +kernel
theorem dX6_bounded_5 : decode cX6_bounded 5 = .ok (.ifCond .eq 23, 3) := by decide +kernel
theorem dX6_bounded_8 : decode cX6_bounded 8 = .ok (.aload_n 0, 1) := by decide +kernel
theorem dX6_bounded_9 : decode cX6_bounded 9 = .ok (.iconst 1, 1) := by decide +kernel
theorem dX6_bounded_10 : decode cX6_bounded 10 = .ok (.aload_n 0, 1) := by decide +kernel
theorem dX6_bounded_11 : decode cX6_bounded 11 = .ok (.getfield 49, 3) := by decide +kernel
theorem dX6_bounded_14 : decode cX6_bounded 14 = .ok (.ishl, 1) := by decide +kernel
theorem dX6_bounded_15 : decode cX6_bounded 15 = .ok (.iconst 1, 1) := by decide +kernel
theorem dX6_bounded_16 : decode cX6_bounded 16 = .ok (.isub, 1) := by decide +kernel
theorem dX6_bounded_17 : decode cX6_bounded 17 = .ok (.iconst 3, 1) := by decide +kernel
theorem dX6_bounded_18 : decode cX6_bounded 18 = .ok (.invokevirtual 97, 3) := by decide +kernel
theorem dX6_bounded_21 : decode cX6_bounded 21 = .ok (.aload_n 0, 1) := by decide +kernel
theorem dX6_bounded_22 : decode cX6_bounded 22 = .ok (.getfield 37, 3) := by decide +kernel
theorem dX6_bounded_25 : decode cX6_bounded 25 = .ok (.if_icmp .ge 5, 3) := by decide +kernel
theorem dX6_bounded_28 : decode cX6_bounded 28 = .ok (.iconst 0, 1) := by decide +kernel
theorem dX6_bounded_29 : decode cX6_bounded 29 = .ok (.ireturn, 1) := by decide +kernel
theorem dX6_bounded_30 : decode cX6_bounded 30 = .ok (.aload_n 0, 1) := by decide +kernel
theorem dX6_bounded_31 : decode cX6_bounded 31 = .ok (.getfield 37, 3) := by decide +kernel
theorem dX6_bounded_34 : decode cX6_bounded 34 = .ok (.iconst 1, 1) := by decide +kernel
theorem dX6_bounded_35 : decode cX6_bounded 35 = .ok (.if_icmp .ne 20, 3) := by decide +kernel
theorem dX6_bounded_38 : decode cX6_bounded 38 = .ok (.aload_n 0, 1) := by decide +kernel
theorem dX6_bounded_39 : decode cX6_bounded 39 = .ok (.iload_n 1, 1) := by decide +kernel
theorem dX6_bounded_40 : decode cX6_bounded 40 = .ok (.iconst 1, 1) := by decide +kernel
theorem dX6_bounded_41 : decode cX6_bounded 41 = .ok (.iconst 0, 1) := by decide +kernel
theorem dX6_bounded_42 : decode cX6_bounded 42 = .ok (.iconst 0, 1) := by decide +kernel
theorem dX6_bounded_43 : decode cX6_bounded 43 = .ok (.invokevirtual 116, 3) := by decide +kernel
theorem dX6_bounded_46 : decode cX6_bounded 46 = .ok (.ifCond .ne 7, 3) := by decide +kernel
theorem dX6_bounded_49 : decode cX6_bounded 49 = .ok (.iconst 1, 1) := by decide +kernel
theorem dX6_bounded_50 : decode cX6_bounded 50 = .ok (.goto 4, 3) := by decide +kernel
theorem dX6_bounded_53 : decode cX6_bounded 53 = .ok (.iconst 0, 1) := by decide +kernel
theorem dX6_bounded_54 : decode cX6_bounded 54 = .ok (.ireturn, 1) := by decide +kernel
theorem dX6_bounded_55 : decode cX6_bounded 55 = .ok (.iconst 0, 1) := by decide +kernel
theorem dX6_bounded_56 : decode cX6_bounded 56 = .ok (.istore_n 2, 1) := by decide +kernel
theorem dX6_bounded_57 : decode cX6_bounded 57 = .ok (.iload_n 2, 1) := by decide +kernel
theorem dX6_bounded_58 : decode cX6_bounded 58 = .ok (.aload_n 0, 1) := by decide +kernel
theorem dX6_bounded_59 : decode cX6_bounded 59 = .ok (.getfield 49, 3) := by decide +kernel
theorem dX6_bounded_62 : decode cX6_bounded 62 = .ok (.if_icmp .ge 157, 3) := by decide +kernel
theorem dX6_bounded_65 : decode cX6_bounded 65 = .ok (.aload_n 0, 1) := by decide +kernel
theorem dX6_bounded_66 : decode cX6_bounded 66 = .ok (.getfield 37, 3) := by decide +kernel
theorem dX6_bounded_69 : decode cX6_bounded 69 = .ok (.iconst 2, 1) := by decide +kernel
theorem dX6_bounded_70 : decode cX6_bounded 70 = .ok (.if_icmp .ne 27, 3) := by decide +kernel
theorem dX6_bounded_73 : decode cX6_bounded 73 = .ok (.aload_n 0, 1) := by decide +kernel
theorem dX6_bounded_74 : decode cX6_bounded 74 = .ok (.iload_n 1, 1) := by decide +kernel
theorem dX6_bounded_75 : decode cX6_bounded 75 = .ok (.aload_n 0, 1) := by decide +kernel
theorem dX6_bounded_76 : decode cX6_bounded 76 = .ok (.iload_n 2, 1) := by decide +kernel
theorem dX6_bounded_77 : decode cX6_bounded 77 = .ok (.iconst 1, 1) := by decide +kernel
theorem dX6_bounded_78 : decode cX6_bounded 78 = .ok (.invokevirtual 41, 3) := by decide +kernel
theorem dX6_bounded_81 : decode cX6_bounded 81 = .ok (.ineg, 1) := by decide +kernel
theorem dX6_bounded_82 : decode cX6_bounded 82 = .ok (.aload_n 0, 1) := by decide +kernel
theorem dX6_bounded_83 : decode cX6_bounded 83 = .ok (.iload_n 2, 1) := by decide +kernel
theorem dX6_bounded_84 : decode cX6_bounded 84 = .ok (.iconst 0, 1) := by decide +kernel
theorem dX6_bounded_85 : decode cX6_bounded 85 = .ok (.invokevirtual 41, 3) := by decide +kernel
theorem dX6_bounded_88 : decode cX6_bounded 88 = .ok (.iconst 0, 1) := by decide +kernel
theorem dX6_bounded_89 : decode cX6_bounded 89 = .ok (.invokevirtual 116, 3) := by decide +kernel
theorem dX6_bounded_92 : decode cX6_bounded 92 = .ok (.ifCond .eq 121, 3) := by decide +kernel
theorem dX6_bounded_95 : decode cX6_bounded 95 = .ok (.iconst 0, 1) := by decide +kernel
theorem dX6_bounded_96 : decode cX6_bounded 96 = .ok (.ireturn, 1) := by decide +kernel
theorem dX6_bounded_97 : decode cX6_bounded 97 = .ok (.iconst 0, 1) := by decide +kernel
theorem dX6_bounded_98 : decode cX6_bounded 98 = .ok (.istore_n 3, 1) := by decide +kernel
theorem dX6_bounded_99 : decode cX6_bounded 99 = .ok (.iload_n 3, 1) := by decide +kernel
theorem dX6_bounded_100 : decode cX6_bounded 100 = .ok (.iload_n 2, 1) := by decide +kernel
theorem dX6_bounded_101 : decode cX6_bounded 101 = .ok (.if_icmp .ge 112, 3) := by decide +kernel
theorem dX6_bounded_104 : decode cX6_bounded 104 = .ok (.aload_n 0, 1) := by decide +kernel
theorem dX6_bounded_105 : decode cX6_bounded 105 = .ok (.iload_n 2, 1) := by decide +kernel
theorem dX6_bounded_106 : decode cX6_bounded 106 = .ok (.iconst 1, 1) := by decide +kernel
theorem dX6_bounded_107 : decode cX6_bounded 107 = .ok (.invokevirtual 41, 3) := by decide +kernel
theorem dX6_bounded_110 : decode cX6_bounded 110 = .ok (.aload_n 0, 1) := by decide +kernel
theorem dX6_bounded_111 : decode cX6_bounded 111 = .ok (.iload_n 3, 1) := by decide +kernel
theorem dX6_bounded_112 : decode cX6_bounded 112 = .ok (.iconst 2, 1) := by decide +kernel
theorem dX6_bounded_113 : decode cX6_bounded 113 = .ok (.invokevirtual 41, 3) := by decide +kernel
theorem dX6_bounded_116 : decode cX6_bounded 116 = .ok (.imul, 1) := by decide +kernel
theorem dX6_bounded_117 : decode cX6_bounded 117 = .ok (.aload_n 0, 1) := by decide +kernel
theorem dX6_bounded_118 : decode cX6_bounded 118 = .ok (.iload_n 2, 1) := by decide +kernel
theorem dX6_bounded_119 : decode cX6_bounded 119 = .ok (.iconst 2, 1) := by decide +kernel
theorem dX6_bounded_120 : decode cX6_bounded 120 = .ok (.invokevirtual 41, 3) := by decide +kernel
theorem dX6_bounded_123 : decode cX6_bounded 123 = .ok (.aload_n 0, 1) := by decide +kernel
theorem dX6_bounded_124 : decode cX6_bounded 124 = .ok (.iload_n 3, 1) := by decide +kernel
theorem dX6_bounded_125 : decode cX6_bounded 125 = .ok (.iconst 1, 1) := by decide +kernel
theorem dX6_bounded_126 : decode cX6_bounded 126 = .ok (.invokevirtual 41, 3) := by decide +kernel
theorem dX6_bounded_129 : decode cX6_bounded 129 = .ok (.imul, 1) := by decide +kernel
theorem dX6_bounded_130 : decode cX6_bounded 130 = .ok (.isub, 1) := by decide +kernel
theorem dX6_bounded_131 : decode cX6_bounded 131 = .ok (.istore 4, 2) := by decide +kernel
theorem dX6_bounded_133 : decode cX6_bounded 133 = .ok (.aload_n 0, 1) := by decide +kernel
theorem dX6_bounded_134 : decode cX6_bounded 134 = .ok (.iload_n 2, 1) := by decide +kernel
theorem dX6_bounded_135 : decode cX6_bounded 135 = .ok (.iconst 2, 1) := by decide +kernel
theorem dX6_bounded_136 : decode cX6_bounded 136 = .ok (.invokevirtual 41, 3) := by decide +kernel
theorem dX6_bounded_139 : decode cX6_bounded 139 = .ok (.aload_n 0, 1) := by decide +kernel
theorem dX6_bounded_140 : decode cX6_bounded 140 = .ok (.iload_n 3, 1) := by decide +kernel
theorem dX6_bounded_141 : decode cX6_bounded 141 = .ok (.iconst 0, 1) := by decide +kernel
theorem dX6_bounded_142 : decode cX6_bounded 142 = .ok (.invokevirtual 41, 3) := by decide +kernel
theorem dX6_bounded_145 : decode cX6_bounded 145 = .ok (.imul, 1) := by decide +kernel
theorem dX6_bounded_146 : decode cX6_bounded 146 = .ok (.aload_n 0, 1) := by decide +kernel
theorem dX6_bounded_147 : decode cX6_bounded 147 = .ok (.iload_n 2, 1) := by decide +kernel
theorem dX6_bounded_148 : decode cX6_bounded 148 = .ok (.iconst 0, 1) := by decide +kernel
theorem dX6_bounded_149 : decode cX6_bounded 149 = .ok (.invokevirtual 41, 3) := by decide +kernel
theorem dX6_bounded_152 : decode cX6_bounded 152 = .ok (.aload_n 0, 1) := by decide +kernel
theorem dX6_bounded_153 : decode cX6_bounded 153 = .ok (.iload_n 3, 1) := by decide +kernel
theorem dX6_bounded_154 : decode cX6_bounded 154 = .ok (.iconst 2, 1) := by decide +kernel
theorem dX6_bounded_155 : decode cX6_bounded 155 = .ok (.invokevirtual 41, 3) := by decide +kernel
theorem dX6_bounded_158 : decode cX6_bounded 158 = .ok (.imul, 1) := by decide +kernel
theorem dX6_bounded_159 : decode cX6_bounded 159 = .ok (.isub, 1) := by decide +kernel
theorem dX6_bounded_160 : decode cX6_bounded 160 = .ok (.istore 5, 2) := by decide +kernel
theorem dX6_bounded_162 : decode cX6_bounded 162 = .ok (.aload_n 0, 1) := by decide +kernel
theorem dX6_bounded_163 : decode cX6_bounded 163 = .ok (.iload_n 2, 1) := by decide +kernel
theorem dX6_bounded_164 : decode cX6_bounded 164 = .ok (.iconst 0, 1) := by decide +kernel
theorem dX6_bounded_165 : decode cX6_bounded 165 = .ok (.invokevirtual 41, 3) := by decide +kernel
theorem dX6_bounded_168 : decode cX6_bounded 168 = .ok (.aload_n 0, 1) := by decide +kernel
theorem dX6_bounded_169 : decode cX6_bounded 169 = .ok (.iload_n 3, 1) := by decide +kernel
theorem dX6_bounded_170 : decode cX6_bounded 170 = .ok (.iconst 1, 1) := by decide +kernel
theorem dX6_bounded_171 : decode cX6_bounded 171 = .ok (.invokevirtual 41, 3) := by decide +kernel
theorem dX6_bounded_174 : decode cX6_bounded 174 = .ok (.imul, 1) := by decide +kernel
theorem dX6_bounded_175 : decode cX6_bounded 175 = .ok (.aload_n 0, 1) := by decide +kernel
theorem dX6_bounded_176 : decode cX6_bounded 176 = .ok (.iload_n 2, 1) := by decide +kernel
theorem dX6_bounded_177 : decode cX6_bounded 177 = .ok (.iconst 1, 1) := by decide +kernel
theorem dX6_bounded_178 : decode cX6_bounded 178 = .ok (.invokevirtual 41, 3) := by decide +kernel
theorem dX6_bounded_181 : decode cX6_bounded 181 = .ok (.aload_n 0, 1) := by decide +kernel
theorem dX6_bounded_182 : decode cX6_bounded 182 = .ok (.iload_n 3, 1) := by decide +kernel
theorem dX6_bounded_183 : decode cX6_bounded 183 = .ok (.iconst 0, 1) := by decide +kernel
theorem dX6_bounded_184 : decode cX6_bounded 184 = .ok (.invokevirtual 41, 3) := by decide +kernel
theorem dX6_bounded_187 : decode cX6_bounded 187 = .ok (.imul, 1) := by decide +kernel
theorem dX6_bounded_188 : decode cX6_bounded 188 = .ok (.isub, 1) := by decide +kernel
theorem dX6_bounded_189 : decode cX6_bounded 189 = .ok (.istore 6, 2) := by decide +kernel
theorem dX6_bounded_191 : decode cX6_bounded 191 = .ok (.aload_n 0, 1) := by decide +kernel
theorem dX6_bounded_192 : decode cX6_bounded 192 = .ok (.iload_n 1, 1) := by decide +kernel
theorem dX6_bounded_193 : decode cX6_bounded 193 = .ok (.iload 4, 2) := by decide +kernel
theorem dX6_bounded_195 : decode cX6_bounded 195 = .ok (.iload 5, 2) := by decide +kernel
theorem dX6_bounded_197 : decode cX6_bounded 197 = .ok (.iload 6, 2) := by decide +kernel
theorem dX6_bounded_199 : decode cX6_bounded 199 = .ok (.invokevirtual 116, 3) := by decide +kernel
theorem dX6_bounded_202 : decode cX6_bounded 202 = .ok (.ifCond .eq 5, 3) := by decide +kernel
theorem dX6_bounded_205 : decode cX6_bounded 205 = .ok (.iconst 0, 1) := by decide +kernel
theorem dX6_bounded_206 : decode cX6_bounded 206 = .ok (.ireturn, 1) := by decide +kernel
theorem dX6_bounded_207 : decode cX6_bounded 207 = .ok (.iinc 3 1, 3) := by decide +kernel
theorem dX6_bounded_210 : decode cX6_bounded 210 = .ok (.goto (-111), 3) := by decide +kernel
theorem dX6_bounded_213 : decode cX6_bounded 213 = .ok (.iinc 2 1, 3) := by decide +kernel
theorem dX6_bounded_216 : decode cX6_bounded 216 = .ok (.goto (-159), 3) := by decide +kernel
theorem dX6_bounded_219 : decode cX6_bounded 219 = .ok (.iconst 1, 1) := by decide +kernel
theorem dX6_bounded_220 : decode cX6_bounded 220 = .ok (.ireturn, 1) := by decide +kernel
set_option maxRecDepth 20000 in
theorem ggX6_boundedRooms_X6_power : GoodIn wsX6_boundedRooms wsX6_power := goodIn_r _ [5] (by decide +kernel) (by decide +kernel)
set_option maxRecDepth 20000 in
theorem gX6_boundedRooms_X6_power : GoodIn wsX6_boundedRooms (va_wsS RX6 56 yX6_power wsX6_power) := goodIn_app (goodIn_of _ (by decide +kernel)) ggX6_boundedRooms_X6_power
set_option maxRecDepth 20000 in
theorem ggX6_boundedRooms_X6_isRoom : GoodIn wsX6_boundedRooms wsX6_isRoom := goodIn_r _ [9, 10, 11, 12, 4, 13, 14, 15, 16, 17, 18, 19, 1, 2, 3, 5, 20, 21, 22, 23, 24, 25, 26, 27, 28, 29, 30, 31, 32, 33, 34, 35, 36, 37, 38, 39, 40, 41, 42, 43, 44, 45, 46, 47, 48, 49, 50, 51, 52, 53, 54, 55, 56, 57, 58, 59, 60, 61, 62, 63, 64, 82, 83, 84, 85, 86, 87, 88, 89, 90, 91, 92, 93] (by decide +kernel) (by decide +kernel)
set_option maxRecDepth 20000 in
theorem gX6_boundedRooms_X6_isRoom : GoodIn wsX6_boundedRooms (wsV RX6 113 RX6 yX6_isRoom wsX6_isRoom) := goodIn_app (goodIn_of _ (by decide +kernel)) ggX6_boundedRooms_X6_isRoom
set_option maxRecDepth 20000 in
theorem ggX6_boundedRooms_X6_bounded : GoodIn wsX6_boundedRooms wsX6_bounded := goodIn_r _ [68, 1, 24, 6, 7, 8, 4, 9, 10, 11, 12, 13, 14, 15, 16, 17, 18, 19, 2, 3, 5, 20, 21, 22, 23, 25, 26, 27, 28, 29, 30, 31, 32, 33, 34, 35, 36, 37, 38, 39, 40, 41, 42, 43, 44, 45, 46, 47, 48, 49, 50, 51, 52, 53, 54, 55, 56, 57, 58, 59, 60, 61, 62, 63, 64, 69, 70, 71, 72, 73, 74, 75, 76, 77, 78, 79, 80, 81, 82, 83, 84, 85, 86, 87, 88, 89, 90, 91, 92, 93] (by decide +kernel) (by decide +kernel)
set_option maxRecDepth 20000 in
theorem gX6_boundedRooms_X6_bounded : GoodIn wsX6_boundedRooms (wsV RX6 119 RX6 yX6_bounded wsX6_bounded) := goodIn_app (goodIn_of _ (by decide +kernel)) ggX6_boundedRooms_X6_bounded
theorem dX6_boundedRooms_0 : decode cX6_boundedRooms 0 = .ok (.iconst 0, 1) := by decide +kernel
theorem dX6_boundedRooms_1 : decode cX6_boundedRooms 1 = .ok (.istore_n 1, 1) := by decide +kernel
theorem dX6_boundedRooms_2 : decode cX6_boundedRooms 2 = .ok (.iconst 0, 1) := by decide +kernel
theorem dX6_boundedRooms_3 : decode cX6_boundedRooms 3 = .ok (.istore_n 2, 1) := by decide +kernel
theorem dX6_boundedRooms_4 : decode cX6_boundedRooms 4 = .ok (.iload_n 2, 1) := by decide +kernel
theorem dX6_boundedRooms_5 : decode cX6_boundedRooms 5 = .ok (.aload_n 0, 1) := by decide +kernel
theorem dX6_boundedRooms_6 : decode cX6_boundedRooms 6 = .ok (.getfield 49, 3) := by decide +kernel
theorem dX6_boundedRooms_9 : decode cX6_boundedRooms 9 = .ok (.invokestatic 56, 3) := by decide +kernel
theorem dX6_boundedRooms_12 : decode cX6_boundedRooms 12 = .ok (.if_icmp .ge 33, 3) := by decide +kernel
theorem dX6_boundedRooms_15 : decode cX6_boundedRooms 15 = .ok (.iload_n 1, 1) := by decide +kernel
theorem dX6_boundedRooms_16 : decode cX6_boundedRooms 16 = .ok (.aload_n 0, 1) := by decide +kernel
theorem dX6_boundedRooms_17 : decode cX6_boundedRooms 17 = .ok (.iload_n 2, 1) := by decide +kernel
theorem dX6_boundedRooms_18 : decode cX6_boundedRooms 18 = .ok (.invokevirtual 113, 3) := by decide +kernel
theorem dX6_boundedRooms_21 : decode cX6_boundedRooms 21 = .ok (.ifCond .eq 15, 3) := by decide +kernel
theorem dX6_boundedRooms_24 : decode cX6_boundedRooms 24 = .ok (.aload_n 0, 1) := by decide +kernel
theorem dX6_boundedRooms_25 : decode cX6_boundedRooms 25 = .ok (.iload_n 2, 1) := by decide +kernel
theorem dX6_boundedRooms_26 : decode cX6_boundedRooms 26 = .ok (.invokevirtual 119, 3) := by decide +kernel
theorem dX6_boundedRooms_29 : decode cX6_boundedRooms 29 = .ok (.ifCond .eq 7, 3) := by decide +kernel
theorem dX6_boundedRooms_32 : decode cX6_boundedRooms 32 = .ok (.iconst 1, 1) := by decide +kernel
theorem dX6_boundedRooms_33 : decode cX6_boundedRooms 33 = .ok (.goto 4, 3) := by decide +kernel
theorem dX6_boundedRooms_36 : decode cX6_boundedRooms 36 = .ok (.iconst 0, 1) := by decide +kernel
theorem dX6_boundedRooms_37 : decode cX6_boundedRooms 37 = .ok (.iadd, 1) := by decide +kernel
theorem dX6_boundedRooms_38 : decode cX6_boundedRooms 38 = .ok (.istore_n 1, 1) := by decide +kernel
theorem dX6_boundedRooms_39 : decode cX6_boundedRooms 39 = .ok (.iinc 2 1, 3) := by decide +kernel
theorem dX6_boundedRooms_42 : decode cX6_boundedRooms 42 = .ok (.goto (-38), 3) := by decide +kernel
theorem dX6_boundedRooms_45 : decode cX6_boundedRooms 45 = .ok (.iload_n 1, 1) := by decide +kernel
theorem dX6_boundedRooms_46 : decode cX6_boundedRooms 46 = .ok (.ireturn, 1) := by decide +kernel
theorem dX6_odd_0 : decode cX6_odd 0 = .ok (.iconst 0, 1) := by decide +kernel
theorem dX6_odd_1 : decode cX6_odd 1 = .ok (.istore_n 1, 1) := by decide +kernel
theorem dX6_odd_2 : decode cX6_odd 2 = .ok (.iconst 0, 1) := by decide +kernel
theorem dX6_odd_3 : decode cX6_odd 3 = .ok (.istore_n 2, 1) := by decide +kernel
theorem dX6_odd_4 : decode cX6_odd 4 = .ok (.iload_n 2, 1) := by decide +kernel
theorem dX6_odd_5 : decode cX6_odd 5 = .ok (.bipush 8, 2) := by decide +kernel
theorem dX6_odd_7 : decode cX6_odd 7 = .ok (.if_icmp .ge 17, 3) := by decide +kernel
theorem dX6_odd_10 : decode cX6_odd 10 = .ok (.iload_n 1, 1) := by decide +kernel
theorem dX6_odd_11 : decode cX6_odd 11 = .ok (.iload_n 0, 1) := by decide +kernel
theorem dX6_odd_12 : decode cX6_odd 12 = .ok (.iload_n 2, 1) := by decide +kernel
theorem dX6_odd_13 : decode cX6_odd 13 = .ok (.ishr, 1) := by decide +kernel
theorem dX6_odd_14 : decode cX6_odd 14 = .ok (.iconst 1, 1) := by decide +kernel
theorem dX6_odd_15 : decode cX6_odd 15 = .ok (.iand, 1) := by decide +kernel
theorem dX6_odd_16 : decode cX6_odd 16 = .ok (.iadd, 1) := by decide +kernel
theorem dX6_odd_17 : decode cX6_odd 17 = .ok (.istore_n 1, 1) := by decide +kernel
theorem dX6_odd_18 : decode cX6_odd 18 = .ok (.iinc 2 1, 3) := by decide +kernel
theorem dX6_odd_21 : decode cX6_odd 21 = .ok (.goto (-17), 3) := by decide +kernel
theorem dX6_odd_24 : decode cX6_odd 24 = .ok (.iload_n 1, 1) := by decide +kernel
theorem dX6_odd_25 : decode cX6_odd 25 = .ok (.iconst 2, 1) := by decide +kernel
theorem dX6_odd_26 : decode cX6_odd 26 = .ok (.irem, 1) := by decide +kernel
theorem dX6_odd_27 : decode cX6_odd 27 = .ok (.ifCond .ne 7, 3) := by decide +kernel
theorem dX6_odd_30 : decode cX6_odd 30 = .ok (.iconst 1, 1) := by decide +kernel
theorem dX6_odd_31 : decode cX6_odd 31 = .ok (.goto 4, 3) := by decide +kernel
theorem dX6_odd_34 : decode cX6_odd 34 = .ok (.iconst (-1), 1) := by decide +kernel
theorem dX6_odd_35 : decode cX6_odd 35 = .ok (.ireturn, 1) := by decide +kernel
set_option maxRecDepth 20000 in
theorem ggX6_polynomial_X6_meets : GoodIn wsX6_polynomial wsX6_meets := goodIn_r _ [7, 8, 9, 10, 6, 11, 1, 12, 13, 14, 15, 16, 17, 21, 22, 23, 24, 25, 26, 27, 28, 29, 30, 31, 32] (by decide +kernel) (by decide +kernel)
set_option maxRecDepth 20000 in
theorem gX6_polynomial_X6_meets : GoodIn wsX6_polynomial (wsV RX6 122 RX6 yX6_meets wsX6_meets) := goodIn_app (goodIn_of _ (by decide +kernel)) ggX6_polynomial_X6_meets
set_option maxRecDepth 20000 in
theorem ggX6_polynomial_X6_rank : GoodIn wsX6_polynomial wsX6_rank := goodIn_r _ [11, 1, 12, 13, 14, 15, 6, 16, 17, 21, 22, 23, 24, 25, 26, 27, 28, 29, 30, 31, 32] (by decide +kernel) (by decide +kernel)
set_option maxRecDepth 20000 in
theorem gX6_polynomial_X6_rank : GoodIn wsX6_polynomial (wsV RX6 97 RX6 yX6_rank wsX6_rank) := goodIn_app (goodIn_of _ (by decide +kernel)) ggX6_polynomial_X6_rank
set_option maxRecDepth 20000 in
theorem ggX6_polynomial_X6_odd : GoodIn wsX6_polynomial wsX6_odd := goodIn_r _ [20] (by decide +kernel) (by decide +kernel)
set_option maxRecDepth 20000 in
theorem gX6_polynomial_X6_odd : GoodIn wsX6_polynomial (va_wsS RX6 125 yX6_odd wsX6_odd) := goodIn_app (goodIn_of _ (by decide +kernel)) ggX6_polynomial_X6_odd
theorem dX6_polynomial_0 : decode cX6_polynomial 0 = .ok (.iconst 0, 1) := by decide +kernel
theorem dX6_polynomial_1 : decode cX6_polynomial 1 = .ok (.istore_n 3, 1) := by decide +kernel
theorem dX6_polynomial_2 : decode cX6_polynomial 2 = .ok (.iconst 0, 1) := by decide +kernel
theorem dX6_polynomial_3 : decode cX6_polynomial 3 = .ok (.istore 4, 2) := by decide +kernel
theorem dX6_polynomial_5 : decode cX6_polynomial 5 = .ok (.iload 4, 2) := by decide +kernel
theorem dX6_polynomial_7 : decode cX6_polynomial 7 = .ok (.iconst 1, 1) := by decide +kernel
theorem dX6_polynomial_8 : decode cX6_polynomial 8 = .ok (.aload_n 0, 1) := by decide +kernel
theorem dX6_polynomial_9 : decode cX6_polynomial 9 = .ok (.getfield 49, 3) := by decide +kernel
theorem dX6_polynomial_12 : decode cX6_polynomial 12 = .ok (.ishl, 1) := by decide +kernel
theorem dX6_polynomial_13 : decode cX6_polynomial 13 = .ok (.if_icmp .ge 51, 3) := by decide +kernel
theorem dX6_polynomial_16 : decode cX6_polynomial 16 = .ok (.iload 4, 2) := by decide +kernel
theorem dX6_polynomial_18 : decode cX6_polynomial 18 = .ok (.iload_n 1, 1) := by decide +kernel
theorem dX6_polynomial_19 : decode cX6_polynomial 19 = .ok (.iconst (-1), 1) := by decide +kernel
theorem dX6_polynomial_20 : decode cX6_polynomial 20 = .ok (.ixor, 1) := by decide +kernel
theorem dX6_polynomial_21 : decode cX6_polynomial 21 = .ok (.iand, 1) := by decide +kernel
theorem dX6_polynomial_22 : decode cX6_polynomial 22 = .ok (.ifCond .ne 36, 3) := by decide +kernel
theorem dX6_polynomial_25 : decode cX6_polynomial 25 = .ok (.aload_n 0, 1) := by decide +kernel
theorem dX6_polynomial_26 : decode cX6_polynomial 26 = .ok (.iload 4, 2) := by decide +kernel
theorem dX6_polynomial_28 : decode cX6_polynomial 28 = .ok (.invokevirtual 122, 3) := by decide +kernel
theorem dX6_polynomial_31 : decode cX6_polynomial 31 = .ok (.ifCond .eq 27, 3) := by decide +kernel
theorem dX6_polynomial_34 : decode cX6_polynomial 34 = .ok (.aload_n 0, 1) := by decide +kernel
theorem dX6_polynomial_35 : decode cX6_polynomial 35 = .ok (.getfield 37, 3) := by decide +kernel
theorem dX6_polynomial_38 : decode cX6_polynomial 38 = .ok (.aload_n 0, 1) := by decide +kernel
theorem dX6_polynomial_39 : decode cX6_polynomial 39 = .ok (.iload 4, 2) := by decide +kernel
theorem dX6_polynomial_41 : decode cX6_polynomial 41 = .ok (.iconst 3, 1) := by decide +kernel
theorem dX6_polynomial_42 : decode cX6_polynomial 42 = .ok (.invokevirtual 97, 3) := by decide +kernel
theorem dX6_polynomial_45 : decode cX6_polynomial 45 = .ok (.isub, 1) := by decide +kernel
theorem dX6_polynomial_46 : decode cX6_polynomial 46 = .ok (.iload_n 2, 1) := by decide +kernel
theorem dX6_polynomial_47 : decode cX6_polynomial 47 = .ok (.if_icmp .ne 11, 3) := by decide +kernel
theorem dX6_polynomial_50 : decode cX6_polynomial 50 = .ok (.iload_n 3, 1) := by decide +kernel
theorem dX6_polynomial_51 : decode cX6_polynomial 51 = .ok (.iload 4, 2) := by decide +kernel
theorem dX6_polynomial_53 : decode cX6_polynomial 53 = .ok (.invokestatic 125, 3) := by decide +kernel
theorem dX6_polynomial_56 : decode cX6_polynomial 56 = .ok (.iadd, 1) := by decide +kernel
theorem dX6_polynomial_57 : decode cX6_polynomial 57 = .ok (.istore_n 3, 1) := by decide +kernel
theorem dX6_polynomial_58 : decode cX6_polynomial 58 = .ok (.iinc 4 1, 3) := by decide +kernel
theorem dX6_polynomial_61 : decode cX6_polynomial 61 = .ok (.goto (-56), 3) := by decide +kernel
theorem dX6_polynomial_64 : decode cX6_polynomial 64 = .ok (.iload_n 3, 1) := by decide +kernel
theorem dX6_polynomial_65 : decode cX6_polynomial 65 = .ok (.ireturn, 1) := by decide +kernel
set_option maxRecDepth 20000 in
theorem ggX6_poly_X6_polynomial : GoodIn wsX6_poly wsX6_polynomial := goodIn_r _ [6, 1, 7, 8, 9, 10, 5, 11, 12, 13, 14, 15, 16, 17, 18, 19, 20, 21, 22, 23, 24, 25, 26, 27, 28, 29, 30, 31, 32, 33, 34, 35, 36] (by decide +kernel) (by decide +kernel)
set_option maxRecDepth 20000 in
theorem gX6_poly_X6_polynomial : GoodIn wsX6_poly (wsV RX6 128 RX6 yX6_polynomial wsX6_polynomial) := goodIn_app (goodIn_of _ (by decide +kernel)) ggX6_poly_X6_polynomial
theorem dX6_poly_0 : decode cX6_poly 0 = .ok (.aload_n 0, 1) := by decide +kernel
theorem dX6_poly_1 : decode cX6_poly 1 = .ok (.iconst 1, 1) := by decide +kernel
theorem dX6_poly_2 : decode cX6_poly 2 = .ok (.aload_n 0, 1) := by decide +kernel
theorem dX6_poly_3 : decode cX6_poly 3 = .ok (.getfield 49, 3) := by decide +kernel
theorem dX6_poly_6 : decode cX6_poly 6 = .ok (.ishl, 1) := by decide +kernel
theorem dX6_poly_7 : decode cX6_poly 7 = .ok (.iconst 1, 1) := by decide +kernel
theorem dX6_poly_8 : decode cX6_poly 8 = .ok (.isub, 1) := by decide +kernel
theorem dX6_poly_9 : decode cX6_poly 9 = .ok (.iload_n 1, 1) := by decide +kernel
theorem dX6_poly_10 : decode cX6_poly 10 = .ok (.invokevirtual 128, 3) := by decide +kernel
theorem dX6_poly_13 : decode cX6_poly 13 = .ok (.ireturn, 1) := by decide +kernel
set_option maxRecDepth 20000 in
theorem ggX6_without_X6_in : GoodIn wsX6_without wsX6_in := goodIn_r _ [5] (by decide +kernel) (by decide +kernel)
set_option maxRecDepth 20000 in
theorem gX6_without_X6_in : GoodIn wsX6_without (va_wsS RX6 45 yX6_in wsX6_in) := goodIn_app (goodIn_of _ (by decide +kernel)) ggX6_without_X6_in
set_option maxRecDepth 20000 in
theorem ggX6_without_X6_polynomial : GoodIn wsX6_without wsX6_polynomial := goodIn_r _ [9, 1, 10, 11, 12, 13, 4, 14, 15, 16, 17, 18, 19, 20, 21, 22, 23, 24, 25, 26, 27, 28, 29, 30, 31, 32, 33, 34, 35, 36, 37, 38, 39] (by decide +kernel) (by decide +kernel)
set_option maxRecDepth 20000 in
theorem gX6_without_X6_polynomial : GoodIn wsX6_without (wsV RX6 128 RX6 yX6_polynomial wsX6_polynomial) := goodIn_app (goodIn_of _ (by decide +kernel)) ggX6_without_X6_polynomial
theorem dX6_without_0 : decode cX6_without 0 = .ok (.iload_n 1, 1) := by decide +kernel
theorem dX6_without_1 : decode cX6_without 1 = .ok (.iconst 0, 1) := by decide +kernel
theorem dX6_without_2 : decode cX6_without 2 = .ok (.aload_n 0, 1) := by decide +kernel
theorem dX6_without_3 : decode cX6_without 3 = .ok (.getfield 49, 3) := by decide +kernel
theorem dX6_without_6 : decode cX6_without 6 = .ok (.iconst 1, 1) := by decide +kernel
theorem dX6_without_7 : decode cX6_without 7 = .ok (.isub, 1) := by decide +kernel
theorem dX6_without_8 : decode cX6_without 8 = .ok (.invokestatic 45, 3) := by decide +kernel
theorem dX6_without_11 : decode cX6_without 11 = .ok (.ifCond .eq 25, 3) := by decide +kernel
theorem dX6_without_14 : decode cX6_without 14 = .ok (.aload_n 0, 1) := by decide +kernel
theorem dX6_without_15 : decode cX6_without 15 = .ok (.iconst 1, 1) := by decide +kernel
theorem dX6_without_16 : decode cX6_without 16 = .ok (.aload_n 0, 1) := by decide +kernel
theorem dX6_without_17 : decode cX6_without 17 = .ok (.getfield 49, 3) := by decide +kernel
theorem dX6_without_20 : decode cX6_without 20 = .ok (.ishl, 1) := by decide +kernel
theorem dX6_without_21 : decode cX6_without 21 = .ok (.iconst 1, 1) := by decide +kernel
theorem dX6_without_22 : decode cX6_without 22 = .ok (.isub, 1) := by decide +kernel
theorem dX6_without_23 : decode cX6_without 23 = .ok (.iconst 1, 1) := by decide +kernel
theorem dX6_without_24 : decode cX6_without 24 = .ok (.iload_n 1, 1) := by decide +kernel
theorem dX6_without_25 : decode cX6_without 25 = .ok (.ishl, 1) := by decide +kernel
theorem dX6_without_26 : decode cX6_without 26 = .ok (.iconst (-1), 1) := by decide +kernel
theorem dX6_without_27 : decode cX6_without 27 = .ok (.ixor, 1) := by decide +kernel
theorem dX6_without_28 : decode cX6_without 28 = .ok (.iand, 1) := by decide +kernel
theorem dX6_without_29 : decode cX6_without 29 = .ok (.iload_n 2, 1) := by decide +kernel
theorem dX6_without_30 : decode cX6_without 30 = .ok (.invokevirtual 128, 3) := by decide +kernel
theorem dX6_without_33 : decode cX6_without 33 = .ok (.goto 4, 3) := by decide +kernel
theorem dX6_without_36 : decode cX6_without 36 = .ok (.iconst 0, 1) := by decide +kernel
theorem dX6_without_37 : decode cX6_without 37 = .ok (.ireturn, 1) := by decide +kernel
set_option maxRecDepth 20000 in
theorem ggX6_on_X6_in : GoodIn wsX6_on wsX6_in := goodIn_r _ [6] (by decide +kernel) (by decide +kernel)
set_option maxRecDepth 20000 in
theorem gX6_on_X6_in : GoodIn wsX6_on (va_wsS RX6 45 yX6_in wsX6_in) := goodIn_app (goodIn_of _ (by decide +kernel)) ggX6_on_X6_in
set_option maxRecDepth 20000 in
theorem ggX6_on_X6_meets : GoodIn wsX6_on wsX6_meets := goodIn_r _ [10, 11, 12, 13, 5, 14, 1, 15, 16, 17, 18, 19, 20, 24, 25, 26, 27, 28, 29, 30, 31, 32, 33, 34, 35] (by decide +kernel) (by decide +kernel)
set_option maxRecDepth 20000 in
theorem gX6_on_X6_meets : GoodIn wsX6_on (wsV RX6 122 RX6 yX6_meets wsX6_meets) := goodIn_app (goodIn_of _ (by decide +kernel)) ggX6_on_X6_meets
set_option maxRecDepth 20000 in
theorem ggX6_on_X6_rank : GoodIn wsX6_on wsX6_rank := goodIn_r _ [14, 1, 15, 16, 17, 18, 5, 19, 20, 24, 25, 26, 27, 28, 29, 30, 31, 32, 33, 34, 35] (by decide +kernel) (by decide +kernel)
set_option maxRecDepth 20000 in
theorem gX6_on_X6_rank : GoodIn wsX6_on (wsV RX6 97 RX6 yX6_rank wsX6_rank) := goodIn_app (goodIn_of _ (by decide +kernel)) ggX6_on_X6_rank
set_option maxRecDepth 20000 in
theorem ggX6_on_X6_odd : GoodIn wsX6_on wsX6_odd := goodIn_r _ [23] (by decide +kernel) (by decide +kernel)
set_option maxRecDepth 20000 in
theorem gX6_on_X6_odd : GoodIn wsX6_on (va_wsS RX6 125 yX6_odd wsX6_odd) := goodIn_app (goodIn_of _ (by decide +kernel)) ggX6_on_X6_odd
theorem dX6_on_0 : decode cX6_on 0 = .ok (.iload_n 1, 1) := by decide +kernel
theorem dX6_on_1 : decode cX6_on 1 = .ok (.iconst 0, 1) := by decide +kernel
theorem dX6_on_2 : decode cX6_on 2 = .ok (.aload_n 0, 1) := by decide +kernel
theorem dX6_on_3 : decode cX6_on 3 = .ok (.getfield 49, 3) := by decide +kernel
theorem dX6_on_6 : decode cX6_on 6 = .ok (.iconst 1, 1) := by decide +kernel
theorem dX6_on_7 : decode cX6_on 7 = .ok (.isub, 1) := by decide +kernel
theorem dX6_on_8 : decode cX6_on 8 = .ok (.invokestatic 45, 3) := by decide +kernel
theorem dX6_on_11 : decode cX6_on 11 = .ok (.ifCond .ne 5, 3) := by decide +kernel
theorem dX6_on_14 : decode cX6_on 14 = .ok (.iconst 0, 1) := by decide +kernel
theorem dX6_on_15 : decode cX6_on 15 = .ok (.ireturn, 1) := by decide +kernel
theorem dX6_on_16 : decode cX6_on 16 = .ok (.iconst 1, 1) := by decide +kernel
theorem dX6_on_17 : decode cX6_on 17 = .ok (.iload_n 1, 1) := by decide +kernel
theorem dX6_on_18 : decode cX6_on 18 = .ok (.ishl, 1) := by decide +kernel
theorem dX6_on_19 : decode cX6_on 19 = .ok (.istore_n 3, 1) := by decide +kernel
theorem dX6_on_20 : decode cX6_on 20 = .ok (.iconst 0, 1) := by decide +kernel
theorem dX6_on_21 : decode cX6_on 21 = .ok (.istore 4, 2) := by decide +kernel
theorem dX6_on_23 : decode cX6_on 23 = .ok (.iconst 0, 1) := by decide +kernel
theorem dX6_on_24 : decode cX6_on 24 = .ok (.istore 5, 2) := by decide +kernel
theorem dX6_on_26 : decode cX6_on 26 = .ok (.iload 5, 2) := by decide +kernel
theorem dX6_on_28 : decode cX6_on 28 = .ok (.aload_n 0, 1) := by decide +kernel
theorem dX6_on_29 : decode cX6_on 29 = .ok (.getfield 49, 3) := by decide +kernel
theorem dX6_on_32 : decode cX6_on 32 = .ok (.if_icmp .ge 113, 3) := by decide +kernel
theorem dX6_on_35 : decode cX6_on 35 = .ok (.iload 5, 2) := by decide +kernel
theorem dX6_on_37 : decode cX6_on 37 = .ok (.iload_n 1, 1) := by decide +kernel
theorem dX6_on_38 : decode cX6_on 38 = .ok (.if_icmp .eq 101, 3) := by decide +kernel
theorem dX6_on_41 : decode cX6_on 41 = .ok (.aload_n 0, 1) := by decide +kernel
theorem dX6_on_42 : decode cX6_on 42 = .ok (.iload_n 3, 1) := by decide +kernel
theorem dX6_on_43 : decode cX6_on 43 = .ok (.iconst 1, 1) := by decide +kernel
theorem dX6_on_44 : decode cX6_on 44 = .ok (.iload 5, 2) := by decide +kernel
theorem dX6_on_46 : decode cX6_on 46 = .ok (.ishl, 1) := by decide +kernel
theorem dX6_on_47 : decode cX6_on 47 = .ok (.ior, 1) := by decide +kernel
theorem dX6_on_48 : decode cX6_on 48 = .ok (.invokevirtual 122, 3) := by decide +kernel
theorem dX6_on_51 : decode cX6_on 51 = .ok (.ifCond .eq 88, 3) := by decide +kernel
theorem dX6_on_54 : decode cX6_on 54 = .ok (.aload_n 0, 1) := by decide +kernel
theorem dX6_on_55 : decode cX6_on 55 = .ok (.iload_n 3, 1) := by decide +kernel
theorem dX6_on_56 : decode cX6_on 56 = .ok (.iconst 1, 1) := by decide +kernel
theorem dX6_on_57 : decode cX6_on 57 = .ok (.iload 5, 2) := by decide +kernel
theorem dX6_on_59 : decode cX6_on 59 = .ok (.ishl, 1) := by decide +kernel
theorem dX6_on_60 : decode cX6_on 60 = .ok (.ior, 1) := by decide +kernel
theorem dX6_on_61 : decode cX6_on 61 = .ok (.iconst 3, 1) := by decide +kernel
theorem dX6_on_62 : decode cX6_on 62 = .ok (.invokevirtual 97, 3) := by decide +kernel
theorem dX6_on_65 : decode cX6_on 65 = .ok (.iconst 2, 1) := by decide +kernel
theorem dX6_on_66 : decode cX6_on 66 = .ok (.if_icmp .ge 6, 3) := by decide +kernel
theorem dX6_on_69 : decode cX6_on 69 = .ok (.goto 70, 3) := by decide +kernel
theorem dX6_on_72 : decode cX6_on 72 = .ok (.iconst 1, 1) := by decide +kernel
theorem dX6_on_73 : decode cX6_on 73 = .ok (.istore 6, 2) := by decide +kernel
theorem dX6_on_75 : decode cX6_on 75 = .ok (.iconst 0, 1) := by decide +kernel
theorem dX6_on_76 : decode cX6_on 76 = .ok (.istore 7, 2) := by decide +kernel
theorem dX6_on_78 : decode cX6_on 78 = .ok (.iload 7, 2) := by decide +kernel
theorem dX6_on_80 : decode cX6_on 80 = .ok (.iload 5, 2) := by decide +kernel
theorem dX6_on_82 : decode cX6_on 82 = .ok (.if_icmp .ge 43, 3) := by decide +kernel
theorem dX6_on_85 : decode cX6_on 85 = .ok (.iload 4, 2) := by decide +kernel
theorem dX6_on_87 : decode cX6_on 87 = .ok (.iload 7, 2) := by decide +kernel
theorem dX6_on_89 : decode cX6_on 89 = .ok (.ishr, 1) := by decide +kernel
theorem dX6_on_90 : decode cX6_on 90 = .ok (.iconst 1, 1) := by decide +kernel
theorem dX6_on_91 : decode cX6_on 91 = .ok (.iand, 1) := by decide +kernel
theorem dX6_on_92 : decode cX6_on 92 = .ok (.iconst 1, 1) := by decide +kernel
theorem dX6_on_93 : decode cX6_on 93 = .ok (.if_icmp .ne 26, 3) := by decide +kernel
theorem dX6_on_96 : decode cX6_on 96 = .ok (.aload_n 0, 1) := by decide +kernel
theorem dX6_on_97 : decode cX6_on 97 = .ok (.iload_n 3, 1) := by decide +kernel
theorem dX6_on_98 : decode cX6_on 98 = .ok (.iconst 1, 1) := by decide +kernel
theorem dX6_on_99 : decode cX6_on 99 = .ok (.iload 5, 2) := by decide +kernel
theorem dX6_on_101 : decode cX6_on 101 = .ok (.ishl, 1) := by decide +kernel
theorem dX6_on_102 : decode cX6_on 102 = .ok (.ior, 1) := by decide +kernel
theorem dX6_on_103 : decode cX6_on 103 = .ok (.iconst 1, 1) := by decide +kernel
theorem dX6_on_104 : decode cX6_on 104 = .ok (.iload 7, 2) := by decide +kernel
theorem dX6_on_106 : decode cX6_on 106 = .ok (.ishl, 1) := by decide +kernel
theorem dX6_on_107 : decode cX6_on 107 = .ok (.ior, 1) := by decide +kernel
theorem dX6_on_108 : decode cX6_on 108 = .ok (.iconst 4, 1) := by decide +kernel
theorem dX6_on_109 : decode cX6_on 109 = .ok (.invokevirtual 97, 3) := by decide +kernel
theorem dX6_on_112 : decode cX6_on 112 = .ok (.iconst 2, 1) := by decide +kernel
theorem dX6_on_113 : decode cX6_on 113 = .ok (.if_icmp .ne 6, 3) := by decide +kernel
theorem dX6_on_116 : decode cX6_on 116 = .ok (.iconst 0, 1) := by decide +kernel
theorem dX6_on_117 : decode cX6_on 117 = .ok (.istore 6, 2) := by decide +kernel
theorem dX6_on_119 : decode cX6_on 119 = .ok (.iinc 7 1, 3) := by decide +kernel
theorem dX6_on_122 : decode cX6_on 122 = .ok (.goto (-44), 3) := by decide +kernel
theorem dX6_on_125 : decode cX6_on 125 = .ok (.iload 6, 2) := by decide +kernel
theorem dX6_on_127 : decode cX6_on 127 = .ok (.ifCond .eq 12, 3) := by decide +kernel
theorem dX6_on_130 : decode cX6_on 130 = .ok (.iload 4, 2) := by decide +kernel
theorem dX6_on_132 : decode cX6_on 132 = .ok (.iconst 1, 1) := by decide +kernel
theorem dX6_on_133 : decode cX6_on 133 = .ok (.iload 5, 2) := by decide +kernel
theorem dX6_on_135 : decode cX6_on 135 = .ok (.ishl, 1) := by decide +kernel
theorem dX6_on_136 : decode cX6_on 136 = .ok (.ior, 1) := by decide +kernel
theorem dX6_on_137 : decode cX6_on 137 = .ok (.istore 4, 2) := by decide +kernel
theorem dX6_on_139 : decode cX6_on 139 = .ok (.iinc 5 1, 3) := by decide +kernel
theorem dX6_on_142 : decode cX6_on 142 = .ok (.goto (-116), 3) := by decide +kernel
theorem dX6_on_145 : decode cX6_on 145 = .ok (.iconst 0, 1) := by decide +kernel
theorem dX6_on_146 : decode cX6_on 146 = .ok (.istore 5, 2) := by decide +kernel
theorem dX6_on_148 : decode cX6_on 148 = .ok (.iconst 0, 1) := by decide +kernel
theorem dX6_on_149 : decode cX6_on 149 = .ok (.istore 6, 2) := by decide +kernel
theorem dX6_on_151 : decode cX6_on 151 = .ok (.iload 6, 2) := by decide +kernel
theorem dX6_on_153 : decode cX6_on 153 = .ok (.iconst 1, 1) := by decide +kernel
theorem dX6_on_154 : decode cX6_on 154 = .ok (.aload_n 0, 1) := by decide +kernel
theorem dX6_on_155 : decode cX6_on 155 = .ok (.getfield 49, 3) := by decide +kernel
theorem dX6_on_158 : decode cX6_on 158 = .ok (.ishl, 1) := by decide +kernel
theorem dX6_on_159 : decode cX6_on 159 = .ok (.if_icmp .ge 58, 3) := by decide +kernel
theorem dX6_on_162 : decode cX6_on 162 = .ok (.iload 6, 2) := by decide +kernel
theorem dX6_on_164 : decode cX6_on 164 = .ok (.iload 4, 2) := by decide +kernel
theorem dX6_on_166 : decode cX6_on 166 = .ok (.iconst (-1), 1) := by decide +kernel
theorem dX6_on_167 : decode cX6_on 167 = .ok (.ixor, 1) := by decide +kernel
theorem dX6_on_168 : decode cX6_on 168 = .ok (.iand, 1) := by decide +kernel
theorem dX6_on_169 : decode cX6_on 169 = .ok (.ifCond .ne 42, 3) := by decide +kernel
theorem dX6_on_172 : decode cX6_on 172 = .ok (.aload_n 0, 1) := by decide +kernel
theorem dX6_on_173 : decode cX6_on 173 = .ok (.iload 6, 2) := by decide +kernel
theorem dX6_on_175 : decode cX6_on 175 = .ok (.iload_n 3, 1) := by decide +kernel
theorem dX6_on_176 : decode cX6_on 176 = .ok (.ior, 1) := by decide +kernel
theorem dX6_on_177 : decode cX6_on 177 = .ok (.invokevirtual 122, 3) := by decide +kernel
theorem dX6_on_180 : decode cX6_on 180 = .ok (.ifCond .eq 31, 3) := by decide +kernel
theorem dX6_on_183 : decode cX6_on 183 = .ok (.aload_n 0, 1) := by decide +kernel
theorem dX6_on_184 : decode cX6_on 184 = .ok (.getfield 37, 3) := by decide +kernel
theorem dX6_on_187 : decode cX6_on 187 = .ok (.aload_n 0, 1) := by decide +kernel
theorem dX6_on_188 : decode cX6_on 188 = .ok (.iload 6, 2) := by decide +kernel
theorem dX6_on_190 : decode cX6_on 190 = .ok (.iload_n 3, 1) := by decide +kernel
theorem dX6_on_191 : decode cX6_on 191 = .ok (.ior, 1) := by decide +kernel
theorem dX6_on_192 : decode cX6_on 192 = .ok (.iconst 3, 1) := by decide +kernel
theorem dX6_on_193 : decode cX6_on 193 = .ok (.invokevirtual 97, 3) := by decide +kernel
theorem dX6_on_196 : decode cX6_on 196 = .ok (.isub, 1) := by decide +kernel
theorem dX6_on_197 : decode cX6_on 197 = .ok (.iload_n 2, 1) := by decide +kernel
theorem dX6_on_198 : decode cX6_on 198 = .ok (.if_icmp .ne 13, 3) := by decide +kernel
theorem dX6_on_201 : decode cX6_on 201 = .ok (.iload 5, 2) := by decide +kernel
theorem dX6_on_203 : decode cX6_on 203 = .ok (.iload 6, 2) := by decide +kernel
theorem dX6_on_205 : decode cX6_on 205 = .ok (.invokestatic 125, 3) := by decide +kernel
theorem dX6_on_208 : decode cX6_on 208 = .ok (.iadd, 1) := by decide +kernel
theorem dX6_on_209 : decode cX6_on 209 = .ok (.istore 5, 2) := by decide +kernel
theorem dX6_on_211 : decode cX6_on 211 = .ok (.iinc 6 1, 3) := by decide +kernel
theorem dX6_on_214 : decode cX6_on 214 = .ok (.goto (-63), 3) := by decide +kernel
theorem dX6_on_217 : decode cX6_on 217 = .ok (.iload 5, 2) := by decide +kernel
theorem dX6_on_219 : decode cX6_on 219 = .ok (.ireturn, 1) := by decide +kernel
set_option maxRecDepth 20000 in
theorem ggX6_across_X6_power : GoodIn wsX6_across wsX6_power := goodIn_r _ [4] (by decide +kernel) (by decide +kernel)
set_option maxRecDepth 20000 in
theorem gX6_across_X6_power : GoodIn wsX6_across (va_wsS RX6 56 yX6_power wsX6_power) := goodIn_app (goodIn_of _ (by decide +kernel)) ggX6_across_X6_power
set_option maxRecDepth 20000 in
theorem ggX6_across_X6_sign : GoodIn wsX6_across wsX6_sign := goodIn_r _ [7, 1, 2, 3, 4] (by decide +kernel) (by decide +kernel)
set_option maxRecDepth 20000 in
theorem gX6_across_X6_sign : GoodIn wsX6_across (va_wsS RX6 79 yX6_sign wsX6_sign) := goodIn_app (goodIn_of _ (by decide +kernel)) ggX6_across_X6_sign
theorem dX6_across_0 : decode cX6_across 0 = .ok (.iload_n 0, 1) := by decide +kernel
theorem dX6_across_1 : decode cX6_across 1 = .ok (.iload_n 1, 1) := by decide +kernel
theorem dX6_across_2 : decode cX6_across 2 = .ok (.invokestatic 56, 3) := by decide +kernel
theorem dX6_across_5 : decode cX6_across 5 = .ok (.iconst 2, 1) := by decide +kernel
theorem dX6_across_6 : decode cX6_across 6 = .ok (.iconst 2, 1) := by decide +kernel
theorem dX6_across_7 : decode cX6_across 7 = .ok (.iload_n 0, 1) := by decide +kernel
theorem dX6_across_8 : decode cX6_across 8 = .ok (.iload_n 1, 1) := by decide +kernel
theorem dX6_across_9 : decode cX6_across 9 = .ok (.invokestatic 79, 3) := by decide +kernel
theorem dX6_across_12 : decode cX6_across 12 = .ok (.imul, 1) := by decide +kernel
theorem dX6_across_13 : decode cX6_across 13 = .ok (.isub, 1) := by decide +kernel
theorem dX6_across_14 : decode cX6_across 14 = .ok (.imul, 1) := by decide +kernel
theorem dX6_across_15 : decode cX6_across 15 = .ok (.iadd, 1) := by decide +kernel
theorem dX6_across_16 : decode cX6_across 16 = .ok (.ireturn, 1) := by decide +kernel
set_option maxRecDepth 20000 in
theorem ggX6_walls_X6_isRoom : GoodIn wsX6_walls wsX6_isRoom := goodIn_r _ [6, 7, 8, 9, 5, 10, 11, 12, 13, 14, 15, 16, 1, 17, 18, 19, 20, 21, 22, 23, 24, 25, 26, 27, 28, 29, 30, 31, 32, 33, 34, 35, 36, 37, 38, 39, 40, 41, 42, 43, 44, 45, 46, 47, 48, 49, 50, 51, 52, 53, 54, 55, 56, 57, 58, 59, 60, 61, 62, 63, 64, 68, 69, 70, 71, 72, 73, 74, 75, 76, 77, 78, 79] (by decide +kernel) (by decide +kernel)
set_option maxRecDepth 20000 in
theorem gX6_walls_X6_isRoom : GoodIn wsX6_walls (wsV RX6 113 RX6 yX6_isRoom wsX6_isRoom) := goodIn_app (goodIn_of _ (by decide +kernel)) ggX6_walls_X6_isRoom
set_option maxRecDepth 20000 in
theorem ggX6_walls_X6_across : GoodIn wsX6_walls wsX6_across := goodIn_r _ [67, 17, 18, 5, 19, 32, 33, 34] (by decide +kernel) (by decide +kernel)
set_option maxRecDepth 20000 in
theorem gX6_walls_X6_across : GoodIn wsX6_walls (va_wsS RX6 131 yX6_across wsX6_across) := goodIn_app (goodIn_of _ (by decide +kernel)) ggX6_walls_X6_across
theorem dX6_walls_0 : decode cX6_walls 0 = .ok (.aload_n 0, 1) := by decide +kernel
theorem dX6_walls_1 : decode cX6_walls 1 = .ok (.iload_n 1, 1) := by decide +kernel
theorem dX6_walls_2 : decode cX6_walls 2 = .ok (.invokevirtual 113, 3) := by decide +kernel
theorem dX6_walls_5 : decode cX6_walls 5 = .ok (.ifCond .ne 5, 3) := by decide +kernel
theorem dX6_walls_8 : decode cX6_walls 8 = .ok (.iconst (-1), 1) := by decide +kernel
theorem dX6_walls_9 : decode cX6_walls 9 = .ok (.ireturn, 1) := by decide +kernel
theorem dX6_walls_10 : decode cX6_walls 10 = .ok (.iconst 0, 1) := by decide +kernel
theorem dX6_walls_11 : decode cX6_walls 11 = .ok (.istore_n 2, 1) := by decide +kernel
theorem dX6_walls_12 : decode cX6_walls 12 = .ok (.iconst 0, 1) := by decide +kernel
theorem dX6_walls_13 : decode cX6_walls 13 = .ok (.istore_n 3, 1) := by decide +kernel
theorem dX6_walls_14 : decode cX6_walls 14 = .ok (.iload_n 3, 1) := by decide +kernel
theorem dX6_walls_15 : decode cX6_walls 15 = .ok (.aload_n 0, 1) := by decide +kernel
theorem dX6_walls_16 : decode cX6_walls 16 = .ok (.getfield 49, 3) := by decide +kernel
theorem dX6_walls_19 : decode cX6_walls 19 = .ok (.if_icmp .ge 31, 3) := by decide +kernel
theorem dX6_walls_22 : decode cX6_walls 22 = .ok (.iload_n 2, 1) := by decide +kernel
theorem dX6_walls_23 : decode cX6_walls 23 = .ok (.aload_n 0, 1) := by decide +kernel
theorem dX6_walls_24 : decode cX6_walls 24 = .ok (.iload_n 1, 1) := by decide +kernel
theorem dX6_walls_25 : decode cX6_walls 25 = .ok (.iload_n 3, 1) := by decide +kernel
theorem dX6_walls_26 : decode cX6_walls 26 = .ok (.invokestatic 131, 3) := by decide +kernel
theorem dX6_walls_29 : decode cX6_walls 29 = .ok (.invokevirtual 113, 3) := by decide +kernel
theorem dX6_walls_32 : decode cX6_walls 32 = .ok (.ifCond .eq 9, 3) := by decide +kernel
theorem dX6_walls_35 : decode cX6_walls 35 = .ok (.iconst 1, 1) := by decide +kernel
theorem dX6_walls_36 : decode cX6_walls 36 = .ok (.iload_n 3, 1) := by decide +kernel
theorem dX6_walls_37 : decode cX6_walls 37 = .ok (.ishl, 1) := by decide +kernel
theorem dX6_walls_38 : decode cX6_walls 38 = .ok (.goto 4, 3) := by decide +kernel
theorem dX6_walls_41 : decode cX6_walls 41 = .ok (.iconst 0, 1) := by decide +kernel
theorem dX6_walls_42 : decode cX6_walls 42 = .ok (.ior, 1) := by decide +kernel
theorem dX6_walls_43 : decode cX6_walls 43 = .ok (.istore_n 2, 1) := by decide +kernel
theorem dX6_walls_44 : decode cX6_walls 44 = .ok (.iinc 3 1, 3) := by decide +kernel
theorem dX6_walls_47 : decode cX6_walls 47 = .ok (.goto (-33), 3) := by decide +kernel
theorem dX6_walls_50 : decode cX6_walls 50 = .ok (.iload_n 2, 1) := by decide +kernel
theorem dX6_walls_51 : decode cX6_walls 51 = .ok (.ireturn, 1) := by decide +kernel
set_option maxRecDepth 20000 in
theorem ggX6_beside_X6_isRoom : GoodIn wsX6_beside wsX6_isRoom := goodIn_r _ [6, 7, 8, 9, 5, 10, 11, 12, 13, 14, 15, 16, 1, 17, 18, 19, 20, 21, 22, 23, 24, 25, 26, 27, 28, 29, 30, 31, 32, 33, 34, 35, 36, 37, 38, 39, 40, 41, 42, 43, 44, 45, 46, 47, 48, 49, 50, 51, 52, 53, 54, 55, 56, 57, 58, 59, 60, 61, 62, 63, 64, 68, 69, 70, 71, 72, 73, 74, 75, 76, 77, 78, 79] (by decide +kernel) (by decide +kernel)
set_option maxRecDepth 20000 in
theorem gX6_beside_X6_isRoom : GoodIn wsX6_beside (wsV RX6 113 RX6 yX6_isRoom wsX6_isRoom) := goodIn_app (goodIn_of _ (by decide +kernel)) ggX6_beside_X6_isRoom
set_option maxRecDepth 20000 in
theorem ggX6_beside_X6_in : GoodIn wsX6_beside wsX6_in := goodIn_r _ [60] (by decide +kernel) (by decide +kernel)
set_option maxRecDepth 20000 in
theorem gX6_beside_X6_in : GoodIn wsX6_beside (va_wsS RX6 45 yX6_in wsX6_in) := goodIn_app (goodIn_of _ (by decide +kernel)) ggX6_beside_X6_in
set_option maxRecDepth 20000 in
theorem ggX6_beside_X6_across : GoodIn wsX6_beside wsX6_across := goodIn_r _ [67, 17, 18, 5, 19, 32, 33, 34] (by decide +kernel) (by decide +kernel)
set_option maxRecDepth 20000 in
theorem gX6_beside_X6_across : GoodIn wsX6_beside (va_wsS RX6 131 yX6_across wsX6_across) := goodIn_app (goodIn_of _ (by decide +kernel)) ggX6_beside_X6_across
theorem dX6_beside_0 : decode cX6_beside 0 = .ok (.aload_n 0, 1) := by decide +kernel
theorem dX6_beside_1 : decode cX6_beside 1 = .ok (.iload_n 1, 1) := by decide +kernel
theorem dX6_beside_2 : decode cX6_beside 2 = .ok (.invokevirtual 113, 3) := by decide +kernel
theorem dX6_beside_5 : decode cX6_beside 5 = .ok (.ifCond .eq 17, 3) := by decide +kernel
theorem dX6_beside_8 : decode cX6_beside 8 = .ok (.iload_n 2, 1) := by decide +kernel
theorem dX6_beside_9 : decode cX6_beside 9 = .ok (.iconst 0, 1) := by decide +kernel
theorem dX6_beside_10 : decode cX6_beside 10 = .ok (.aload_n 0, 1) := by decide +kernel
theorem dX6_beside_11 : decode cX6_beside 11 = .ok (.getfield 49, 3) := by decide +kernel
theorem dX6_beside_14 : decode cX6_beside 14 = .ok (.iconst 1, 1) := by decide +kernel
theorem dX6_beside_15 : decode cX6_beside 15 = .ok (.isub, 1) := by decide +kernel
theorem dX6_beside_16 : decode cX6_beside 16 = .ok (.invokestatic 45, 3) := by decide +kernel
theorem dX6_beside_19 : decode cX6_beside 19 = .ok (.ifCond .ne 5, 3) := by decide +kernel
theorem dX6_beside_22 : decode cX6_beside 22 = .ok (.iconst (-1), 1) := by decide +kernel
theorem dX6_beside_23 : decode cX6_beside 23 = .ok (.ireturn, 1) := by decide +kernel
theorem dX6_beside_24 : decode cX6_beside 24 = .ok (.iload_n 1, 1) := by decide +kernel
theorem dX6_beside_25 : decode cX6_beside 25 = .ok (.iload_n 2, 1) := by decide +kernel
theorem dX6_beside_26 : decode cX6_beside 26 = .ok (.invokestatic 131, 3) := by decide +kernel
theorem dX6_beside_29 : decode cX6_beside 29 = .ok (.istore_n 3, 1) := by decide +kernel
theorem dX6_beside_30 : decode cX6_beside 30 = .ok (.aload_n 0, 1) := by decide +kernel
theorem dX6_beside_31 : decode cX6_beside 31 = .ok (.iload_n 3, 1) := by decide +kernel
theorem dX6_beside_32 : decode cX6_beside 32 = .ok (.invokevirtual 113, 3) := by decide +kernel
theorem dX6_beside_35 : decode cX6_beside 35 = .ok (.ifCond .eq 7, 3) := by decide +kernel
theorem dX6_beside_38 : decode cX6_beside 38 = .ok (.iload_n 3, 1) := by decide +kernel
theorem dX6_beside_39 : decode cX6_beside 39 = .ok (.goto 4, 3) := by decide +kernel
theorem dX6_beside_42 : decode cX6_beside 42 = .ok (.iconst (-1), 1) := by decide +kernel
theorem dX6_beside_43 : decode cX6_beside 43 = .ok (.ireturn, 1) := by decide +kernel
set_option maxRecDepth 20000 in
theorem ggX6_parted_X6_sign : GoodIn wsX6_parted wsX6_sign := goodIn_r _ [5, 6, 7, 4, 8] (by decide +kernel) (by decide +kernel)
set_option maxRecDepth 20000 in
theorem gX6_parted_X6_sign : GoodIn wsX6_parted (va_wsS RX6 79 yX6_sign wsX6_sign) := goodIn_app (goodIn_of _ (by decide +kernel)) ggX6_parted_X6_sign
theorem dX6_parted_0 : decode cX6_parted 0 = .ok (.iconst 0, 1) := by decide +kernel
theorem dX6_parted_1 : decode cX6_parted 1 = .ok (.istore_n 3, 1) := by decide +kernel
theorem dX6_parted_2 : decode cX6_parted 2 = .ok (.iconst 0, 1) := by decide +kernel
theorem dX6_parted_3 : decode cX6_parted 3 = .ok (.istore 4, 2) := by decide +kernel
theorem dX6_parted_5 : decode cX6_parted 5 = .ok (.iload 4, 2) := by decide +kernel
theorem dX6_parted_7 : decode cX6_parted 7 = .ok (.aload_n 0, 1) := by decide +kernel
theorem dX6_parted_8 : decode cX6_parted 8 = .ok (.getfield 49, 3) := by decide +kernel
theorem dX6_parted_11 : decode cX6_parted 11 = .ok (.if_icmp .ge 35, 3) := by decide +kernel
theorem dX6_parted_14 : decode cX6_parted 14 = .ok (.iload_n 3, 1) := by decide +kernel
theorem dX6_parted_15 : decode cX6_parted 15 = .ok (.iload_n 1, 1) := by decide +kernel
theorem dX6_parted_16 : decode cX6_parted 16 = .ok (.iload 4, 2) := by decide +kernel
theorem dX6_parted_18 : decode cX6_parted 18 = .ok (.invokestatic 79, 3) := by decide +kernel
theorem dX6_parted_21 : decode cX6_parted 21 = .ok (.iload_n 2, 1) := by decide +kernel
theorem dX6_parted_22 : decode cX6_parted 22 = .ok (.iload 4, 2) := by decide +kernel
theorem dX6_parted_24 : decode cX6_parted 24 = .ok (.invokestatic 79, 3) := by decide +kernel
theorem dX6_parted_27 : decode cX6_parted 27 = .ok (.if_icmp .eq 10, 3) := by decide +kernel
theorem dX6_parted_30 : decode cX6_parted 30 = .ok (.iconst 1, 1) := by decide +kernel
theorem dX6_parted_31 : decode cX6_parted 31 = .ok (.iload 4, 2) := by decide +kernel
theorem dX6_parted_33 : decode cX6_parted 33 = .ok (.ishl, 1) := by decide +kernel
theorem dX6_parted_34 : decode cX6_parted 34 = .ok (.goto 4, 3) := by decide +kernel
theorem dX6_parted_37 : decode cX6_parted 37 = .ok (.iconst 0, 1) := by decide +kernel
theorem dX6_parted_38 : decode cX6_parted 38 = .ok (.ior, 1) := by decide +kernel
theorem dX6_parted_39 : decode cX6_parted 39 = .ok (.istore_n 3, 1) := by decide +kernel
theorem dX6_parted_40 : decode cX6_parted 40 = .ok (.iinc 4 1, 3) := by decide +kernel
theorem dX6_parted_43 : decode cX6_parted 43 = .ok (.goto (-38), 3) := by decide +kernel
theorem dX6_parted_46 : decode cX6_parted 46 = .ok (.iload_n 3, 1) := by decide +kernel
theorem dX6_parted_47 : decode cX6_parted 47 = .ok (.ireturn, 1) := by decide +kernel
theorem dX6_bits_0 : decode cX6_bits 0 = .ok (.iconst 0, 1) := by decide +kernel
theorem dX6_bits_1 : decode cX6_bits 1 = .ok (.istore_n 1, 1) := by decide +kernel
theorem dX6_bits_2 : decode cX6_bits 2 = .ok (.iconst 0, 1) := by decide +kernel
theorem dX6_bits_3 : decode cX6_bits 3 = .ok (.istore_n 2, 1) := by decide +kernel
theorem dX6_bits_4 : decode cX6_bits 4 = .ok (.iload_n 2, 1) := by decide +kernel
theorem dX6_bits_5 : decode cX6_bits 5 = .ok (.bipush 8, 2) := by decide +kernel
theorem dX6_bits_7 : decode cX6_bits 7 = .ok (.if_icmp .ge 17, 3) := by decide +kernel
theorem dX6_bits_10 : decode cX6_bits 10 = .ok (.iload_n 1, 1) := by decide +kernel
theorem dX6_bits_11 : decode cX6_bits 11 = .ok (.iload_n 0, 1) := by decide +kernel
theorem dX6_bits_12 : decode cX6_bits 12 = .ok (.iload_n 2, 1) := by decide +kernel
theorem dX6_bits_13 : decode cX6_bits 13 = .ok (.ishr, 1) := by decide +kernel
theorem dX6_bits_14 : decode cX6_bits 14 = .ok (.iconst 1, 1) := by decide +kernel
theorem dX6_bits_15 : decode cX6_bits 15 = .ok (.iand, 1) := by decide +kernel
theorem dX6_bits_16 : decode cX6_bits 16 = .ok (.iadd, 1) := by decide +kernel
theorem dX6_bits_17 : decode cX6_bits 17 = .ok (.istore_n 1, 1) := by decide +kernel
theorem dX6_bits_18 : decode cX6_bits 18 = .ok (.iinc 2 1, 3) := by decide +kernel
theorem dX6_bits_21 : decode cX6_bits 21 = .ok (.goto (-17), 3) := by decide +kernel
theorem dX6_bits_24 : decode cX6_bits 24 = .ok (.iload_n 1, 1) := by decide +kernel
theorem dX6_bits_25 : decode cX6_bits 25 = .ok (.ireturn, 1) := by decide +kernel
set_option maxRecDepth 20000 in
theorem ggX6_way_X6_isRoom : GoodIn wsX6_way wsX6_isRoom := goodIn_r _ [5, 6, 7, 8, 4, 9, 10, 11, 12, 13, 14, 15, 16, 17, 18, 19, 20, 21, 22, 23, 24, 25, 26, 27, 28, 29, 30, 31, 32, 33, 34, 35, 36, 37, 38, 39, 40, 41, 42, 43, 44, 45, 46, 47, 48, 49, 50, 51, 52, 53, 54, 55, 56, 57, 58, 59, 60, 61, 62, 63, 64, 72, 73, 74, 75, 76, 77, 78, 79, 80, 81, 82, 83] (by decide +kernel) (by decide +kernel)
set_option maxRecDepth 20000 in
theorem gX6_way_X6_isRoom : GoodIn wsX6_way (wsV RX6 113 RX6 yX6_isRoom wsX6_isRoom) := goodIn_app (goodIn_of _ (by decide +kernel)) ggX6_way_X6_isRoom
set_option maxRecDepth 20000 in
theorem ggX6_way_X6_parted : GoodIn wsX6_way wsX6_parted := goodIn_r _ [68, 16, 32, 33, 4, 34, 17, 18, 19, 72, 73, 74, 75, 76, 77, 78, 79, 80, 81, 82, 83] (by decide +kernel) (by decide +kernel)
set_option maxRecDepth 20000 in
theorem gX6_way_X6_parted : GoodIn wsX6_way (wsV RX6 134 RX6 yX6_parted wsX6_parted) := goodIn_app (goodIn_of _ (by decide +kernel)) ggX6_way_X6_parted
set_option maxRecDepth 20000 in
theorem ggX6_way_X6_bits : GoodIn wsX6_way wsX6_bits := goodIn_r _ [71] (by decide +kernel) (by decide +kernel)
set_option maxRecDepth 20000 in
theorem gX6_way_X6_bits : GoodIn wsX6_way (va_wsS RX6 137 yX6_bits wsX6_bits) := goodIn_app (goodIn_of _ (by decide +kernel)) ggX6_way_X6_bits
theorem dX6_way_0 : decode cX6_way 0 = .ok (.aload_n 0, 1) := by decide +kernel
theorem dX6_way_1 : decode cX6_way 1 = .ok (.iload_n 1, 1) := by decide +kernel
theorem dX6_way_2 : decode cX6_way 2 = .ok (.invokevirtual 113, 3) := by decide +kernel
theorem dX6_way_5 : decode cX6_way 5 = .ok (.ifCond .eq 23, 3) := by decide +kernel
theorem dX6_way_8 : decode cX6_way 8 = .ok (.aload_n 0, 1) := by decide +kernel
theorem dX6_way_9 : decode cX6_way 9 = .ok (.iload_n 2, 1) := by decide +kernel
theorem dX6_way_10 : decode cX6_way 10 = .ok (.invokevirtual 113, 3) := by decide +kernel
theorem dX6_way_13 : decode cX6_way 13 = .ok (.ifCond .eq 15, 3) := by decide +kernel
theorem dX6_way_16 : decode cX6_way 16 = .ok (.aload_n 0, 1) := by decide +kernel
theorem dX6_way_17 : decode cX6_way 17 = .ok (.iload_n 1, 1) := by decide +kernel
theorem dX6_way_18 : decode cX6_way 18 = .ok (.iload_n 2, 1) := by decide +kernel
theorem dX6_way_19 : decode cX6_way 19 = .ok (.invokevirtual 134, 3) := by decide +kernel
theorem dX6_way_22 : decode cX6_way 22 = .ok (.invokestatic 137, 3) := by decide +kernel
theorem dX6_way_25 : decode cX6_way 25 = .ok (.goto 4, 3) := by decide +kernel
theorem dX6_way_28 : decode cX6_way 28 = .ok (.iconst (-1), 1) := by decide +kernel
theorem dX6_way_29 : decode cX6_way 29 = .ok (.ireturn, 1) := by decide +kernel
set_option maxRecDepth 20000 in
theorem ggX6_step_X6_isRoom : GoodIn wsX6_step wsX6_isRoom := goodIn_r _ [6, 7, 8, 9, 5, 10, 11, 12, 13, 14, 15, 16, 1, 17, 18, 19, 20, 21, 22, 23, 24, 25, 26, 27, 28, 29, 30, 31, 32, 33, 34, 35, 36, 37, 38, 39, 40, 41, 42, 43, 44, 45, 46, 47, 48, 49, 50, 51, 52, 53, 54, 55, 56, 57, 58, 59, 60, 61, 62, 63, 64, 76, 77, 78, 79, 80, 81, 82, 83, 84, 85, 86, 87] (by decide +kernel) (by decide +kernel)
set_option maxRecDepth 20000 in
theorem gX6_step_X6_isRoom : GoodIn wsX6_step (wsV RX6 113 RX6 yX6_isRoom wsX6_isRoom) := goodIn_app (goodIn_of _ (by decide +kernel)) ggX6_step_X6_isRoom
set_option maxRecDepth 20000 in
theorem ggX6_step_X6_parted : GoodIn wsX6_step wsX6_parted := goodIn_r _ [68, 1, 32, 33, 5, 34, 17, 18, 19, 76, 77, 78, 79, 80, 81, 82, 83, 84, 85, 86, 87] (by decide +kernel) (by decide +kernel)
set_option maxRecDepth 20000 in
theorem gX6_step_X6_parted : GoodIn wsX6_step (wsV RX6 134 RX6 yX6_parted wsX6_parted) := goodIn_app (goodIn_of _ (by decide +kernel)) ggX6_step_X6_parted
set_option maxRecDepth 20000 in
theorem ggX6_step_X6_walls : GoodIn wsX6_step wsX6_walls := goodIn_r _ [72, 1, 2, 3, 4, 5, 6, 7, 8, 9, 10, 11, 12, 13, 14, 15, 16, 17, 18, 19, 20, 21, 22, 23, 24, 25, 26, 27, 28, 29, 30, 31, 32, 33, 34, 35, 36, 37, 38, 39, 40, 41, 42, 43, 44, 45, 46, 47, 48, 49, 50, 51, 52, 53, 54, 55, 56, 57, 58, 59, 60, 61, 62, 63, 64, 73, 74, 75, 76, 77, 78, 79, 80, 81, 82, 83, 84, 85, 86, 87] (by decide +kernel) (by decide +kernel)
set_option maxRecDepth 20000 in
theorem gX6_step_X6_walls : GoodIn wsX6_step (wsV RX6 140 RX6 yX6_walls wsX6_walls) := goodIn_app (goodIn_of _ (by decide +kernel)) ggX6_step_X6_walls
theorem dX6_step_0 : decode cX6_step 0 = .ok (.aload_n 0, 1) := by decide +kernel
theorem dX6_step_1 : decode cX6_step 1 = .ok (.iload_n 1, 1) := by decide +kernel
theorem dX6_step_2 : decode cX6_step 2 = .ok (.invokevirtual 113, 3) := by decide +kernel
theorem dX6_step_5 : decode cX6_step 5 = .ok (.ifCond .eq 11, 3) := by decide +kernel
theorem dX6_step_8 : decode cX6_step 8 = .ok (.aload_n 0, 1) := by decide +kernel
theorem dX6_step_9 : decode cX6_step 9 = .ok (.iload_n 2, 1) := by decide +kernel
theorem dX6_step_10 : decode cX6_step 10 = .ok (.invokevirtual 113, 3) := by decide +kernel
theorem dX6_step_13 : decode cX6_step 13 = .ok (.ifCond .ne 5, 3) := by decide +kernel
theorem dX6_step_16 : decode cX6_step 16 = .ok (.iconst (-1), 1) := by decide +kernel
theorem dX6_step_17 : decode cX6_step 17 = .ok (.ireturn, 1) := by decide +kernel
theorem dX6_step_18 : decode cX6_step 18 = .ok (.aload_n 0, 1) := by decide +kernel
theorem dX6_step_19 : decode cX6_step 19 = .ok (.iload_n 1, 1) := by decide +kernel
theorem dX6_step_20 : decode cX6_step 20 = .ok (.iload_n 2, 1) := by decide +kernel
theorem dX6_step_21 : decode cX6_step 21 = .ok (.invokevirtual 134, 3) := by decide +kernel
theorem dX6_step_24 : decode cX6_step 24 = .ok (.aload_n 0, 1) := by decide +kernel
theorem dX6_step_25 : decode cX6_step 25 = .ok (.iload_n 1, 1) := by decide +kernel
theorem dX6_step_26 : decode cX6_step 26 = .ok (.invokevirtual 140, 3) := by decide +kernel
theorem dX6_step_29 : decode cX6_step 29 = .ok (.iand, 1) := by decide +kernel
theorem dX6_step_30 : decode cX6_step 30 = .ok (.istore_n 3, 1) := by decide +kernel
theorem dX6_step_31 : decode cX6_step 31 = .ok (.iconst 0, 1) := by decide +kernel
theorem dX6_step_32 : decode cX6_step 32 = .ok (.istore 4, 2) := by decide +kernel
theorem dX6_step_34 : decode cX6_step 34 = .ok (.iload 4, 2) := by decide +kernel
theorem dX6_step_36 : decode cX6_step 36 = .ok (.aload_n 0, 1) := by decide +kernel
theorem dX6_step_37 : decode cX6_step 37 = .ok (.getfield 49, 3) := by decide +kernel
theorem dX6_step_40 : decode cX6_step 40 = .ok (.if_icmp .ge 22, 3) := by decide +kernel
theorem dX6_step_43 : decode cX6_step 43 = .ok (.iload_n 3, 1) := by decide +kernel
theorem dX6_step_44 : decode cX6_step 44 = .ok (.iload 4, 2) := by decide +kernel
theorem dX6_step_46 : decode cX6_step 46 = .ok (.ishr, 1) := by decide +kernel
theorem dX6_step_47 : decode cX6_step 47 = .ok (.iconst 1, 1) := by decide +kernel
theorem dX6_step_48 : decode cX6_step 48 = .ok (.iand, 1) := by decide +kernel
theorem dX6_step_49 : decode cX6_step 49 = .ok (.iconst 1, 1) := by decide +kernel
theorem dX6_step_50 : decode cX6_step 50 = .ok (.if_icmp .ne 6, 3) := by decide +kernel
theorem dX6_step_53 : decode cX6_step 53 = .ok (.iload 4, 2) := by decide +kernel
theorem dX6_step_55 : decode cX6_step 55 = .ok (.ireturn, 1) := by decide +kernel
theorem dX6_step_56 : decode cX6_step 56 = .ok (.iinc 4 1, 3) := by decide +kernel
theorem dX6_step_59 : decode cX6_step 59 = .ok (.goto (-25), 3) := by decide +kernel
theorem dX6_step_62 : decode cX6_step 62 = .ok (.iconst (-1), 1) := by decide +kernel
theorem dX6_step_63 : decode cX6_step 63 = .ok (.ireturn, 1) := by decide +kernel
set_option maxRecDepth 20000 in
theorem ggX6_far_X6_power : GoodIn wsX6_far wsX6_power := goodIn_r _ [5] (by decide +kernel) (by decide +kernel)
set_option maxRecDepth 20000 in
theorem gX6_far_X6_power : GoodIn wsX6_far (va_wsS RX6 56 yX6_power wsX6_power) := goodIn_app (goodIn_of _ (by decide +kernel)) ggX6_far_X6_power
set_option maxRecDepth 20000 in
theorem ggX6_far_X6_isRoom : GoodIn wsX6_far wsX6_isRoom := goodIn_r _ [9, 10, 11, 12, 4, 13, 14, 15, 16, 17, 18, 19, 1, 2, 3, 5, 20, 21, 22, 23, 24, 25, 26, 27, 28, 29, 30, 31, 32, 33, 34, 35, 36, 37, 38, 39, 40, 41, 42, 43, 44, 45, 46, 47, 48, 49, 50, 51, 52, 53, 54, 55, 56, 57, 58, 59, 60, 61, 62, 63, 64, 72, 73, 74, 75, 76, 77, 78, 79, 80, 81, 82, 83] (by decide +kernel) (by decide +kernel)
set_option maxRecDepth 20000 in
theorem gX6_far_X6_isRoom : GoodIn wsX6_far (wsV RX6 113 RX6 yX6_isRoom wsX6_isRoom) := goodIn_app (goodIn_of _ (by decide +kernel)) ggX6_far_X6_isRoom
set_option maxRecDepth 20000 in
theorem ggX6_far_X6_parted : GoodIn wsX6_far wsX6_parted := goodIn_r _ [68, 1, 32, 33, 4, 34, 2, 3, 5, 72, 73, 74, 75, 76, 77, 78, 79, 80, 81, 82, 83] (by decide +kernel) (by decide +kernel)
set_option maxRecDepth 20000 in
theorem gX6_far_X6_parted : GoodIn wsX6_far (wsV RX6 134 RX6 yX6_parted wsX6_parted) := goodIn_app (goodIn_of _ (by decide +kernel)) ggX6_far_X6_parted
set_option maxRecDepth 20000 in
theorem ggX6_far_X6_bits : GoodIn wsX6_far wsX6_bits := goodIn_r _ [71] (by decide +kernel) (by decide +kernel)
set_option maxRecDepth 20000 in
theorem gX6_far_X6_bits : GoodIn wsX6_far (va_wsS RX6 137 yX6_bits wsX6_bits) := goodIn_app (goodIn_of _ (by decide +kernel)) ggX6_far_X6_bits
theorem dX6_far_0 : decode cX6_far 0 = .ok (.iconst 0, 1) := by decide +kernel
theorem dX6_far_1 : decode cX6_far 1 = .ok (.istore_n 1, 1) := by decide +kernel
theorem dX6_far_2 : decode cX6_far 2 = .ok (.iconst 0, 1) := by decide +kernel
theorem dX6_far_3 : decode cX6_far 3 = .ok (.istore_n 2, 1) := by decide +kernel
theorem dX6_far_4 : decode cX6_far 4 = .ok (.iload_n 2, 1) := by decide +kernel
theorem dX6_far_5 : decode cX6_far 5 = .ok (.aload_n 0, 1) := by decide +kernel
theorem dX6_far_6 : decode cX6_far 6 = .ok (.getfield 49, 3) := by decide +kernel
theorem dX6_far_9 : decode cX6_far 9 = .ok (.invokestatic 56, 3) := by decide +kernel
theorem dX6_far_12 : decode cX6_far 12 = .ok (.if_icmp .ge 64, 3) := by decide +kernel
theorem dX6_far_15 : decode cX6_far 15 = .ok (.aload_n 0, 1) := by decide +kernel
theorem dX6_far_16 : decode cX6_far 16 = .ok (.iload_n 2, 1) := by decide +kernel
theorem dX6_far_17 : decode cX6_far 17 = .ok (.invokevirtual 113, 3) := by decide +kernel
theorem dX6_far_20 : decode cX6_far 20 = .ok (.ifCond .ne 6, 3) := by decide +kernel
theorem dX6_far_23 : decode cX6_far 23 = .ok (.goto 47, 3) := by decide +kernel
theorem dX6_far_26 : decode cX6_far 26 = .ok (.iconst 0, 1) := by decide +kernel
theorem dX6_far_27 : decode cX6_far 27 = .ok (.istore_n 3, 1) := by decide +kernel
theorem dX6_far_28 : decode cX6_far 28 = .ok (.iload_n 3, 1) := by decide +kernel
theorem dX6_far_29 : decode cX6_far 29 = .ok (.iload_n 2, 1) := by decide +kernel
theorem dX6_far_30 : decode cX6_far 30 = .ok (.if_icmp .ge 40, 3) := by decide +kernel
theorem dX6_far_33 : decode cX6_far 33 = .ok (.aload_n 0, 1) := by decide +kernel
theorem dX6_far_34 : decode cX6_far 34 = .ok (.iload_n 3, 1) := by decide +kernel
theorem dX6_far_35 : decode cX6_far 35 = .ok (.invokevirtual 113, 3) := by decide +kernel
theorem dX6_far_38 : decode cX6_far 38 = .ok (.ifCond .ne 6, 3) := by decide +kernel
theorem dX6_far_41 : decode cX6_far 41 = .ok (.goto 23, 3) := by decide +kernel
theorem dX6_far_44 : decode cX6_far 44 = .ok (.aload_n 0, 1) := by decide +kernel
theorem dX6_far_45 : decode cX6_far 45 = .ok (.iload_n 2, 1) := by decide +kernel
theorem dX6_far_46 : decode cX6_far 46 = .ok (.iload_n 3, 1) := by decide +kernel
theorem dX6_far_47 : decode cX6_far 47 = .ok (.invokevirtual 134, 3) := by decide +kernel
theorem dX6_far_50 : decode cX6_far 50 = .ok (.invokestatic 137, 3) := by decide +kernel
theorem dX6_far_53 : decode cX6_far 53 = .ok (.istore 4, 2) := by decide +kernel
theorem dX6_far_55 : decode cX6_far 55 = .ok (.iload 4, 2) := by decide +kernel
theorem dX6_far_57 : decode cX6_far 57 = .ok (.iload_n 1, 1) := by decide +kernel
theorem dX6_far_58 : decode cX6_far 58 = .ok (.if_icmp .le 6, 3) := by decide +kernel
theorem dX6_far_61 : decode cX6_far 61 = .ok (.iload 4, 2) := by decide +kernel
theorem dX6_far_63 : decode cX6_far 63 = .ok (.istore_n 1, 1) := by decide +kernel
theorem dX6_far_64 : decode cX6_far 64 = .ok (.iinc 3 1, 3) := by decide +kernel
theorem dX6_far_67 : decode cX6_far 67 = .ok (.goto (-39), 3) := by decide +kernel
theorem dX6_far_70 : decode cX6_far 70 = .ok (.iinc 2 1, 3) := by decide +kernel
theorem dX6_far_73 : decode cX6_far 73 = .ok (.goto (-69), 3) := by decide +kernel
theorem dX6_far_76 : decode cX6_far 76 = .ok (.iload_n 1, 1) := by decide +kernel
theorem dX6_far_77 : decode cX6_far 77 = .ok (.ireturn, 1) := by decide +kernel
set_option maxRecDepth 20000 in
theorem ggX6_left_X6_in : GoodIn wsX6_left wsX6_in := goodIn_r _ [6] (by decide +kernel) (by decide +kernel)
set_option maxRecDepth 20000 in
theorem gX6_left_X6_in : GoodIn wsX6_left (va_wsS RX6 45 yX6_in wsX6_in) := goodIn_app (goodIn_of _ (by decide +kernel)) ggX6_left_X6_in
set_option maxRecDepth 20000 in
theorem ggX6_left_X6_at : GoodIn wsX6_left wsX6_at := goodIn_r _ [10, 11, 12, 13, 14, 15, 16, 17, 18, 19, 20, 21, 22, 23] (by decide +kernel) (by decide +kernel)
set_option maxRecDepth 20000 in
theorem gX6_left_X6_at : GoodIn wsX6_left (wsV RX6 41 RX6 yX6_at wsX6_at) := goodIn_app (goodIn_of _ (by decide +kernel)) ggX6_left_X6_at
theorem dX6_left_0 : decode cX6_left 0 = .ok (.iload_n 1, 1) := by decide +kernel
theorem dX6_left_1 : decode cX6_left 1 = .ok (.iconst 2, 1) := by decide +kernel
theorem dX6_left_2 : decode cX6_left 2 = .ok (.bipush 31, 2) := by decide +kernel
theorem dX6_left_4 : decode cX6_left 4 = .ok (.invokestatic 45, 3) := by decide +kernel
theorem dX6_left_7 : decode cX6_left 7 = .ok (.ifCond .ne 5, 3) := by decide +kernel
theorem dX6_left_10 : decode cX6_left 10 = .ok (.iconst (-1), 1) := by decide +kernel
theorem dX6_left_11 : decode cX6_left 11 = .ok (.ireturn, 1) := by decide +kernel
theorem dX6_left_12 : decode cX6_left 12 = .ok (.iconst 2, 1) := by decide +kernel
theorem dX6_left_13 : decode cX6_left 13 = .ok (.istore_n 2, 1) := by decide +kernel
theorem dX6_left_14 : decode cX6_left 14 = .ok (.iload_n 2, 1) := by decide +kernel
theorem dX6_left_15 : decode cX6_left 15 = .ok (.iload_n 1, 1) := by decide +kernel
theorem dX6_left_16 : decode cX6_left 16 = .ok (.if_icmp .ge 17, 3) := by decide +kernel
theorem dX6_left_19 : decode cX6_left 19 = .ok (.iload_n 1, 1) := by decide +kernel
theorem dX6_left_20 : decode cX6_left 20 = .ok (.iload_n 2, 1) := by decide +kernel
theorem dX6_left_21 : decode cX6_left 21 = .ok (.irem, 1) := by decide +kernel
theorem dX6_left_22 : decode cX6_left 22 = .ok (.ifCond .ne 5, 3) := by decide +kernel
theorem dX6_left_25 : decode cX6_left 25 = .ok (.iconst (-1), 1) := by decide +kernel
theorem dX6_left_26 : decode cX6_left 26 = .ok (.ireturn, 1) := by decide +kernel
theorem dX6_left_27 : decode cX6_left 27 = .ok (.iinc 2 1, 3) := by decide +kernel
theorem dX6_left_30 : decode cX6_left 30 = .ok (.goto (-16), 3) := by decide +kernel
theorem dX6_left_33 : decode cX6_left 33 = .ok (.aload_n 0, 1) := by decide +kernel
theorem dX6_left_34 : decode cX6_left 34 = .ok (.getfield 37, 3) := by decide +kernel
theorem dX6_left_37 : decode cX6_left 37 = .ok (.iconst 1, 1) := by decide +kernel
theorem dX6_left_38 : decode cX6_left 38 = .ok (.if_icmp .ne 7, 3) := by decide +kernel
theorem dX6_left_41 : decode cX6_left 41 = .ok (.iload_n 1, 1) := by decide +kernel
theorem dX6_left_42 : decode cX6_left 42 = .ok (.goto 22, 3) := by decide +kernel
theorem dX6_left_45 : decode cX6_left 45 = .ok (.aload_n 0, 1) := by decide +kernel
theorem dX6_left_46 : decode cX6_left 46 = .ok (.getfield 37, 3) := by decide +kernel
theorem dX6_left_49 : decode cX6_left 49 = .ok (.iconst 2, 1) := by decide +kernel
theorem dX6_left_50 : decode cX6_left 50 = .ok (.if_icmp .ne 9, 3) := by decide +kernel
theorem dX6_left_53 : decode cX6_left 53 = .ok (.iload_n 1, 1) := by decide +kernel
theorem dX6_left_54 : decode cX6_left 54 = .ok (.iload_n 1, 1) := by decide +kernel
theorem dX6_left_55 : decode cX6_left 55 = .ok (.imul, 1) := by decide +kernel
theorem dX6_left_56 : decode cX6_left 56 = .ok (.goto 8, 3) := by decide +kernel
theorem dX6_left_59 : decode cX6_left 59 = .ok (.iload_n 1, 1) := by decide +kernel
theorem dX6_left_60 : decode cX6_left 60 = .ok (.iload_n 1, 1) := by decide +kernel
theorem dX6_left_61 : decode cX6_left 61 = .ok (.imul, 1) := by decide +kernel
theorem dX6_left_62 : decode cX6_left 62 = .ok (.iload_n 1, 1) := by decide +kernel
theorem dX6_left_63 : decode cX6_left 63 = .ok (.imul, 1) := by decide +kernel
theorem dX6_left_64 : decode cX6_left 64 = .ok (.istore_n 2, 1) := by decide +kernel
theorem dX6_left_65 : decode cX6_left 65 = .ok (.iconst 0, 1) := by decide +kernel
theorem dX6_left_66 : decode cX6_left 66 = .ok (.istore_n 3, 1) := by decide +kernel
theorem dX6_left_67 : decode cX6_left 67 = .ok (.iconst 0, 1) := by decide +kernel
theorem dX6_left_68 : decode cX6_left 68 = .ok (.istore 4, 2) := by decide +kernel
theorem dX6_left_70 : decode cX6_left 70 = .ok (.iload 4, 2) := by decide +kernel
theorem dX6_left_72 : decode cX6_left 72 = .ok (.iload_n 2, 1) := by decide +kernel
theorem dX6_left_73 : decode cX6_left 73 = .ok (.if_icmp .ge 122, 3) := by decide +kernel
theorem dX6_left_76 : decode cX6_left 76 = .ok (.iload 4, 2) := by decide +kernel
theorem dX6_left_78 : decode cX6_left 78 = .ok (.iload_n 1, 1) := by decide +kernel
theorem dX6_left_79 : decode cX6_left 79 = .ok (.irem, 1) := by decide +kernel
theorem dX6_left_80 : decode cX6_left 80 = .ok (.istore 5, 2) := by decide +kernel
theorem dX6_left_82 : decode cX6_left 82 = .ok (.iload 4, 2) := by decide +kernel
theorem dX6_left_84 : decode cX6_left 84 = .ok (.iload_n 1, 1) := by decide +kernel
theorem dX6_left_85 : decode cX6_left 85 = .ok (.idiv, 1) := by decide +kernel
theorem dX6_left_86 : decode cX6_left 86 = .ok (.iload_n 1, 1) := by decide +kernel
theorem dX6_left_87 : decode cX6_left 87 = .ok (.irem, 1) := by decide +kernel
theorem dX6_left_88 : decode cX6_left 88 = .ok (.istore 6, 2) := by decide +kernel
theorem dX6_left_90 : decode cX6_left 90 = .ok (.iload 4, 2) := by decide +kernel
theorem dX6_left_92 : decode cX6_left 92 = .ok (.iload_n 1, 1) := by decide +kernel
theorem dX6_left_93 : decode cX6_left 93 = .ok (.idiv, 1) := by decide +kernel
theorem dX6_left_94 : decode cX6_left 94 = .ok (.iload_n 1, 1) := by decide +kernel
theorem dX6_left_95 : decode cX6_left 95 = .ok (.idiv, 1) := by decide +kernel
theorem dX6_left_96 : decode cX6_left 96 = .ok (.istore 7, 2) := by decide +kernel
theorem dX6_left_98 : decode cX6_left 98 = .ok (.iconst 1, 1) := by decide +kernel
theorem dX6_left_99 : decode cX6_left 99 = .ok (.istore 8, 2) := by decide +kernel
theorem dX6_left_101 : decode cX6_left 101 = .ok (.iconst 0, 1) := by decide +kernel
theorem dX6_left_102 : decode cX6_left 102 = .ok (.istore 9, 2) := by decide +kernel
theorem dX6_left_104 : decode cX6_left 104 = .ok (.iload 9, 2) := by decide +kernel
theorem dX6_left_106 : decode cX6_left 106 = .ok (.aload_n 0, 1) := by decide +kernel
theorem dX6_left_107 : decode cX6_left 107 = .ok (.getfield 49, 3) := by decide +kernel
theorem dX6_left_110 : decode cX6_left 110 = .ok (.if_icmp .ge 66, 3) := by decide +kernel
theorem dX6_left_113 : decode cX6_left 113 = .ok (.iload 8, 2) := by decide +kernel
theorem dX6_left_115 : decode cX6_left 115 = .ok (.ifCond .eq 61, 3) := by decide +kernel
theorem dX6_left_118 : decode cX6_left 118 = .ok (.aload_n 0, 1) := by decide +kernel
theorem dX6_left_119 : decode cX6_left 119 = .ok (.iload 9, 2) := by decide +kernel
theorem dX6_left_121 : decode cX6_left 121 = .ok (.iconst 0, 1) := by decide +kernel
theorem dX6_left_122 : decode cX6_left 122 = .ok (.invokevirtual 41, 3) := by decide +kernel
theorem dX6_left_125 : decode cX6_left 125 = .ok (.iload 5, 2) := by decide +kernel
theorem dX6_left_127 : decode cX6_left 127 = .ok (.imul, 1) := by decide +kernel
theorem dX6_left_128 : decode cX6_left 128 = .ok (.aload_n 0, 1) := by decide +kernel
theorem dX6_left_129 : decode cX6_left 129 = .ok (.iload 9, 2) := by decide +kernel
theorem dX6_left_131 : decode cX6_left 131 = .ok (.iconst 1, 1) := by decide +kernel
theorem dX6_left_132 : decode cX6_left 132 = .ok (.invokevirtual 41, 3) := by decide +kernel
theorem dX6_left_135 : decode cX6_left 135 = .ok (.iload 6, 2) := by decide +kernel
theorem dX6_left_137 : decode cX6_left 137 = .ok (.imul, 1) := by decide +kernel
theorem dX6_left_138 : decode cX6_left 138 = .ok (.iadd, 1) := by decide +kernel
theorem dX6_left_139 : decode cX6_left 139 = .ok (.aload_n 0, 1) := by decide +kernel
theorem dX6_left_140 : decode cX6_left 140 = .ok (.iload 9, 2) := by decide +kernel
theorem dX6_left_142 : decode cX6_left 142 = .ok (.iconst 2, 1) := by decide +kernel
theorem dX6_left_143 : decode cX6_left 143 = .ok (.invokevirtual 41, 3) := by decide +kernel
theorem dX6_left_146 : decode cX6_left 146 = .ok (.iload 7, 2) := by decide +kernel
theorem dX6_left_148 : decode cX6_left 148 = .ok (.imul, 1) := by decide +kernel
theorem dX6_left_149 : decode cX6_left 149 = .ok (.iadd, 1) := by decide +kernel
theorem dX6_left_150 : decode cX6_left 150 = .ok (.aload_n 0, 1) := by decide +kernel
theorem dX6_left_151 : decode cX6_left 151 = .ok (.iload 9, 2) := by decide +kernel
theorem dX6_left_153 : decode cX6_left 153 = .ok (.iconst 3, 1) := by decide +kernel
theorem dX6_left_154 : decode cX6_left 154 = .ok (.invokevirtual 41, 3) := by decide +kernel
theorem dX6_left_157 : decode cX6_left 157 = .ok (.isub, 1) := by decide +kernel
theorem dX6_left_158 : decode cX6_left 158 = .ok (.iload_n 1, 1) := by decide +kernel
theorem dX6_left_159 : decode cX6_left 159 = .ok (.irem, 1) := by decide +kernel
theorem dX6_left_160 : decode cX6_left 160 = .ok (.ifCond .eq 7, 3) := by decide +kernel
theorem dX6_left_163 : decode cX6_left 163 = .ok (.iconst 1, 1) := by decide +kernel
theorem dX6_left_164 : decode cX6_left 164 = .ok (.goto 4, 3) := by decide +kernel
theorem dX6_left_167 : decode cX6_left 167 = .ok (.iconst 0, 1) := by decide +kernel
theorem dX6_left_168 : decode cX6_left 168 = .ok (.istore 8, 2) := by decide +kernel
theorem dX6_left_170 : decode cX6_left 170 = .ok (.iinc 9 1, 3) := by decide +kernel
theorem dX6_left_173 : decode cX6_left 173 = .ok (.goto (-69), 3) := by decide +kernel
theorem dX6_left_176 : decode cX6_left 176 = .ok (.iload_n 3, 1) := by decide +kernel
theorem dX6_left_177 : decode cX6_left 177 = .ok (.iload 8, 2) := by decide +kernel
theorem dX6_left_179 : decode cX6_left 179 = .ok (.ifCond .eq 7, 3) := by decide +kernel
theorem dX6_left_182 : decode cX6_left 182 = .ok (.iconst 1, 1) := by decide +kernel
theorem dX6_left_183 : decode cX6_left 183 = .ok (.goto 4, 3) := by decide +kernel
theorem dX6_left_186 : decode cX6_left 186 = .ok (.iconst 0, 1) := by decide +kernel
theorem dX6_left_187 : decode cX6_left 187 = .ok (.iadd, 1) := by decide +kernel
theorem dX6_left_188 : decode cX6_left 188 = .ok (.istore_n 3, 1) := by decide +kernel
theorem dX6_left_189 : decode cX6_left 189 = .ok (.iinc 4 1, 3) := by decide +kernel
theorem dX6_left_192 : decode cX6_left 192 = .ok (.goto (-122), 3) := by decide +kernel
theorem dX6_left_195 : decode cX6_left 195 = .ok (.iload_n 3, 1) := by decide +kernel
theorem dX6_left_196 : decode cX6_left 196 = .ok (.ireturn, 1) := by decide +kernel
set_option maxRecDepth 20000 in
theorem ggX6_count_X6_power : GoodIn wsX6_count wsX6_power := goodIn_r _ [6] (by decide +kernel) (by decide +kernel)
set_option maxRecDepth 20000 in
theorem gX6_count_X6_power : GoodIn wsX6_count (va_wsS RX6 56 yX6_power wsX6_power) := goodIn_app (goodIn_of _ (by decide +kernel)) ggX6_count_X6_power
set_option maxRecDepth 20000 in
theorem ggX6_count_X6_isRoom : GoodIn wsX6_count wsX6_isRoom := goodIn_r _ [10, 11, 12, 13, 5, 14, 15, 16, 17, 18, 19, 20, 2, 3, 4, 6, 21, 22, 23, 24, 1, 25, 26, 27, 28, 29, 30, 31, 32, 33, 34, 35, 36, 37, 38, 39, 40, 41, 42, 43, 44, 45, 46, 47, 48, 49, 50, 51, 52, 53, 54, 55, 56, 57, 58, 59, 60, 61, 62, 63, 64, 70, 71, 72, 73, 74, 75, 76, 77, 78, 79, 80, 81] (by decide +kernel) (by decide +kernel)
set_option maxRecDepth 20000 in
theorem gX6_count_X6_isRoom : GoodIn wsX6_count (wsV RX6 113 RX6 yX6_isRoom wsX6_isRoom) := goodIn_app (goodIn_of _ (by decide +kernel)) ggX6_count_X6_isRoom
set_option maxRecDepth 20000 in
theorem ggX6_count_X6_isFace : GoodIn wsX6_count wsX6_isFace := goodIn_r _ [14, 15, 16, 17, 18, 5, 19, 20, 2, 3, 4, 6, 21, 22, 23, 24, 1, 25, 26, 27, 28, 29, 30, 31, 32, 33, 34, 35, 36, 37, 38, 39, 40, 41, 42, 43, 44, 45, 46, 47, 48, 49, 50, 51, 52, 53, 54, 55, 56, 57, 58, 59, 60, 70, 71, 72, 73, 74, 75, 76, 77, 78, 79, 80, 81] (by decide +kernel) (by decide +kernel)
set_option maxRecDepth 20000 in
theorem gX6_count_X6_isFace : GoodIn wsX6_count (wsV RX6 100 RX6 yX6_isFace wsX6_isFace) := goodIn_app (goodIn_of _ (by decide +kernel)) ggX6_count_X6_isFace
set_option maxRecDepth 20000 in
theorem ggX6_count_X6_rank : GoodIn wsX6_count wsX6_rank := goodIn_r _ [68, 2, 69, 39, 40, 41, 5, 42, 43, 70, 71, 72, 73, 74, 75, 76, 77, 78, 79, 80, 81] (by decide +kernel) (by decide +kernel)
set_option maxRecDepth 20000 in
theorem gX6_count_X6_rank : GoodIn wsX6_count (wsV RX6 97 RX6 yX6_rank wsX6_rank) := goodIn_app (goodIn_of _ (by decide +kernel)) ggX6_count_X6_rank
theorem dX6_count_0 : decode cX6_count 0 = .ok (.iconst 0, 1) := by decide +kernel
theorem dX6_count_1 : decode cX6_count 1 = .ok (.istore_n 2, 1) := by decide +kernel
theorem dX6_count_2 : decode cX6_count 2 = .ok (.iload_n 1, 1) := by decide +kernel
theorem dX6_count_3 : decode cX6_count 3 = .ok (.tableswitch 131 0 4 #[33, 38, 43, 80, 117], 33) := by decide +kernel
theorem dX6_count_36 : decode cX6_count 36 = .ok (.aload_n 0, 1) := by decide +kernel
theorem dX6_count_37 : decode cX6_count 37 = .ok (.getfield 37, 3) := by decide +kernel
theorem dX6_count_40 : decode cX6_count 40 = .ok (.ireturn, 1) := by decide +kernel
theorem dX6_count_41 : decode cX6_count 41 = .ok (.aload_n 0, 1) := by decide +kernel
theorem dX6_count_42 : decode cX6_count 42 = .ok (.getfield 49, 3) := by decide +kernel
theorem dX6_count_45 : decode cX6_count 45 = .ok (.ireturn, 1) := by decide +kernel
theorem dX6_count_46 : decode cX6_count 46 = .ok (.iconst 0, 1) := by decide +kernel
theorem dX6_count_47 : decode cX6_count 47 = .ok (.istore_n 3, 1) := by decide +kernel
theorem dX6_count_48 : decode cX6_count 48 = .ok (.iload_n 3, 1) := by decide +kernel
theorem dX6_count_49 : decode cX6_count 49 = .ok (.aload_n 0, 1) := by decide +kernel
theorem dX6_count_50 : decode cX6_count 50 = .ok (.getfield 49, 3) := by decide +kernel
theorem dX6_count_53 : decode cX6_count 53 = .ok (.invokestatic 56, 3) := by decide +kernel
theorem dX6_count_56 : decode cX6_count 56 = .ok (.if_icmp .ge 25, 3) := by decide +kernel
