theorem dX5_take_21 : decode cX5_take 21 = .ok (.aload_n 0, 1) := by decide +kernel
theorem dX5_take_22 : decode cX5_take 22 = .ok (.iconst 0, 1) := by decide +kernel
theorem dX5_take_23 : decode cX5_take 23 = .ok (.putfield 52, 3) := by decide +kernel
theorem dX5_take_26 : decode cX5_take 26 = .ok (.iconst 1, 1) := by decide +kernel
theorem dX5_take_27 : decode cX5_take 27 = .ok (.ireturn, 1) := by decide +kernel
set_option maxRecDepth 20000 in
theorem ggX5_told_X3_holds : GoodIn wsX5_told wsX3_holds := goodIn_r _ [6, 7, 13, 14, 15, 16, 17, 18, 19] (by decide +kernel) (by decide +kernel)
set_option maxRecDepth 20000 in
theorem gX5_told_X3_holds : GoodIn wsX5_told (wsV RX5 71 RX3 yX3_holds wsX3_holds) := goodIn_app (goodIn_of _ (by decide +kernel)) ggX5_told_X3_holds
theorem dX5_told_0 : decode cX5_told 0 = .ok (.aload_n 0, 1) := by decide +kernel
theorem dX5_told_1 : decode cX5_told 1 = .ok (.getfield 23, 3) := by decide +kernel
theorem dX5_told_4 : decode cX5_told 4 = .ok (.iload_n 1, 1) := by decide +kernel
theorem dX5_told_5 : decode cX5_told 5 = .ok (.invokevirtual 71, 3) := by decide +kernel
theorem dX5_told_8 : decode cX5_told 8 = .ok (.ifCond .ne 5, 3) := by decide +kernel
theorem dX5_told_11 : decode cX5_told 11 = .ok (.iconst (-1), 1) := by decide +kernel
theorem dX5_told_12 : decode cX5_told 12 = .ok (.ireturn, 1) := by decide +kernel
theorem dX5_told_13 : decode cX5_told 13 = .ok (.iload_n 2, 1) := by decide +kernel
theorem dX5_told_14 : decode cX5_told 14 = .ok (.tableswitch 70 0 3 #[30, 40, 50, 60], 30) := by decide +kernel
theorem dX5_told_44 : decode cX5_told 44 = .ok (.aload_n 0, 1) := by decide +kernel
theorem dX5_told_45 : decode cX5_told 45 = .ok (.getfield 23, 3) := by decide +kernel
theorem dX5_told_48 : decode cX5_told 48 = .ok (.getfield 78, 3) := by decide +kernel
theorem dX5_told_51 : decode cX5_told 51 = .ok (.iload_n 1, 1) := by decide +kernel
theorem dX5_told_52 : decode cX5_told 52 = .ok (.iaload, 1) := by decide +kernel
theorem dX5_told_53 : decode cX5_told 53 = .ok (.ireturn, 1) := by decide +kernel
theorem dX5_told_54 : decode cX5_told 54 = .ok (.aload_n 0, 1) := by decide +kernel
theorem dX5_told_55 : decode cX5_told 55 = .ok (.getfield 23, 3) := by decide +kernel
theorem dX5_told_58 : decode cX5_told 58 = .ok (.getfield 82, 3) := by decide +kernel
theorem dX5_told_61 : decode cX5_told 61 = .ok (.iload_n 1, 1) := by decide +kernel
theorem dX5_told_62 : decode cX5_told 62 = .ok (.iaload, 1) := by decide +kernel
theorem dX5_told_63 : decode cX5_told 63 = .ok (.ireturn, 1) := by decide +kernel
theorem dX5_told_64 : decode cX5_told 64 = .ok (.aload_n 0, 1) := by decide +kernel
theorem dX5_told_65 : decode cX5_told 65 = .ok (.getfield 23, 3) := by decide +kernel
theorem dX5_told_68 : decode cX5_told 68 = .ok (.getfield 85, 3) := by decide +kernel
theorem dX5_told_71 : decode cX5_told 71 = .ok (.iload_n 1, 1) := by decide +kernel
theorem dX5_told_72 : decode cX5_told 72 = .ok (.iaload, 1) := by decide +kernel
theorem dX5_told_73 : decode cX5_told 73 = .ok (.ireturn, 1) := by decide +kernel
theorem dX5_told_74 : decode cX5_told 74 = .ok (.aload_n 0, 1) := by decide +kernel
theorem dX5_told_75 : decode cX5_told 75 = .ok (.getfield 23, 3) := by decide +kernel
theorem dX5_told_78 : decode cX5_told 78 = .ok (.getfield 88, 3) := by decide +kernel
theorem dX5_told_81 : decode cX5_told 81 = .ok (.iload_n 1, 1) := by decide +kernel
theorem dX5_told_82 : decode cX5_told 82 = .ok (.iaload, 1) := by decide +kernel
theorem dX5_told_83 : decode cX5_told 83 = .ok (.ireturn, 1) := by decide +kernel
theorem dX5_told_84 : decode cX5_told 84 = .ok (.iconst (-1), 1) := by decide +kernel
theorem dX5_told_85 : decode cX5_told 85 = .ok (.ireturn, 1) := by decide +kernel
set_option maxRecDepth 20000 in
theorem ggX5_row_X5_isTooFar : GoodIn wsX5_row wsX5_isTooFar := goodIn_r _ [5, 6, 7] (by decide +kernel) (by decide +kernel)
set_option maxRecDepth 20000 in
theorem gX5_row_X5_isTooFar : GoodIn wsX5_row (va_wsS RX5 94 yX5_isTooFar wsX5_isTooFar) := goodIn_app (goodIn_of _ (by decide +kernel)) ggX5_row_X5_isTooFar
set_option maxRecDepth 20000 in
theorem ggX5_row_X3_signs : GoodIn wsX5_row wsX3_signs := goodIn_r _ [12, 13, 14, 15, 16, 17, 32, 33, 34, 35, 36, 37, 38] (by decide +kernel) (by decide +kernel)
set_option maxRecDepth 20000 in
theorem gX5_row_X3_signs : GoodIn wsX5_row (wsV RX5 97 RX3 yX3_signs wsX3_signs) := goodIn_app (goodIn_of _ (by decide +kernel)) ggX5_row_X3_signs
set_option maxRecDepth 20000 in
theorem ggX5_row_X3_rowOf : GoodIn wsX5_row wsX3_rowOf := goodIn_r _ [21, 22, 23, 4, 24, 25, 26, 32, 33, 34, 35, 36, 37, 38] (by decide +kernel) (by decide +kernel)
set_option maxRecDepth 20000 in
theorem gX5_row_X3_rowOf : GoodIn wsX5_row (wsV RX5 101 RX3 yX3_rowOf wsX3_rowOf) := goodIn_app (goodIn_of _ (by decide +kernel)) ggX5_row_X3_rowOf
theorem dX5_row_0 : decode cX5_row 0 = .ok (.aload_n 0, 1) := by decide +kernel
theorem dX5_row_1 : decode cX5_row 1 = .ok (.getfield 23, 3) := by decide +kernel
theorem dX5_row_4 : decode cX5_row 4 = .ok (.getfield 91, 3) := by decide +kernel
theorem dX5_row_7 : decode cX5_row 7 = .ok (.iconst 2, 1) := by decide +kernel
theorem dX5_row_8 : decode cX5_row 8 = .ok (.if_icmp .lt 7, 3) := by decide +kernel
theorem dX5_row_11 : decode cX5_row 11 = .ok (.iload_n 2, 1) := by decide +kernel
theorem dX5_row_12 : decode cX5_row 12 = .ok (.goto 4, 3) := by decide +kernel
theorem dX5_row_15 : decode cX5_row 15 = .ok (.iconst 0, 1) := by decide +kernel
theorem dX5_row_16 : decode cX5_row 16 = .ok (.istore 4, 2) := by decide +kernel
theorem dX5_row_18 : decode cX5_row 18 = .ok (.aload_n 0, 1) := by decide +kernel
theorem dX5_row_19 : decode cX5_row 19 = .ok (.getfield 23, 3) := by decide +kernel
theorem dX5_row_22 : decode cX5_row 22 = .ok (.getfield 91, 3) := by decide +kernel
theorem dX5_row_25 : decode cX5_row 25 = .ok (.iconst 3, 1) := by decide +kernel
theorem dX5_row_26 : decode cX5_row 26 = .ok (.if_icmp .lt 7, 3) := by decide +kernel
theorem dX5_row_29 : decode cX5_row 29 = .ok (.iload_n 3, 1) := by decide +kernel
theorem dX5_row_30 : decode cX5_row 30 = .ok (.goto 4, 3) := by decide +kernel
theorem dX5_row_33 : decode cX5_row 33 = .ok (.iconst 0, 1) := by decide +kernel
theorem dX5_row_34 : decode cX5_row 34 = .ok (.istore 5, 2) := by decide +kernel
theorem dX5_row_36 : decode cX5_row 36 = .ok (.iload_n 1, 1) := by decide +kernel
theorem dX5_row_37 : decode cX5_row 37 = .ok (.invokestatic 94, 3) := by decide +kernel
theorem dX5_row_40 : decode cX5_row 40 = .ok (.ifCond .ne 19, 3) := by decide +kernel
theorem dX5_row_43 : decode cX5_row 43 = .ok (.iload 4, 2) := by decide +kernel
theorem dX5_row_45 : decode cX5_row 45 = .ok (.invokestatic 94, 3) := by decide +kernel
theorem dX5_row_48 : decode cX5_row 48 = .ok (.ifCond .ne 11, 3) := by decide +kernel
theorem dX5_row_51 : decode cX5_row 51 = .ok (.iload 5, 2) := by decide +kernel
theorem dX5_row_53 : decode cX5_row 53 = .ok (.invokestatic 94, 3) := by decide +kernel
theorem dX5_row_56 : decode cX5_row 56 = .ok (.ifCond .eq 5, 3) := by decide +kernel
theorem dX5_row_59 : decode cX5_row 59 = .ok (.iconst (-1), 1) := by decide +kernel
theorem dX5_row_60 : decode cX5_row 60 = .ok (.ireturn, 1) := by decide +kernel
theorem dX5_row_61 : decode cX5_row 61 = .ok (.aload_n 0, 1) := by decide +kernel
theorem dX5_row_62 : decode cX5_row 62 = .ok (.getfield 23, 3) := by decide +kernel
theorem dX5_row_65 : decode cX5_row 65 = .ok (.aload_n 0, 1) := by decide +kernel
theorem dX5_row_66 : decode cX5_row 66 = .ok (.getfield 23, 3) := by decide +kernel
theorem dX5_row_69 : decode cX5_row 69 = .ok (.iload_n 1, 1) := by decide +kernel
theorem dX5_row_70 : decode cX5_row 70 = .ok (.iload 4, 2) := by decide +kernel
theorem dX5_row_72 : decode cX5_row 72 = .ok (.iload 5, 2) := by decide +kernel
theorem dX5_row_74 : decode cX5_row 74 = .ok (.iconst 1, 1) := by decide +kernel
theorem dX5_row_75 : decode cX5_row 75 = .ok (.invokevirtual 97, 3) := by decide +kernel
theorem dX5_row_78 : decode cX5_row 78 = .ok (.invokevirtual 101, 3) := by decide +kernel
theorem dX5_row_81 : decode cX5_row 81 = .ok (.ireturn, 1) := by decide +kernel
set_option maxRecDepth 20000 in
theorem ggX5_faces_X5_freshCut : GoodIn wsX5_faces wsX5_freshCut := goodIn_r _ [6, 7, 8, 9, 10, 11, 12, 13, 14, 15, 16, 17, 18, 19, 20, 21, 22, 23, 24, 25, 26, 27, 28, 29, 30, 31, 32, 33, 34, 35, 36, 37, 38, 39, 40, 41, 42, 43, 44, 45, 46, 47, 48, 49, 50, 51, 52, 53, 54, 55, 56, 57, 58, 59, 60, 61, 62, 63, 64, 65, 66, 67, 68, 69, 70, 71, 72, 73, 74, 75, 76, 77, 78, 79, 80, 81, 82, 83, 84, 85, 86, 87, 88, 89, 90, 91, 92, 93, 94, 95, 96, 97, 98, 99, 100, 101, 102, 103, 104, 5, 105, 106, 107, 108, 109, 110, 111, 112, 113, 114, 115, 116, 117, 118, 119, 120, 121, 122, 123, 124, 125, 126, 127, 128, 129, 130, 131, 132, 133, 134, 135, 136, 137, 138, 139, 140, 141, 142, 143, 148, 149, 150, 151, 152, 160, 161, 162, 163, 164, 165, 166, 167, 168, 169, 170, 171, 172, 173, 174, 175, 176, 177, 178, 179, 153, 154, 155, 156, 157, 158, 159, 180, 181, 182] (by decide +kernel) (by decide +kernel)
set_option maxRecDepth 20000 in
theorem gX5_faces_X5_freshCut : GoodIn wsX5_faces (wsV RX5 105 RX5 yX5_freshCut wsX5_freshCut) := goodIn_app (goodIn_of _ (by decide +kernel)) ggX5_faces_X5_freshCut
set_option maxRecDepth 20000 in
theorem ggX5_faces_X1_countOfWidth : GoodIn wsX5_faces wsX1_countOfWidth := goodIn_r _ [147, 15, 137, 160, 161, 162, 163, 164, 165, 166, 167, 168, 169, 170, 171, 172] (by decide +kernel) (by decide +kernel)
set_option maxRecDepth 20000 in
theorem gX5_faces_X1_countOfWidth : GoodIn wsX5_faces (wsV RX5 109 RX1 yX1_countOfWidth wsX1_countOfWidth) := goodIn_app (goodIn_of _ (by decide +kernel)) ggX5_faces_X1_countOfWidth
theorem dX5_faces_0 : decode cX5_faces 0 = .ok (.iload_n 1, 1) := by decide +kernel
theorem dX5_faces_1 : decode cX5_faces 1 = .ok (.ifCond .lt 14, 3) := by decide +kernel
theorem dX5_faces_4 : decode cX5_faces 4 = .ok (.iload_n 1, 1) := by decide +kernel
theorem dX5_faces_5 : decode cX5_faces 5 = .ok (.aload_n 0, 1) := by decide +kernel
theorem dX5_faces_6 : decode cX5_faces 6 = .ok (.getfield 23, 3) := by decide +kernel
theorem dX5_faces_9 : decode cX5_faces 9 = .ok (.getfield 91, 3) := by decide +kernel
theorem dX5_faces_12 : decode cX5_faces 12 = .ok (.if_icmp .le 5, 3) := by decide +kernel
theorem dX5_faces_15 : decode cX5_faces 15 = .ok (.iconst (-1), 1) := by decide +kernel
theorem dX5_faces_16 : decode cX5_faces 16 = .ok (.ireturn, 1) := by decide +kernel
theorem dX5_faces_17 : decode cX5_faces 17 = .ok (.aload_n 0, 1) := by decide +kernel
theorem dX5_faces_18 : decode cX5_faces 18 = .ok (.invokevirtual 105, 3) := by decide +kernel
theorem dX5_faces_21 : decode cX5_faces 21 = .ok (.iload_n 1, 1) := by decide +kernel
theorem dX5_faces_22 : decode cX5_faces 22 = .ok (.invokevirtual 109, 3) := by decide +kernel
theorem dX5_faces_25 : decode cX5_faces 25 = .ok (.ireturn, 1) := by decide +kernel
set_option maxRecDepth 20000 in
theorem ggX5_face_X5_freshCut : GoodIn wsX5_face wsX5_freshCut := goodIn_r _ [5, 6, 7, 8, 9, 10, 11, 12, 13, 14, 15, 16, 17, 18, 19, 20, 21, 22, 23, 24, 25, 26, 27, 28, 29, 30, 31, 32, 33, 34, 35, 36, 37, 38, 39, 40, 41, 42, 43, 44, 45, 46, 47, 48, 49, 50, 51, 52, 53, 54, 55, 56, 57, 58, 59, 60, 61, 62, 63, 64, 65, 66, 67, 68, 69, 70, 71, 72, 73, 74, 75, 76, 77, 78, 79, 80, 81, 82, 83, 84, 85, 86, 87, 88, 89, 90, 91, 92, 93, 94, 95, 96, 97, 98, 99, 100, 101, 102, 103, 4, 104, 105, 106, 107, 108, 109, 110, 111, 112, 113, 114, 115, 116, 117, 118, 119, 120, 121, 122, 123, 124, 125, 126, 127, 128, 129, 130, 131, 132, 133, 134, 135, 136, 137, 138, 139, 140, 141, 142, 147, 148, 149, 150, 151, 152, 153, 154, 155, 156, 157, 158, 159, 160, 161, 162, 163, 164, 165, 166, 167, 168, 169, 170, 171, 172, 173, 174, 175, 176, 177, 178, 179, 180, 181] (by decide +kernel) (by decide +kernel)
set_option maxRecDepth 20000 in
theorem gX5_face_X5_freshCut : GoodIn wsX5_face (wsV RX5 105 RX5 yX5_freshCut wsX5_freshCut) := goodIn_app (goodIn_of _ (by decide +kernel)) ggX5_face_X5_freshCut
set_option maxRecDepth 20000 in
theorem ggX5_face_X1_rowOfWidth : GoodIn wsX5_face wsX1_rowOfWidth := goodIn_r _ [146, 14, 136, 135, 152, 153, 154, 155, 156, 157, 158, 159, 160, 161, 162, 163, 164] (by decide +kernel) (by decide +kernel)
set_option maxRecDepth 20000 in
theorem gX5_face_X1_rowOfWidth : GoodIn wsX5_face (wsV RX5 112 RX1 yX1_rowOfWidth wsX1_rowOfWidth) := goodIn_app (goodIn_of _ (by decide +kernel)) ggX5_face_X1_rowOfWidth
theorem dX5_face_0 : decode cX5_face 0 = .ok (.aload_n 0, 1) := by decide +kernel
theorem dX5_face_1 : decode cX5_face 1 = .ok (.invokevirtual 105, 3) := by decide +kernel
theorem dX5_face_4 : decode cX5_face 4 = .ok (.iload_n 1, 1) := by decide +kernel
theorem dX5_face_5 : decode cX5_face 5 = .ok (.iload_n 2, 1) := by decide +kernel
theorem dX5_face_6 : decode cX5_face 6 = .ok (.invokevirtual 112, 3) := by decide +kernel
theorem dX5_face_9 : decode cX5_face 9 = .ok (.ireturn, 1) := by decide +kernel
set_option maxRecDepth 20000 in
theorem ggX5_width_X5_freshCut : GoodIn wsX5_width wsX5_freshCut := goodIn_r _ [7, 8, 9, 10, 11, 12, 13, 14, 15, 16, 17, 18, 19, 20, 21, 22, 23, 24, 25, 26, 27, 28, 29, 30, 31, 32, 33, 34, 35, 36, 37, 38, 39, 40, 41, 42, 43, 44, 45, 46, 47, 48, 49, 50, 51, 52, 53, 54, 55, 56, 57, 58, 59, 60, 61, 62, 63, 64, 65, 66, 67, 68, 69, 70, 71, 72, 73, 74, 75, 76, 77, 78, 79, 80, 81, 82, 83, 84, 85, 86, 87, 88, 89, 90, 91, 92, 93, 94, 95, 96, 97, 98, 99, 100, 101, 102, 103, 104, 105, 6, 106, 107, 108, 109, 110, 111, 112, 113, 114, 115, 116, 117, 118, 119, 120, 121, 122, 123, 124, 125, 126, 127, 128, 129, 130, 131, 132, 133, 134, 135, 136, 137, 138, 139, 140, 141, 142, 143, 144, 150, 151, 152, 153, 154, 169, 170, 171, 172, 173, 174, 175, 176, 177, 178, 179, 180, 181, 162, 163, 164, 165, 166, 167, 168, 155, 156, 157, 158, 159, 160, 161, 182, 183, 184] (by decide +kernel) (by decide +kernel)
set_option maxRecDepth 20000 in
theorem gX5_width_X5_freshCut : GoodIn wsX5_width (wsV RX5 105 RX5 yX5_freshCut wsX5_freshCut) := goodIn_app (goodIn_of _ (by decide +kernel)) ggX5_width_X5_freshCut
set_option maxRecDepth 20000 in
theorem ggX5_width_X1_hasFace : GoodIn wsX5_width wsX1_hasFace := goodIn_r _ [148, 125, 126, 127, 13, 128, 15, 169, 170, 171, 172, 173, 174, 175, 176, 177, 178, 179, 180, 181] (by decide +kernel) (by decide +kernel)
set_option maxRecDepth 20000 in
theorem gX5_width_X1_hasFace : GoodIn wsX5_width (wsV RX5 115 RX1 yX1_hasFace wsX1_hasFace) := goodIn_app (goodIn_of _ (by decide +kernel)) ggX5_width_X1_hasFace
set_option maxRecDepth 20000 in
theorem ggX5_width_X5_maskOf : GoodIn wsX5_width wsX5_maskOf := goodIn_r _ [140] (by decide +kernel) (by decide +kernel)
set_option maxRecDepth 20000 in
theorem gX5_width_X5_maskOf : GoodIn wsX5_width (va_wsS RX5 121 yX5_maskOf wsX5_maskOf) := goodIn_app (goodIn_of _ (by decide +kernel)) ggX5_width_X5_maskOf
theorem dX5_width_0 : decode cX5_width 0 = .ok (.aload_n 0, 1) := by decide +kernel
theorem dX5_width_1 : decode cX5_width 1 = .ok (.invokevirtual 105, 3) := by decide +kernel
theorem dX5_width_4 : decode cX5_width 4 = .ok (.astore_n 2, 1) := by decide +kernel
theorem dX5_width_5 : decode cX5_width 5 = .ok (.aload_n 2, 1) := by decide +kernel
theorem dX5_width_6 : decode cX5_width 6 = .ok (.iload_n 1, 1) := by decide +kernel
theorem dX5_width_7 : decode cX5_width 7 = .ok (.invokevirtual 115, 3) := by decide +kernel
theorem dX5_width_10 : decode cX5_width 10 = .ok (.ifCond .eq 27, 3) := by decide +kernel
theorem dX5_width_13 : decode cX5_width 13 = .ok (.aload_n 0, 1) := by decide +kernel
theorem dX5_width_14 : decode cX5_width 14 = .ok (.getfield 23, 3) := by decide +kernel
theorem dX5_width_17 : decode cX5_width 17 = .ok (.getfield 91, 3) := by decide +kernel
theorem dX5_width_20 : decode cX5_width 20 = .ok (.aload_n 0, 1) := by decide +kernel
theorem dX5_width_21 : decode cX5_width 21 = .ok (.getfield 32, 3) := by decide +kernel
theorem dX5_width_24 : decode cX5_width 24 = .ok (.getfield 118, 3) := by decide +kernel
theorem dX5_width_27 : decode cX5_width 27 = .ok (.iload_n 1, 1) := by decide +kernel
theorem dX5_width_28 : decode cX5_width 28 = .ok (.iconst 1, 1) := by decide +kernel
theorem dX5_width_29 : decode cX5_width 29 = .ok (.invokestatic 121, 3) := by decide +kernel
theorem dX5_width_32 : decode cX5_width 32 = .ok (.iaload, 1) := by decide +kernel
theorem dX5_width_33 : decode cX5_width 33 = .ok (.isub, 1) := by decide +kernel
theorem dX5_width_34 : decode cX5_width 34 = .ok (.goto 4, 3) := by decide +kernel
theorem dX5_width_37 : decode cX5_width 37 = .ok (.iconst (-1), 1) := by decide +kernel
theorem dX5_width_38 : decode cX5_width 38 = .ok (.ireturn, 1) := by decide +kernel
set_option maxRecDepth 20000 in
theorem ggX5_bounded_X5_freshCut : GoodIn wsX5_bounded wsX5_freshCut := goodIn_r _ [7, 8, 9, 10, 11, 12, 13, 14, 15, 16, 17, 18, 19, 20, 21, 22, 23, 24, 25, 26, 27, 28, 29, 30, 31, 32, 33, 34, 35, 36, 37, 38, 39, 40, 41, 42, 43, 44, 45, 46, 47, 48, 49, 50, 51, 52, 53, 54, 55, 56, 57, 58, 59, 60, 61, 62, 63, 64, 65, 66, 67, 68, 69, 70, 71, 72, 73, 74, 75, 76, 77, 78, 79, 80, 81, 82, 83, 84, 85, 86, 87, 88, 89, 90, 91, 92, 93, 94, 95, 96, 97, 98, 99, 100, 101, 102, 103, 104, 105, 6, 106, 107, 108, 109, 110, 111, 112, 113, 114, 115, 116, 117, 118, 119, 120, 121, 122, 123, 124, 125, 126, 127, 128, 129, 130, 131, 132, 133, 134, 135, 136, 137, 138, 139, 140, 141, 142, 143, 144, 159, 160, 161, 162, 163, 171, 172, 173, 174, 175, 176, 177, 178, 179, 180, 181, 182, 183, 184, 185, 186, 187, 188, 189, 190, 164, 165, 166, 167, 168, 169, 170, 191, 192, 193] (by decide +kernel) (by decide +kernel)
set_option maxRecDepth 20000 in
theorem gX5_bounded_X5_freshCut : GoodIn wsX5_bounded (wsV RX5 105 RX5 yX5_freshCut wsX5_freshCut) := goodIn_app (goodIn_of _ (by decide +kernel)) ggX5_bounded_X5_freshCut
set_option maxRecDepth 20000 in
theorem ggX5_bounded_X1_hasRoom : GoodIn wsX5_bounded wsX1_hasRoom := goodIn_r _ [148, 149, 150, 151, 13, 152, 125, 126, 127, 128, 15, 139, 6, 140, 171, 172, 173, 174, 175, 176, 177, 178, 179, 180, 181, 182, 183] (by decide +kernel) (by decide +kernel)
set_option maxRecDepth 20000 in
theorem gX5_bounded_X1_hasRoom : GoodIn wsX5_bounded (wsV RX5 124 RX1 yX1_hasRoom wsX1_hasRoom) := goodIn_app (goodIn_of _ (by decide +kernel)) ggX5_bounded_X1_hasRoom
set_option maxRecDepth 20000 in
theorem ggX5_bounded_X2_rankOfAll : GoodIn wsX5_bounded wsX2_rankOfAll := goodIn_r _ [74, 39, 34, 184, 185, 186, 187, 188, 189, 190, 164, 165, 166, 167, 168, 169, 170] (by decide +kernel) (by decide +kernel)
set_option maxRecDepth 20000 in
theorem gX5_bounded_X2_rankOfAll : GoodIn wsX5_bounded (wsV RX5 127 RX2 yX2_rankOfAll wsX2_rankOfAll) := goodIn_app (goodIn_of _ (by decide +kernel)) ggX5_bounded_X2_rankOfAll
set_option maxRecDepth 20000 in
theorem ggX5_bounded_X5_maskOf : GoodIn wsX5_bounded wsX5_maskOf := goodIn_r _ [140] (by decide +kernel) (by decide +kernel)
set_option maxRecDepth 20000 in
theorem gX5_bounded_X5_maskOf : GoodIn wsX5_bounded (va_wsS RX5 121 yX5_maskOf wsX5_maskOf) := goodIn_app (goodIn_of _ (by decide +kernel)) ggX5_bounded_X5_maskOf
set_option maxRecDepth 20000 in
theorem ggX5_bounded_X1_isOpen : GoodIn wsX5_bounded wsX1_isOpen := goodIn_r _ [158, 17, 95, 96, 171, 172, 173, 174, 175, 176, 177, 178, 179, 180, 181, 182, 183] (by decide +kernel) (by decide +kernel)
set_option maxRecDepth 20000 in
theorem gX5_bounded_X1_isOpen : GoodIn wsX5_bounded (wsV RX5 131 RX1 yX1_isOpen wsX1_isOpen) := goodIn_app (goodIn_of _ (by decide +kernel)) ggX5_bounded_X1_isOpen
theorem dX5_bounded_0 : decode cX5_bounded 0 = .ok (.aload_n 0, 1) := by decide +kernel
theorem dX5_bounded_1 : decode cX5_bounded 1 = .ok (.invokevirtual 105, 3) := by decide +kernel
theorem dX5_bounded_4 : decode cX5_bounded 4 = .ok (.astore_n 2, 1) := by decide +kernel
theorem dX5_bounded_5 : decode cX5_bounded 5 = .ok (.aload_n 2, 1) := by decide +kernel
theorem dX5_bounded_6 : decode cX5_bounded 6 = .ok (.iload_n 1, 1) := by decide +kernel
theorem dX5_bounded_7 : decode cX5_bounded 7 = .ok (.invokevirtual 124, 3) := by decide +kernel
theorem dX5_bounded_10 : decode cX5_bounded 10 = .ok (.ifCond .eq 36, 3) := by decide +kernel
theorem dX5_bounded_13 : decode cX5_bounded 13 = .ok (.aload_n 0, 1) := by decide +kernel
theorem dX5_bounded_14 : decode cX5_bounded 14 = .ok (.getfield 32, 3) := by decide +kernel
theorem dX5_bounded_17 : decode cX5_bounded 17 = .ok (.invokevirtual 127, 3) := by decide +kernel
theorem dX5_bounded_20 : decode cX5_bounded 20 = .ok (.aload_n 0, 1) := by decide +kernel
theorem dX5_bounded_21 : decode cX5_bounded 21 = .ok (.getfield 23, 3) := by decide +kernel
theorem dX5_bounded_24 : decode cX5_bounded 24 = .ok (.getfield 91, 3) := by decide +kernel
theorem dX5_bounded_27 : decode cX5_bounded 27 = .ok (.if_icmp .ne 19, 3) := by decide +kernel
theorem dX5_bounded_30 : decode cX5_bounded 30 = .ok (.aload_n 2, 1) := by decide +kernel
theorem dX5_bounded_31 : decode cX5_bounded 31 = .ok (.iload_n 1, 1) := by decide +kernel
theorem dX5_bounded_32 : decode cX5_bounded 32 = .ok (.iconst 2, 1) := by decide +kernel
theorem dX5_bounded_33 : decode cX5_bounded 33 = .ok (.invokestatic 121, 3) := by decide +kernel
theorem dX5_bounded_36 : decode cX5_bounded 36 = .ok (.invokevirtual 131, 3) := by decide +kernel
theorem dX5_bounded_39 : decode cX5_bounded 39 = .ok (.ifCond .ne 7, 3) := by decide +kernel
theorem dX5_bounded_42 : decode cX5_bounded 42 = .ok (.iconst 1, 1) := by decide +kernel
theorem dX5_bounded_43 : decode cX5_bounded 43 = .ok (.goto 4, 3) := by decide +kernel
theorem dX5_bounded_46 : decode cX5_bounded 46 = .ok (.iconst 0, 1) := by decide +kernel
theorem dX5_bounded_47 : decode cX5_bounded 47 = .ok (.ireturn, 1) := by decide +kernel
set_option maxRecDepth 20000 in
theorem ggX5_boundedRooms_X5_freshCut : GoodIn wsX5_boundedRooms wsX5_freshCut := goodIn_r _ [11, 12, 13, 14, 15, 16, 17, 18, 19, 20, 21, 22, 23, 24, 25, 26, 27, 28, 29, 30, 31, 32, 33, 34, 35, 36, 37, 38, 39, 40, 41, 42, 43, 44, 45, 46, 47, 48, 49, 50, 51, 52, 53, 54, 55, 56, 57, 58, 59, 60, 61, 62, 63, 64, 65, 66, 67, 68, 69, 70, 71, 72, 73, 74, 75, 76, 77, 78, 79, 80, 81, 82, 83, 84, 85, 86, 5, 87, 88, 89, 90, 91, 92, 93, 94, 95, 96, 97, 98, 99, 100, 101, 102, 103, 104, 105, 106, 107, 108, 10, 109, 110, 111, 112, 113, 114, 115, 116, 117, 118, 119, 120, 121, 122, 123, 124, 125, 126, 127, 128, 129, 130, 131, 132, 133, 134, 135, 136, 137, 138, 139, 140, 141, 142, 143, 144, 145, 146, 147, 160, 161, 162, 163, 164, 172, 173, 174, 175, 176, 177, 178, 179, 180, 181, 182, 183, 184, 185, 186, 187, 188, 189, 190, 191, 165, 166, 167, 168, 169, 170, 171, 192, 193, 194] (by decide +kernel) (by decide +kernel)
set_option maxRecDepth 20000 in
theorem gX5_boundedRooms_X5_freshCut : GoodIn wsX5_boundedRooms (wsV RX5 105 RX5 yX5_freshCut wsX5_freshCut) := goodIn_app (goodIn_of _ (by decide +kernel)) ggX5_boundedRooms_X5_freshCut
set_option maxRecDepth 20000 in
theorem ggX5_boundedRooms_X2_rankOfAll : GoodIn wsX5_boundedRooms wsX2_rankOfAll := goodIn_r _ [78, 43, 38, 185, 186, 187, 188, 189, 190, 191, 165, 166, 167, 168, 169, 170, 171] (by decide +kernel) (by decide +kernel)
set_option maxRecDepth 20000 in
theorem gX5_boundedRooms_X2_rankOfAll : GoodIn wsX5_boundedRooms (wsV RX5 127 RX2 yX2_rankOfAll wsX2_rankOfAll) := goodIn_app (goodIn_of _ (by decide +kernel)) ggX5_boundedRooms_X2_rankOfAll
set_option maxRecDepth 20000 in
theorem ggX5_boundedRooms_X2_factor : GoodIn wsX5_boundedRooms wsX2_factor := goodIn_r _ [152, 38, 33, 43, 153, 154, 155, 156, 157, 158, 159, 185, 186, 187, 188, 189, 190, 191, 165, 166, 167, 168, 169, 170, 171] (by decide +kernel) (by decide +kernel)
set_option maxRecDepth 20000 in
theorem gX5_boundedRooms_X2_factor : GoodIn wsX5_boundedRooms (wsV RX5 134 RX2 yX2_factor wsX2_factor) := goodIn_app (goodIn_of _ (by decide +kernel)) ggX5_boundedRooms_X2_factor
theorem dX5_boundedRooms_0 : decode cX5_boundedRooms 0 = .ok (.aload_n 0, 1) := by decide +kernel
theorem dX5_boundedRooms_1 : decode cX5_boundedRooms 1 = .ok (.invokevirtual 105, 3) := by decide +kernel
theorem dX5_boundedRooms_4 : decode cX5_boundedRooms 4 = .ok (.pop, 1) := by decide +kernel
theorem dX5_boundedRooms_5 : decode cX5_boundedRooms 5 = .ok (.aload_n 0, 1) := by decide +kernel
theorem dX5_boundedRooms_6 : decode cX5_boundedRooms 6 = .ok (.getfield 32, 3) := by decide +kernel
theorem dX5_boundedRooms_9 : decode cX5_boundedRooms 9 = .ok (.invokevirtual 127, 3) := by decide +kernel
theorem dX5_boundedRooms_12 : decode cX5_boundedRooms 12 = .ok (.aload_n 0, 1) := by decide +kernel
theorem dX5_boundedRooms_13 : decode cX5_boundedRooms 13 = .ok (.getfield 23, 3) := by decide +kernel
theorem dX5_boundedRooms_16 : decode cX5_boundedRooms 16 = .ok (.getfield 91, 3) := by decide +kernel
theorem dX5_boundedRooms_19 : decode cX5_boundedRooms 19 = .ok (.if_icmp .ge 5, 3) := by decide +kernel
theorem dX5_boundedRooms_22 : decode cX5_boundedRooms 22 = .ok (.iconst 0, 1) := by decide +kernel
theorem dX5_boundedRooms_23 : decode cX5_boundedRooms 23 = .ok (.ireturn, 1) := by decide +kernel
theorem dX5_boundedRooms_24 : decode cX5_boundedRooms 24 = .ok (.iconst 0, 1) := by decide +kernel
theorem dX5_boundedRooms_25 : decode cX5_boundedRooms 25 = .ok (.istore_n 1, 1) := by decide +kernel
theorem dX5_boundedRooms_26 : decode cX5_boundedRooms 26 = .ok (.iconst 0, 1) := by decide +kernel
theorem dX5_boundedRooms_27 : decode cX5_boundedRooms 27 = .ok (.istore_n 2, 1) := by decide +kernel
theorem dX5_boundedRooms_28 : decode cX5_boundedRooms 28 = .ok (.iload_n 2, 1) := by decide +kernel
theorem dX5_boundedRooms_29 : decode cX5_boundedRooms 29 = .ok (.aload_n 0, 1) := by decide +kernel
theorem dX5_boundedRooms_30 : decode cX5_boundedRooms 30 = .ok (.getfield 23, 3) := by decide +kernel
theorem dX5_boundedRooms_33 : decode cX5_boundedRooms 33 = .ok (.getfield 91, 3) := by decide +kernel
theorem dX5_boundedRooms_36 : decode cX5_boundedRooms 36 = .ok (.if_icmp .gt 21, 3) := by decide +kernel
theorem dX5_boundedRooms_39 : decode cX5_boundedRooms 39 = .ok (.iload_n 1, 1) := by decide +kernel
theorem dX5_boundedRooms_40 : decode cX5_boundedRooms 40 = .ok (.aload_n 0, 1) := by decide +kernel
theorem dX5_boundedRooms_41 : decode cX5_boundedRooms 41 = .ok (.getfield 32, 3) := by decide +kernel
theorem dX5_boundedRooms_44 : decode cX5_boundedRooms 44 = .ok (.iload_n 2, 1) := by decide +kernel
theorem dX5_boundedRooms_45 : decode cX5_boundedRooms 45 = .ok (.iconst 0, 1) := by decide +kernel
theorem dX5_boundedRooms_46 : decode cX5_boundedRooms 46 = .ok (.invokevirtual 134, 3) := by decide +kernel
theorem dX5_boundedRooms_49 : decode cX5_boundedRooms 49 = .ok (.iadd, 1) := by decide +kernel
theorem dX5_boundedRooms_50 : decode cX5_boundedRooms 50 = .ok (.istore_n 1, 1) := by decide +kernel
theorem dX5_boundedRooms_51 : decode cX5_boundedRooms 51 = .ok (.iinc 2 1, 3) := by decide +kernel
theorem dX5_boundedRooms_54 : decode cX5_boundedRooms 54 = .ok (.goto (-26), 3) := by decide +kernel
theorem dX5_boundedRooms_57 : decode cX5_boundedRooms 57 = .ok (.iload_n 1, 1) := by decide +kernel
theorem dX5_boundedRooms_58 : decode cX5_boundedRooms 58 = .ok (.invokestatic 137, 3) := by decide +kernel
theorem dX5_boundedRooms_61 : decode cX5_boundedRooms 61 = .ok (.ireturn, 1) := by decide +kernel
set_option maxRecDepth 20000 in
theorem ggX5_poly_X5_freshCut : GoodIn wsX5_poly wsX5_freshCut := goodIn_r _ [6, 7, 8, 9, 10, 11, 12, 13, 14, 15, 16, 17, 18, 19, 20, 21, 22, 23, 24, 25, 26, 27, 28, 29, 30, 31, 32, 33, 34, 35, 36, 37, 38, 39, 40, 41, 42, 43, 44, 45, 46, 47, 48, 49, 50, 51, 52, 53, 54, 55, 56, 57, 58, 59, 60, 61, 62, 63, 64, 65, 66, 67, 68, 69, 70, 71, 72, 73, 74, 75, 76, 77, 78, 79, 80, 81, 82, 83, 84, 85, 86, 87, 88, 89, 90, 91, 92, 93, 94, 95, 96, 97, 98, 99, 100, 101, 102, 103, 104, 5, 105, 106, 107, 108, 109, 110, 111, 112, 113, 114, 115, 116, 117, 118, 119, 120, 121, 122, 123, 124, 125, 126, 127, 128, 129, 130, 131, 132, 133, 134, 135, 136, 137, 138, 139, 140, 141, 142, 143, 155, 156, 157, 158, 159, 160, 161, 162, 163, 164, 165, 166, 167, 168, 169, 170, 171, 172, 173, 174, 175, 176, 177, 178, 179, 180, 181, 182, 183, 184, 185, 186, 187, 188, 189] (by decide +kernel) (by decide +kernel)
set_option maxRecDepth 20000 in
theorem gX5_poly_X5_freshCut : GoodIn wsX5_poly (wsV RX5 105 RX5 yX5_freshCut wsX5_freshCut) := goodIn_app (goodIn_of _ (by decide +kernel)) ggX5_poly_X5_freshCut
set_option maxRecDepth 20000 in
theorem ggX5_poly_X2_factor : GoodIn wsX5_poly wsX2_factor := goodIn_r _ [147, 33, 28, 38, 148, 149, 150, 151, 152, 153, 154, 173, 174, 175, 176, 177, 178, 179, 180, 181, 182, 183, 184, 185, 186] (by decide +kernel) (by decide +kernel)
set_option maxRecDepth 20000 in
theorem gX5_poly_X2_factor : GoodIn wsX5_poly (wsV RX5 134 RX2 yX2_factor wsX2_factor) := goodIn_app (goodIn_of _ (by decide +kernel)) ggX5_poly_X2_factor
theorem dX5_poly_0 : decode cX5_poly 0 = .ok (.aload_n 0, 1) := by decide +kernel
theorem dX5_poly_1 : decode cX5_poly 1 = .ok (.invokevirtual 105, 3) := by decide +kernel
theorem dX5_poly_4 : decode cX5_poly 4 = .ok (.pop, 1) := by decide +kernel
theorem dX5_poly_5 : decode cX5_poly 5 = .ok (.aload_n 0, 1) := by decide +kernel
theorem dX5_poly_6 : decode cX5_poly 6 = .ok (.getfield 32, 3) := by decide +kernel
theorem dX5_poly_9 : decode cX5_poly 9 = .ok (.iload_n 1, 1) := by decide +kernel
theorem dX5_poly_10 : decode cX5_poly 10 = .ok (.iconst 0, 1) := by decide +kernel
theorem dX5_poly_11 : decode cX5_poly 11 = .ok (.invokevirtual 134, 3) := by decide +kernel
theorem dX5_poly_14 : decode cX5_poly 14 = .ok (.ireturn, 1) := by decide +kernel
set_option maxRecDepth 20000 in
theorem ggX5_without_X3_holds : GoodIn wsX5_without wsX3_holds := goodIn_r _ [7, 8, 165, 166, 167, 168, 169, 170, 171] (by decide +kernel) (by decide +kernel)
set_option maxRecDepth 20000 in
theorem gX5_without_X3_holds : GoodIn wsX5_without (wsV RX5 71 RX3 yX3_holds wsX3_holds) := goodIn_app (goodIn_of _ (by decide +kernel)) ggX5_without_X3_holds
set_option maxRecDepth 20000 in
theorem ggX5_without_X5_freshCut : GoodIn wsX5_without wsX5_freshCut := goodIn_r _ [13, 14, 15, 16, 17, 18, 19, 20, 21, 22, 23, 24, 25, 26, 27, 28, 29, 30, 31, 32, 33, 34, 35, 36, 37, 38, 39, 40, 41, 42, 43, 44, 45, 46, 47, 48, 49, 50, 51, 52, 53, 54, 55, 56, 57, 58, 59, 60, 61, 62, 63, 64, 65, 66, 67, 68, 69, 70, 71, 72, 73, 74, 75, 76, 77, 78, 79, 80, 81, 82, 83, 6, 84, 8, 85, 86, 87, 88, 89, 90, 91, 92, 93, 94, 95, 96, 97, 98, 99, 100, 101, 102, 103, 104, 105, 106, 107, 108, 109, 12, 110, 111, 112, 113, 114, 115, 116, 117, 118, 119, 120, 121, 122, 123, 124, 125, 126, 127, 128, 129, 130, 131, 132, 133, 134, 135, 136, 137, 138, 139, 140, 141, 142, 143, 144, 145, 146, 147, 148, 160, 161, 162, 163, 164, 172, 173, 174, 175, 176, 177, 178, 179, 180, 181, 182, 183, 184, 185, 186, 187, 188, 189, 190, 191, 165, 166, 167, 168, 169, 170, 171, 192, 193, 194] (by decide +kernel) (by decide +kernel)
set_option maxRecDepth 20000 in
theorem gX5_without_X5_freshCut : GoodIn wsX5_without (wsV RX5 105 RX5 yX5_freshCut wsX5_freshCut) := goodIn_app (goodIn_of _ (by decide +kernel)) ggX5_without_X5_freshCut
set_option maxRecDepth 20000 in
theorem ggX5_without_X2_factor : GoodIn wsX5_without wsX2_factor := goodIn_r _ [152, 40, 35, 45, 153, 154, 155, 156, 157, 158, 159, 185, 186, 187, 188, 189, 190, 191, 165, 166, 167, 168, 169, 170, 171] (by decide +kernel) (by decide +kernel)
set_option maxRecDepth 20000 in
theorem gX5_without_X2_factor : GoodIn wsX5_without (wsV RX5 134 RX2 yX2_factor wsX2_factor) := goodIn_app (goodIn_of _ (by decide +kernel)) ggX5_without_X2_factor
theorem dX5_without_0 : decode cX5_without 0 = .ok (.aload_n 0, 1) := by decide +kernel
theorem dX5_without_1 : decode cX5_without 1 = .ok (.getfield 23, 3) := by decide +kernel
theorem dX5_without_4 : decode cX5_without 4 = .ok (.iload_n 1, 1) := by decide +kernel
theorem dX5_without_5 : decode cX5_without 5 = .ok (.invokevirtual 71, 3) := by decide +kernel
theorem dX5_without_8 : decode cX5_without 8 = .ok (.ifCond .ne 5, 3) := by decide +kernel
theorem dX5_without_11 : decode cX5_without 11 = .ok (.iconst 0, 1) := by decide +kernel
theorem dX5_without_12 : decode cX5_without 12 = .ok (.ireturn, 1) := by decide +kernel
theorem dX5_without_13 : decode cX5_without 13 = .ok (.aload_n 0, 1) := by decide +kernel
theorem dX5_without_14 : decode cX5_without 14 = .ok (.invokevirtual 105, 3) := by decide +kernel
theorem dX5_without_17 : decode cX5_without 17 = .ok (.pop, 1) := by decide +kernel
theorem dX5_without_18 : decode cX5_without 18 = .ok (.aload_n 0, 1) := by decide +kernel
theorem dX5_without_19 : decode cX5_without 19 = .ok (.getfield 32, 3) := by decide +kernel
theorem dX5_without_22 : decode cX5_without 22 = .ok (.iload_n 2, 1) := by decide +kernel
theorem dX5_without_23 : decode cX5_without 23 = .ok (.iconst 1, 1) := by decide +kernel
theorem dX5_without_24 : decode cX5_without 24 = .ok (.iload_n 1, 1) := by decide +kernel
theorem dX5_without_25 : decode cX5_without 25 = .ok (.ishl, 1) := by decide +kernel
theorem dX5_without_26 : decode cX5_without 26 = .ok (.invokevirtual 134, 3) := by decide +kernel
theorem dX5_without_29 : decode cX5_without 29 = .ok (.ireturn, 1) := by decide +kernel
set_option maxRecDepth 20000 in
theorem ggX5_on_X3_holds : GoodIn wsX5_on wsX3_holds := goodIn_r _ [7, 8, 165, 166, 167, 168, 169, 170, 171] (by decide +kernel) (by decide +kernel)
set_option maxRecDepth 20000 in
theorem gX5_on_X3_holds : GoodIn wsX5_on (wsV RX5 71 RX3 yX3_holds wsX3_holds) := goodIn_app (goodIn_of _ (by decide +kernel)) ggX5_on_X3_holds
set_option maxRecDepth 20000 in
theorem ggX5_on_X5_freshCut : GoodIn wsX5_on wsX5_freshCut := goodIn_r _ [13, 14, 15, 16, 17, 18, 19, 20, 21, 22, 23, 24, 25, 26, 27, 28, 29, 30, 31, 32, 33, 34, 35, 36, 37, 38, 39, 40, 41, 42, 43, 44, 45, 46, 47, 48, 49, 50, 51, 52, 53, 54, 55, 56, 57, 58, 59, 60, 61, 62, 63, 64, 65, 66, 67, 68, 69, 70, 71, 72, 73, 74, 75, 76, 77, 78, 79, 80, 81, 82, 83, 6, 84, 8, 85, 86, 87, 88, 89, 90, 91, 92, 93, 94, 95, 96, 97, 98, 99, 100, 101, 102, 103, 104, 105, 106, 107, 108, 109, 12, 110, 111, 112, 113, 114, 115, 116, 117, 118, 119, 120, 121, 122, 123, 124, 125, 126, 127, 128, 129, 130, 131, 132, 133, 134, 135, 136, 137, 138, 139, 140, 141, 142, 143, 144, 145, 146, 147, 148, 160, 161, 162, 163, 164, 172, 173, 174, 175, 176, 177, 178, 179, 180, 181, 182, 183, 184, 185, 186, 187, 188, 189, 190, 191, 165, 166, 167, 168, 169, 170, 171, 192, 193, 194] (by decide +kernel) (by decide +kernel)
set_option maxRecDepth 20000 in
theorem gX5_on_X5_freshCut : GoodIn wsX5_on (wsV RX5 105 RX5 yX5_freshCut wsX5_freshCut) := goodIn_app (goodIn_of _ (by decide +kernel)) ggX5_on_X5_freshCut
set_option maxRecDepth 20000 in
theorem ggX5_on_X2_factor : GoodIn wsX5_on wsX2_factor := goodIn_r _ [152, 40, 35, 45, 153, 154, 155, 156, 157, 158, 159, 185, 186, 187, 188, 189, 190, 191, 165, 166, 167, 168, 169, 170, 171] (by decide +kernel) (by decide +kernel)
set_option maxRecDepth 20000 in
theorem gX5_on_X2_factor : GoodIn wsX5_on (wsV RX5 134 RX2 yX2_factor wsX2_factor) := goodIn_app (goodIn_of _ (by decide +kernel)) ggX5_on_X2_factor
theorem dX5_on_0 : decode cX5_on 0 = .ok (.aload_n 0, 1) := by decide +kernel
theorem dX5_on_1 : decode cX5_on 1 = .ok (.getfield 23, 3) := by decide +kernel
theorem dX5_on_4 : decode cX5_on 4 = .ok (.iload_n 1, 1) := by decide +kernel
theorem dX5_on_5 : decode cX5_on 5 = .ok (.invokevirtual 71, 3) := by decide +kernel
theorem dX5_on_8 : decode cX5_on 8 = .ok (.ifCond .ne 5, 3) := by decide +kernel
theorem dX5_on_11 : decode cX5_on 11 = .ok (.iconst 0, 1) := by decide +kernel
theorem dX5_on_12 : decode cX5_on 12 = .ok (.ireturn, 1) := by decide +kernel
theorem dX5_on_13 : decode cX5_on 13 = .ok (.aload_n 0, 1) := by decide +kernel
theorem dX5_on_14 : decode cX5_on 14 = .ok (.invokevirtual 105, 3) := by decide +kernel
theorem dX5_on_17 : decode cX5_on 17 = .ok (.pop, 1) := by decide +kernel
theorem dX5_on_18 : decode cX5_on 18 = .ok (.aload_n 0, 1) := by decide +kernel
theorem dX5_on_19 : decode cX5_on 19 = .ok (.getfield 32, 3) := by decide +kernel
theorem dX5_on_22 : decode cX5_on 22 = .ok (.iload_n 2, 1) := by decide +kernel
theorem dX5_on_23 : decode cX5_on 23 = .ok (.iconst 1, 1) := by decide +kernel
theorem dX5_on_24 : decode cX5_on 24 = .ok (.iload_n 1, 1) := by decide +kernel
theorem dX5_on_25 : decode cX5_on 25 = .ok (.ishl, 1) := by decide +kernel
theorem dX5_on_26 : decode cX5_on 26 = .ok (.invokevirtual 134, 3) := by decide +kernel
theorem dX5_on_29 : decode cX5_on 29 = .ok (.aload_n 0, 1) := by decide +kernel
theorem dX5_on_30 : decode cX5_on 30 = .ok (.getfield 32, 3) := by decide +kernel
theorem dX5_on_33 : decode cX5_on 33 = .ok (.iload_n 2, 1) := by decide +kernel
theorem dX5_on_34 : decode cX5_on 34 = .ok (.iconst 0, 1) := by decide +kernel
theorem dX5_on_35 : decode cX5_on 35 = .ok (.invokevirtual 134, 3) := by decide +kernel
theorem dX5_on_38 : decode cX5_on 38 = .ok (.isub, 1) := by decide +kernel
theorem dX5_on_39 : decode cX5_on 39 = .ok (.ireturn, 1) := by decide +kernel
set_option maxRecDepth 20000 in
theorem ggX5_walls_X5_freshCut : GoodIn wsX5_walls wsX5_freshCut := goodIn_r _ [5, 6, 7, 8, 9, 10, 11, 12, 13, 14, 15, 16, 17, 18, 19, 20, 21, 22, 23, 24, 25, 26, 27, 28, 29, 30, 31, 32, 33, 34, 35, 36, 37, 38, 39, 40, 41, 42, 43, 44, 45, 46, 47, 48, 49, 50, 51, 52, 53, 54, 55, 56, 57, 58, 59, 60, 61, 62, 63, 64, 65, 66, 67, 68, 69, 70, 71, 72, 73, 74, 75, 76, 77, 78, 79, 80, 81, 82, 83, 84, 85, 86, 87, 88, 89, 90, 91, 92, 93, 94, 95, 96, 97, 98, 99, 100, 101, 102, 103, 4, 104, 105, 106, 107, 108, 109, 110, 111, 112, 113, 114, 115, 116, 117, 118, 119, 120, 121, 122, 123, 124, 125, 126, 127, 128, 129, 130, 131, 132, 133, 134, 135, 136, 137, 138, 139, 140, 141, 142, 159, 160, 161, 162, 163, 164, 165, 166, 167, 168, 169, 170, 171, 172, 173, 174, 175, 176, 177, 178, 179, 180, 181, 182, 183, 184, 185, 186, 187, 188, 189, 190, 191, 192, 193] (by decide +kernel) (by decide +kernel)
set_option maxRecDepth 20000 in
theorem gX5_walls_X5_freshCut : GoodIn wsX5_walls (wsV RX5 105 RX5 yX5_freshCut wsX5_freshCut) := goodIn_app (goodIn_of _ (by decide +kernel)) ggX5_walls_X5_freshCut
set_option maxRecDepth 20000 in
theorem ggX5_walls_X1_hasRoom : GoodIn wsX5_walls wsX1_hasRoom := goodIn_r _ [146, 147, 148, 149, 11, 150, 123, 124, 125, 126, 13, 137, 4, 138, 164, 165, 166, 167, 168, 169, 170, 171, 172, 173, 174, 175, 176] (by decide +kernel) (by decide +kernel)
set_option maxRecDepth 20000 in
theorem gX5_walls_X1_hasRoom : GoodIn wsX5_walls (wsV RX5 124 RX1 yX1_hasRoom wsX1_hasRoom) := goodIn_app (goodIn_of _ (by decide +kernel)) ggX5_walls_X1_hasRoom
set_option maxRecDepth 20000 in
theorem ggX5_walls_X1_wallsOf : GoodIn wsX5_walls wsX1_wallsOf := goodIn_r _ [154, 67, 155, 4, 156, 157, 158, 144, 145, 11, 146, 147, 148, 149, 150, 123, 124, 125, 126, 13, 137, 138, 164, 165, 166, 167, 168, 169, 170, 171, 172, 173, 174, 175, 176, 184, 185, 186, 187, 188, 189, 190] (by decide +kernel) (by decide +kernel)
set_option maxRecDepth 20000 in
theorem gX5_walls_X1_wallsOf : GoodIn wsX5_walls (wsV RX5 140 RX1 yX1_wallsOf wsX1_wallsOf) := goodIn_app (goodIn_of _ (by decide +kernel)) ggX5_walls_X1_wallsOf
theorem dX5_walls_0 : decode cX5_walls 0 = .ok (.aload_n 0, 1) := by decide +kernel
theorem dX5_walls_1 : decode cX5_walls 1 = .ok (.invokevirtual 105, 3) := by decide +kernel
theorem dX5_walls_4 : decode cX5_walls 4 = .ok (.astore_n 2, 1) := by decide +kernel
theorem dX5_walls_5 : decode cX5_walls 5 = .ok (.aload_n 2, 1) := by decide +kernel
theorem dX5_walls_6 : decode cX5_walls 6 = .ok (.iload_n 1, 1) := by decide +kernel
theorem dX5_walls_7 : decode cX5_walls 7 = .ok (.invokevirtual 124, 3) := by decide +kernel
theorem dX5_walls_10 : decode cX5_walls 10 = .ok (.ifCond .eq 11, 3) := by decide +kernel
theorem dX5_walls_13 : decode cX5_walls 13 = .ok (.aload_n 2, 1) := by decide +kernel
theorem dX5_walls_14 : decode cX5_walls 14 = .ok (.iload_n 1, 1) := by decide +kernel
theorem dX5_walls_15 : decode cX5_walls 15 = .ok (.invokevirtual 140, 3) := by decide +kernel
theorem dX5_walls_18 : decode cX5_walls 18 = .ok (.goto 4, 3) := by decide +kernel
theorem dX5_walls_21 : decode cX5_walls 21 = .ok (.iconst (-1), 1) := by decide +kernel
theorem dX5_walls_22 : decode cX5_walls 22 = .ok (.ireturn, 1) := by decide +kernel
set_option maxRecDepth 20000 in
theorem ggX5_beside_X5_freshCut : GoodIn wsX5_beside wsX5_freshCut := goodIn_r _ [6, 7, 8, 9, 10, 11, 12, 13, 14, 15, 16, 17, 18, 19, 20, 21, 22, 23, 24, 25, 26, 27, 28, 29, 30, 31, 32, 33, 34, 35, 36, 37, 38, 39, 40, 41, 42, 43, 44, 45, 46, 47, 48, 49, 50, 51, 52, 53, 54, 55, 56, 57, 58, 59, 60, 61, 62, 63, 64, 65, 66, 67, 68, 69, 70, 71, 72, 73, 74, 75, 76, 77, 78, 79, 80, 81, 82, 83, 84, 85, 86, 87, 88, 89, 90, 91, 92, 93, 94, 95, 96, 97, 98, 99, 100, 101, 102, 103, 104, 5, 105, 106, 107, 108, 109, 110, 111, 112, 113, 114, 115, 116, 117, 118, 119, 120, 121, 122, 123, 124, 125, 126, 127, 128, 129, 130, 131, 132, 133, 134, 135, 136, 137, 138, 139, 140, 141, 142, 143, 160, 161, 162, 163, 164, 165, 166, 167, 168, 169, 170, 171, 172, 173, 174, 175, 176, 177, 178, 179, 180, 181, 182, 183, 184, 185, 186, 187, 188, 189, 190, 191, 192, 193, 194] (by decide +kernel) (by decide +kernel)
set_option maxRecDepth 20000 in
theorem gX5_beside_X5_freshCut : GoodIn wsX5_beside (wsV RX5 105 RX5 yX5_freshCut wsX5_freshCut) := goodIn_app (goodIn_of _ (by decide +kernel)) ggX5_beside_X5_freshCut
set_option maxRecDepth 20000 in
theorem ggX5_beside_X3_holds : GoodIn wsX5_beside wsX3_holds := goodIn_r _ [147, 79, 185, 186, 187, 188, 189, 190, 191] (by decide +kernel) (by decide +kernel)
set_option maxRecDepth 20000 in
theorem gX5_beside_X3_holds : GoodIn wsX5_beside (wsV RX5 71 RX3 yX3_holds wsX3_holds) := goodIn_app (goodIn_of _ (by decide +kernel)) ggX5_beside_X3_holds
set_option maxRecDepth 20000 in
theorem ggX5_beside_X1_hasRoom : GoodIn wsX5_beside wsX1_hasRoom := goodIn_r _ [151, 152, 153, 154, 12, 155, 124, 125, 126, 127, 14, 138, 5, 139, 165, 166, 167, 168, 169, 170, 171, 172, 173, 174, 175, 176, 177] (by decide +kernel) (by decide +kernel)
set_option maxRecDepth 20000 in
theorem gX5_beside_X1_hasRoom : GoodIn wsX5_beside (wsV RX5 124 RX1 yX1_hasRoom wsX1_hasRoom) := goodIn_app (goodIn_of _ (by decide +kernel)) ggX5_beside_X1_hasRoom
set_option maxRecDepth 20000 in
theorem ggX5_beside_X5_across : GoodIn wsX5_beside wsX5_across := goodIn_r _ [158, 159] (by decide +kernel) (by decide +kernel)
set_option maxRecDepth 20000 in
theorem gX5_beside_X5_across : GoodIn wsX5_beside (va_wsS RX5 143 yX5_across wsX5_across) := goodIn_app (goodIn_of _ (by decide +kernel)) ggX5_beside_X5_across
theorem dX5_beside_0 : decode cX5_beside 0 = .ok (.aload_n 0, 1) := by decide +kernel
theorem dX5_beside_1 : decode cX5_beside 1 = .ok (.invokevirtual 105, 3) := by decide +kernel
theorem dX5_beside_4 : decode cX5_beside 4 = .ok (.astore_n 3, 1) := by decide +kernel
theorem dX5_beside_5 : decode cX5_beside 5 = .ok (.aload_n 0, 1) := by decide +kernel
theorem dX5_beside_6 : decode cX5_beside 6 = .ok (.getfield 23, 3) := by decide +kernel
theorem dX5_beside_9 : decode cX5_beside 9 = .ok (.iload_n 2, 1) := by decide +kernel
theorem dX5_beside_10 : decode cX5_beside 10 = .ok (.invokevirtual 71, 3) := by decide +kernel
theorem dX5_beside_13 : decode cX5_beside 13 = .ok (.ifCond .eq 11, 3) := by decide +kernel
theorem dX5_beside_16 : decode cX5_beside 16 = .ok (.aload_n 3, 1) := by decide +kernel
theorem dX5_beside_17 : decode cX5_beside 17 = .ok (.iload_n 1, 1) := by decide +kernel
theorem dX5_beside_18 : decode cX5_beside 18 = .ok (.invokevirtual 124, 3) := by decide +kernel
theorem dX5_beside_21 : decode cX5_beside 21 = .ok (.ifCond .ne 5, 3) := by decide +kernel
theorem dX5_beside_24 : decode cX5_beside 24 = .ok (.iconst (-1), 1) := by decide +kernel
theorem dX5_beside_25 : decode cX5_beside 25 = .ok (.ireturn, 1) := by decide +kernel
theorem dX5_beside_26 : decode cX5_beside 26 = .ok (.iload_n 1, 1) := by decide +kernel
theorem dX5_beside_27 : decode cX5_beside 27 = .ok (.iload_n 2, 1) := by decide +kernel
theorem dX5_beside_28 : decode cX5_beside 28 = .ok (.invokestatic 143, 3) := by decide +kernel
theorem dX5_beside_31 : decode cX5_beside 31 = .ok (.istore 4, 2) := by decide +kernel
theorem dX5_beside_33 : decode cX5_beside 33 = .ok (.aload_n 3, 1) := by decide +kernel
theorem dX5_beside_34 : decode cX5_beside 34 = .ok (.iload 4, 2) := by decide +kernel
theorem dX5_beside_36 : decode cX5_beside 36 = .ok (.invokevirtual 124, 3) := by decide +kernel
theorem dX5_beside_39 : decode cX5_beside 39 = .ok (.ifCond .eq 8, 3) := by decide +kernel
theorem dX5_beside_42 : decode cX5_beside 42 = .ok (.iload 4, 2) := by decide +kernel
theorem dX5_beside_44 : decode cX5_beside 44 = .ok (.goto 4, 3) := by decide +kernel
theorem dX5_beside_47 : decode cX5_beside 47 = .ok (.iconst (-1), 1) := by decide +kernel
theorem dX5_beside_48 : decode cX5_beside 48 = .ok (.ireturn, 1) := by decide +kernel
set_option maxRecDepth 20000 in
theorem ggX5_way_X5_freshCut : GoodIn wsX5_way wsX5_freshCut := goodIn_r _ [5, 6, 7, 8, 9, 10, 11, 12, 13, 14, 15, 16, 17, 18, 19, 20, 21, 22, 23, 24, 25, 26, 27, 28, 29, 30, 31, 32, 33, 34, 35, 36, 37, 38, 39, 40, 41, 42, 43, 44, 45, 46, 47, 48, 49, 50, 51, 52, 53, 54, 55, 56, 57, 58, 59, 60, 61, 62, 63, 64, 65, 66, 67, 68, 69, 70, 71, 72, 73, 74, 75, 76, 77, 78, 79, 80, 81, 82, 83, 84, 85, 86, 87, 88, 89, 90, 91, 92, 93, 94, 95, 96, 97, 98, 99, 100, 101, 102, 103, 4, 104, 105, 106, 107, 108, 109, 110, 111, 112, 113, 114, 115, 116, 117, 118, 119, 120, 121, 122, 123, 124, 125, 126, 127, 128, 129, 130, 131, 132, 133, 134, 135, 136, 137, 138, 139, 140, 141, 142, 162, 163, 164, 165, 166, 167, 168, 169, 170, 171, 172, 173, 174, 175, 176, 177, 178, 179, 180, 181, 182, 183, 184, 185, 186, 187, 188, 189, 190, 191, 192, 193, 194, 195, 196] (by decide +kernel) (by decide +kernel)
set_option maxRecDepth 20000 in
theorem gX5_way_X5_freshCut : GoodIn wsX5_way (wsV RX5 105 RX5 yX5_freshCut wsX5_freshCut) := goodIn_app (goodIn_of _ (by decide +kernel)) ggX5_way_X5_freshCut
set_option maxRecDepth 20000 in
theorem ggX5_way_X1_hasRoom : GoodIn wsX5_way wsX1_hasRoom := goodIn_r _ [146, 147, 148, 149, 11, 150, 123, 124, 125, 126, 13, 137, 4, 138, 167, 168, 169, 170, 171, 172, 173, 174, 175, 176, 177, 178, 179] (by decide +kernel) (by decide +kernel)
set_option maxRecDepth 20000 in
theorem gX5_way_X1_hasRoom : GoodIn wsX5_way (wsV RX5 124 RX1 yX1_hasRoom wsX1_hasRoom) := goodIn_app (goodIn_of _ (by decide +kernel)) ggX5_way_X1_hasRoom
set_option maxRecDepth 20000 in
theorem ggX5_way_X5_parting : GoodIn wsX5_way wsX5_parting := goodIn_r _ [153, 154, 137, 4, 138] (by decide +kernel) (by decide +kernel)
set_option maxRecDepth 20000 in
theorem gX5_way_X5_parting : GoodIn wsX5_way (va_wsS RX5 146 yX5_parting wsX5_parting) := goodIn_app (goodIn_of _ (by decide +kernel)) ggX5_way_X5_parting
set_option maxRecDepth 20000 in
theorem ggX5_way_J6_bitCount_0f7a4 : GoodIn wsX5_way wsJ6_bitCount_0f7a4 := goodIn_r _ [158, 159, 160, 161] (by decide +kernel) (by decide +kernel)
set_option maxRecDepth 20000 in
theorem gX5_way_J6_bitCount_0f7a4 : GoodIn wsX5_way (va_wsS RX5 149 yJ6_bitCount_0f7a4 wsJ6_bitCount_0f7a4) := goodIn_app (goodIn_of _ (by decide +kernel)) ggX5_way_J6_bitCount_0f7a4
theorem dX5_way_0 : decode cX5_way 0 = .ok (.aload_n 0, 1) := by decide +kernel
theorem dX5_way_1 : decode cX5_way 1 = .ok (.invokevirtual 105, 3) := by decide +kernel
theorem dX5_way_4 : decode cX5_way 4 = .ok (.astore_n 3, 1) := by decide +kernel
theorem dX5_way_5 : decode cX5_way 5 = .ok (.aload_n 3, 1) := by decide +kernel
theorem dX5_way_6 : decode cX5_way 6 = .ok (.iload_n 1, 1) := by decide +kernel
theorem dX5_way_7 : decode cX5_way 7 = .ok (.invokevirtual 124, 3) := by decide +kernel
theorem dX5_way_10 : decode cX5_way 10 = .ok (.ifCond .eq 11, 3) := by decide +kernel
theorem dX5_way_13 : decode cX5_way 13 = .ok (.aload_n 3, 1) := by decide +kernel
theorem dX5_way_14 : decode cX5_way 14 = .ok (.iload_n 2, 1) := by decide +kernel
theorem dX5_way_15 : decode cX5_way 15 = .ok (.invokevirtual 124, 3) := by decide +kernel
theorem dX5_way_18 : decode cX5_way 18 = .ok (.ifCond .ne 5, 3) := by decide +kernel
theorem dX5_way_21 : decode cX5_way 21 = .ok (.iconst (-1), 1) := by decide +kernel
theorem dX5_way_22 : decode cX5_way 22 = .ok (.ireturn, 1) := by decide +kernel
theorem dX5_way_23 : decode cX5_way 23 = .ok (.iload_n 1, 1) := by decide +kernel
theorem dX5_way_24 : decode cX5_way 24 = .ok (.iload_n 2, 1) := by decide +kernel
theorem dX5_way_25 : decode cX5_way 25 = .ok (.invokestatic 146, 3) := by decide +kernel
theorem dX5_way_28 : decode cX5_way 28 = .ok (.invokestatic 149, 3) := by decide +kernel
theorem dX5_way_31 : decode cX5_way 31 = .ok (.ireturn, 1) := by decide +kernel
set_option maxRecDepth 20000 in
theorem ggX5_step_X5_freshCut : GoodIn wsX5_step wsX5_freshCut := goodIn_r _ [6, 7, 8, 9, 10, 11, 12, 13, 14, 15, 16, 17, 18, 19, 20, 21, 22, 23, 24, 25, 26, 27, 28, 29, 30, 31, 32, 33, 34, 35, 36, 37, 38, 39, 40, 41, 42, 43, 44, 45, 46, 47, 48, 49, 50, 51, 52, 53, 54, 55, 56, 57, 58, 59, 60, 61, 62, 63, 64, 65, 66, 67, 68, 69, 70, 71, 72, 73, 74, 75, 76, 77, 78, 79, 80, 81, 82, 83, 84, 85, 86, 87, 88, 89, 90, 91, 92, 93, 94, 95, 96, 97, 98, 99, 100, 101, 102, 103, 104, 5, 105, 106, 107, 108, 109, 110, 111, 112, 113, 114, 115, 116, 117, 118, 119, 120, 121, 122, 123, 124, 125, 126, 127, 128, 129, 130, 131, 132, 133, 134, 135, 136, 137, 138, 139, 140, 141, 142, 143, 164, 165, 166, 167, 168, 176, 177, 178, 179, 180, 181, 182, 183, 184, 185, 186, 187, 188, 189, 190, 191, 192, 193, 194, 195, 169, 170, 171, 172, 173, 174, 175, 196, 197, 198] (by decide +kernel) (by decide +kernel)
set_option maxRecDepth 20000 in
theorem gX5_step_X5_freshCut : GoodIn wsX5_step (wsV RX5 105 RX5 yX5_freshCut wsX5_freshCut) := goodIn_app (goodIn_of _ (by decide +kernel)) ggX5_step_X5_freshCut
set_option maxRecDepth 20000 in
theorem ggX5_step_X1_hasRoom : GoodIn wsX5_step wsX1_hasRoom := goodIn_r _ [147, 148, 149, 150, 12, 151, 124, 125, 126, 127, 14, 138, 5, 139, 176, 177, 178, 179, 180, 181, 182, 183, 184, 185, 186, 187, 188] (by decide +kernel) (by decide +kernel)
set_option maxRecDepth 20000 in
theorem gX5_step_X1_hasRoom : GoodIn wsX5_step (wsV RX5 124 RX1 yX1_hasRoom wsX1_hasRoom) := goodIn_app (goodIn_of _ (by decide +kernel)) ggX5_step_X1_hasRoom
set_option maxRecDepth 20000 in
theorem ggX5_step_X5_parting : GoodIn wsX5_step wsX5_parting := goodIn_r _ [154, 155, 138, 5, 139] (by decide +kernel) (by decide +kernel)
set_option maxRecDepth 20000 in
theorem gX5_step_X5_parting : GoodIn wsX5_step (va_wsS RX5 146 yX5_parting wsX5_parting) := goodIn_app (goodIn_of _ (by decide +kernel)) ggX5_step_X5_parting
set_option maxRecDepth 20000 in
theorem ggX5_step_X1_wallsOf : GoodIn wsX5_step wsX1_wallsOf := goodIn_r _ [159, 68, 160, 5, 161, 162, 163, 145, 146, 12, 147, 148, 149, 150, 151, 124, 125, 126, 127, 14, 138, 139, 176, 177, 178, 179, 180, 181, 182, 183, 184, 185, 186, 187, 188, 169, 170, 171, 172, 173, 174, 175] (by decide +kernel) (by decide +kernel)
set_option maxRecDepth 20000 in
theorem gX5_step_X1_wallsOf : GoodIn wsX5_step (wsV RX5 140 RX1 yX1_wallsOf wsX1_wallsOf) := goodIn_app (goodIn_of _ (by decide +kernel)) ggX5_step_X1_wallsOf
theorem dX5_step_0 : decode cX5_step 0 = .ok (.aload_n 0, 1) := by decide +kernel
theorem dX5_step_1 : decode cX5_step 1 = .ok (.invokevirtual 105, 3) := by decide +kernel
theorem dX5_step_4 : decode cX5_step 4 = .ok (.astore_n 3, 1) := by decide +kernel
theorem dX5_step_5 : decode cX5_step 5 = .ok (.aload_n 3, 1) := by decide +kernel
theorem dX5_step_6 : decode cX5_step 6 = .ok (.iload_n 1, 1) := by decide +kernel
theorem dX5_step_7 : decode cX5_step 7 = .ok (.invokevirtual 124, 3) := by decide +kernel
theorem dX5_step_10 : decode cX5_step 10 = .ok (.ifCond .eq 11, 3) := by decide +kernel
theorem dX5_step_13 : decode cX5_step 13 = .ok (.aload_n 3, 1) := by decide +kernel
theorem dX5_step_14 : decode cX5_step 14 = .ok (.iload_n 2, 1) := by decide +kernel
theorem dX5_step_15 : decode cX5_step 15 = .ok (.invokevirtual 124, 3) := by decide +kernel
theorem dX5_step_18 : decode cX5_step 18 = .ok (.ifCond .ne 5, 3) := by decide +kernel
theorem dX5_step_21 : decode cX5_step 21 = .ok (.iconst (-1), 1) := by decide +kernel
theorem dX5_step_22 : decode cX5_step 22 = .ok (.ireturn, 1) := by decide +kernel
theorem dX5_step_23 : decode cX5_step 23 = .ok (.iload_n 1, 1) := by decide +kernel
theorem dX5_step_24 : decode cX5_step 24 = .ok (.iload_n 2, 1) := by decide +kernel
theorem dX5_step_25 : decode cX5_step 25 = .ok (.invokestatic 146, 3) := by decide +kernel
theorem dX5_step_28 : decode cX5_step 28 = .ok (.aload_n 3, 1) := by decide +kernel
theorem dX5_step_29 : decode cX5_step 29 = .ok (.iload_n 1, 1) := by decide +kernel
theorem dX5_step_30 : decode cX5_step 30 = .ok (.invokevirtual 140, 3) := by decide +kernel
theorem dX5_step_33 : decode cX5_step 33 = .ok (.iand, 1) := by decide +kernel
theorem dX5_step_34 : decode cX5_step 34 = .ok (.istore 4, 2) := by decide +kernel
theorem dX5_step_36 : decode cX5_step 36 = .ok (.iconst 0, 1) := by decide +kernel
theorem dX5_step_37 : decode cX5_step 37 = .ok (.istore 5, 2) := by decide +kernel
theorem dX5_step_39 : decode cX5_step 39 = .ok (.iload 5, 2) := by decide +kernel
theorem dX5_step_41 : decode cX5_step 41 = .ok (.aload_n 0, 1) := by decide +kernel
theorem dX5_step_42 : decode cX5_step 42 = .ok (.getfield 23, 3) := by decide +kernel
theorem dX5_step_45 : decode cX5_step 45 = .ok (.getfield 56, 3) := by decide +kernel
theorem dX5_step_48 : decode cX5_step 48 = .ok (.if_icmp .ge 23, 3) := by decide +kernel
theorem dX5_step_51 : decode cX5_step 51 = .ok (.iload 4, 2) := by decide +kernel
theorem dX5_step_53 : decode cX5_step 53 = .ok (.iload 5, 2) := by decide +kernel
theorem dX5_step_55 : decode cX5_step 55 = .ok (.ishr, 1) := by decide +kernel
theorem dX5_step_56 : decode cX5_step 56 = .ok (.iconst 1, 1) := by decide +kernel
theorem dX5_step_57 : decode cX5_step 57 = .ok (.iand, 1) := by decide +kernel
theorem dX5_step_58 : decode cX5_step 58 = .ok (.iconst 1, 1) := by decide +kernel
theorem dX5_step_59 : decode cX5_step 59 = .ok (.if_icmp .ne 6, 3) := by decide +kernel
theorem dX5_step_62 : decode cX5_step 62 = .ok (.iload 5, 2) := by decide +kernel
theorem dX5_step_64 : decode cX5_step 64 = .ok (.ireturn, 1) := by decide +kernel
theorem dX5_step_65 : decode cX5_step 65 = .ok (.iinc 5 1, 3) := by decide +kernel
theorem dX5_step_68 : decode cX5_step 68 = .ok (.goto (-29), 3) := by decide +kernel
theorem dX5_step_71 : decode cX5_step 71 = .ok (.iconst (-1), 1) := by decide +kernel
theorem dX5_step_72 : decode cX5_step 72 = .ok (.ireturn, 1) := by decide +kernel
theorem dX5_far_0 : decode cX5_far 0 = .ok (.aload_n 0, 1) := by decide +kernel
theorem dX5_far_1 : decode cX5_far 1 = .ok (.getfield 23, 3) := by decide +kernel
theorem dX5_far_4 : decode cX5_far 4 = .ok (.getfield 56, 3) := by decide +kernel
theorem dX5_far_7 : decode cX5_far 7 = .ok (.ireturn, 1) := by decide +kernel
set_option maxRecDepth 20000 in
theorem ggX5_left_X5_isPrime : GoodIn wsX5_left wsX5_isPrime := goodIn_r _ [5] (by decide +kernel) (by decide +kernel)
set_option maxRecDepth 20000 in
theorem gX5_left_X5_isPrime : GoodIn wsX5_left (va_wsS RX5 154 yX5_isPrime wsX5_isPrime) := goodIn_app (goodIn_of _ (by decide +kernel)) ggX5_left_X5_isPrime
set_option maxRecDepth 20000 in
theorem ggX5_left_X4_countMissed : GoodIn wsX5_left wsX4_countMissed := goodIn_r _ [10, 11, 12, 13, 14, 15, 16, 17, 18, 9, 19, 20, 21, 22, 23, 24, 25, 26, 27, 28, 29, 30, 36, 37, 38, 39, 40, 41, 42, 43, 44] (by decide +kernel) (by decide +kernel)
set_option maxRecDepth 20000 in
theorem gX5_left_X4_countMissed : GoodIn wsX5_left (wsV RX5 157 RX4 yX4_countMissed wsX4_countMissed) := goodIn_app (goodIn_of _ (by decide +kernel)) ggX5_left_X4_countMissed
theorem dX5_left_0 : decode cX5_left 0 = .ok (.iload_n 1, 1) := by decide +kernel
theorem dX5_left_1 : decode cX5_left 1 = .ok (.invokestatic 154, 3) := by decide +kernel
theorem dX5_left_4 : decode cX5_left 4 = .ok (.ifCond .eq 14, 3) := by decide +kernel
theorem dX5_left_7 : decode cX5_left 7 = .ok (.aload_n 0, 1) := by decide +kernel
theorem dX5_left_8 : decode cX5_left 8 = .ok (.getfield 48, 3) := by decide +kernel
theorem dX5_left_11 : decode cX5_left 11 = .ok (.iload_n 1, 1) := by decide +kernel
theorem dX5_left_12 : decode cX5_left 12 = .ok (.invokevirtual 157, 3) := by decide +kernel
theorem dX5_left_15 : decode cX5_left 15 = .ok (.goto 4, 3) := by decide +kernel
theorem dX5_left_18 : decode cX5_left 18 = .ok (.iconst (-1), 1) := by decide +kernel
theorem dX5_left_19 : decode cX5_left 19 = .ok (.ireturn, 1) := by decide +kernel
set_option maxRecDepth 20000 in
theorem ggX5_count_X5_freshCut : GoodIn wsX5_count wsX5_freshCut := goodIn_r _ [7, 8, 9, 10, 11, 12, 13, 14, 15, 16, 17, 18, 19, 20, 21, 22, 23, 24, 25, 26, 27, 28, 29, 30, 31, 32, 33, 34, 35, 36, 37, 38, 39, 40, 41, 42, 43, 44, 45, 46, 47, 48, 49, 50, 51, 52, 53, 54, 55, 56, 57, 58, 59, 60, 61, 62, 63, 64, 65, 66, 67, 68, 69, 70, 71, 72, 73, 74, 75, 76, 77, 78, 79, 80, 81, 82, 83, 84, 85, 86, 87, 88, 89, 90, 91, 92, 93, 94, 95, 96, 97, 98, 99, 100, 101, 102, 103, 104, 105, 6, 106, 107, 108, 109, 110, 111, 112, 113, 114, 115, 116, 117, 118, 119, 120, 121, 122, 123, 124, 125, 126, 127, 128, 129, 130, 131, 132, 133, 134, 135, 136, 137, 138, 139, 140, 141, 142, 143, 144, 150, 151, 152, 153, 154, 162, 163, 164, 165, 166, 167, 168, 169, 170, 171, 172, 173, 174, 175, 176, 177, 178, 179, 180, 181, 155, 156, 157, 158, 159, 160, 161, 182, 183, 184] (by decide +kernel) (by decide +kernel)
set_option maxRecDepth 20000 in
theorem gX5_count_X5_freshCut : GoodIn wsX5_count (wsV RX5 105 RX5 yX5_freshCut wsX5_freshCut) := goodIn_app (goodIn_of _ (by decide +kernel)) ggX5_count_X5_freshCut
set_option maxRecDepth 20000 in
theorem ggX5_count_X1_countOfWidth : GoodIn wsX5_count wsX1_countOfWidth := goodIn_r _ [148, 16, 138, 162, 163, 164, 165, 166, 167, 168, 169, 170, 171, 172, 173, 174] (by decide +kernel) (by decide +kernel)
set_option maxRecDepth 20000 in
theorem gX5_count_X1_countOfWidth : GoodIn wsX5_count (wsV RX5 109 RX1 yX1_countOfWidth wsX1_countOfWidth) := goodIn_app (goodIn_of _ (by decide +kernel)) ggX5_count_X1_countOfWidth
set_option maxRecDepth 20000 in
theorem ggX5_count_X2_rankOfAll : GoodIn wsX5_count wsX2_rankOfAll := goodIn_r _ [74, 39, 34, 175, 176, 177, 178, 179, 180, 181, 155, 156, 157, 158, 159, 160, 161] (by decide +kernel) (by decide +kernel)
set_option maxRecDepth 20000 in
theorem gX5_count_X2_rankOfAll : GoodIn wsX5_count (wsV RX5 127 RX2 yX2_rankOfAll wsX2_rankOfAll) := goodIn_app (goodIn_of _ (by decide +kernel)) ggX5_count_X2_rankOfAll
theorem dX5_count_0 : decode cX5_count 0 = .ok (.iload_n 1, 1) := by decide +kernel
theorem dX5_count_1 : decode cX5_count 1 = .ok (.tableswitch 87 0 4 #[35, 43, 51, 66, 74], 35) := by decide +kernel
theorem dX5_count_36 : decode cX5_count 36 = .ok (.aload_n 0, 1) := by decide +kernel
theorem dX5_count_37 : decode cX5_count 37 = .ok (.getfield 23, 3) := by decide +kernel
theorem dX5_count_40 : decode cX5_count 40 = .ok (.getfield 91, 3) := by decide +kernel
theorem dX5_count_43 : decode cX5_count 43 = .ok (.ireturn, 1) := by decide +kernel
theorem dX5_count_44 : decode cX5_count 44 = .ok (.aload_n 0, 1) := by decide +kernel
theorem dX5_count_45 : decode cX5_count 45 = .ok (.getfield 23, 3) := by decide +kernel
theorem dX5_count_48 : decode cX5_count 48 = .ok (.getfield 56, 3) := by decide +kernel
theorem dX5_count_51 : decode cX5_count 51 = .ok (.ireturn, 1) := by decide +kernel
theorem dX5_count_52 : decode cX5_count 52 = .ok (.aload_n 0, 1) := by decide +kernel
theorem dX5_count_53 : decode cX5_count 53 = .ok (.invokevirtual 105, 3) := by decide +kernel
theorem dX5_count_56 : decode cX5_count 56 = .ok (.aload_n 0, 1) := by decide +kernel
theorem dX5_count_57 : decode cX5_count 57 = .ok (.getfield 23, 3) := by decide +kernel
theorem dX5_count_60 : decode cX5_count 60 = .ok (.getfield 91, 3) := by decide +kernel
theorem dX5_count_63 : decode cX5_count 63 = .ok (.invokevirtual 109, 3) := by decide +kernel
theorem dX5_count_66 : decode cX5_count 66 = .ok (.ireturn, 1) := by decide +kernel
theorem dX5_count_67 : decode cX5_count 67 = .ok (.aload_n 0, 1) := by decide +kernel
theorem dX5_count_68 : decode cX5_count 68 = .ok (.invokevirtual 105, 3) := by decide +kernel
theorem dX5_count_71 : decode cX5_count 71 = .ok (.getfield 160, 3) := by decide +kernel
theorem dX5_count_74 : decode cX5_count 74 = .ok (.ireturn, 1) := by decide +kernel
theorem dX5_count_75 : decode cX5_count 75 = .ok (.aload_n 0, 1) := by decide +kernel
theorem dX5_count_76 : decode cX5_count 76 = .ok (.invokevirtual 105, 3) := by decide +kernel
theorem dX5_count_79 : decode cX5_count 79 = .ok (.pop, 1) := by decide +kernel
theorem dX5_count_80 : decode cX5_count 80 = .ok (.aload_n 0, 1) := by decide +kernel
theorem dX5_count_81 : decode cX5_count 81 = .ok (.getfield 32, 3) := by decide +kernel
theorem dX5_count_84 : decode cX5_count 84 = .ok (.invokevirtual 127, 3) := by decide +kernel
theorem dX5_count_87 : decode cX5_count 87 = .ok (.ireturn, 1) := by decide +kernel
theorem dX5_count_88 : decode cX5_count 88 = .ok (.iconst (-1), 1) := by decide +kernel
theorem dX5_count_89 : decode cX5_count 89 = .ok (.ireturn, 1) := by decide +kernel
set_option maxRecDepth 20000 in
theorem ggX5_freshCut_X1_cutAnew : GoodIn wsX5_freshCut wsX1_cutAnew := goodIn_r _ [7, 8, 9, 10, 11, 12, 13, 14, 15, 16, 17, 18, 19, 20, 21, 22, 23, 24, 25, 26, 27, 28, 29, 30, 31, 32, 33, 34, 35, 36, 37, 38, 39, 40, 41, 42, 43, 44, 45, 46, 47, 48, 49, 50, 51, 52, 53, 54, 55, 56, 57, 58, 59, 60, 6, 61, 62, 63, 64, 65, 66, 67, 68, 69, 70, 71, 72, 73, 74, 75, 76, 77, 78, 79, 80, 81, 82, 83, 84, 85, 86, 87, 88, 89, 90, 91, 92, 93, 94, 95, 96, 97, 98, 99, 100, 101, 102, 103, 104, 105, 106, 107, 108, 109, 110, 111, 112, 113, 114, 115, 116, 117, 118, 119, 120, 121, 122, 123, 124, 125, 126, 127, 128, 129, 130, 131, 132, 133, 134, 135, 136, 137, 138, 144, 145, 146, 147, 148, 149, 150, 151, 152, 153, 154, 155, 156, 157, 158, 159, 160, 161, 162, 163, 164, 165, 166, 167, 168, 169, 170, 171, 172, 173] (by decide +kernel) (by decide +kernel)
set_option maxRecDepth 20000 in
theorem gX5_freshCut_X1_cutAnew : GoodIn wsX5_freshCut (wsV RX5 163 RX1 yX1_cutAnew wsX1_cutAnew) := goodIn_app (goodIn_of _ (by decide +kernel)) ggX5_freshCut_X1_cutAnew
theorem dX5_freshCut_0 : decode cX5_freshCut 0 = .ok (.aload_n 0, 1) := by decide +kernel
theorem dX5_freshCut_1 : decode cX5_freshCut 1 = .ok (.getfield 52, 3) := by decide +kernel
theorem dX5_freshCut_4 : decode cX5_freshCut 4 = .ok (.ifCond .ne 15, 3) := by decide +kernel
theorem dX5_freshCut_7 : decode cX5_freshCut 7 = .ok (.aload_n 0, 1) := by decide +kernel
theorem dX5_freshCut_8 : decode cX5_freshCut 8 = .ok (.getfield 41, 3) := by decide +kernel
theorem dX5_freshCut_11 : decode cX5_freshCut 11 = .ok (.invokevirtual 163, 3) := by decide +kernel
theorem dX5_freshCut_14 : decode cX5_freshCut 14 = .ok (.aload_n 0, 1) := by decide +kernel
theorem dX5_freshCut_15 : decode cX5_freshCut 15 = .ok (.iconst 1, 1) := by decide +kernel
theorem dX5_freshCut_16 : decode cX5_freshCut 16 = .ok (.putfield 52, 3) := by decide +kernel
theorem dX5_freshCut_19 : decode cX5_freshCut 19 = .ok (.aload_n 0, 1) := by decide +kernel
theorem dX5_freshCut_20 : decode cX5_freshCut 20 = .ok (.getfield 41, 3) := by decide +kernel
theorem dX5_freshCut_23 : decode cX5_freshCut 23 = .ok (.areturn, 1) := by decide +kernel
theorem dX5_isTooFar_0 : decode cX5_isTooFar 0 = .ok (.iload_n 0, 1) := by decide +kernel
theorem dX5_isTooFar_1 : decode cX5_isTooFar 1 = .ok (.ldc 166, 2) := by decide +kernel
theorem dX5_isTooFar_3 : decode cX5_isTooFar 3 = .ok (.if_icmp .gt 9, 3) := by decide +kernel
theorem dX5_isTooFar_6 : decode cX5_isTooFar 6 = .ok (.iload_n 0, 1) := by decide +kernel
theorem dX5_isTooFar_7 : decode cX5_isTooFar 7 = .ok (.ldc 167, 2) := by decide +kernel
theorem dX5_isTooFar_9 : decode cX5_isTooFar 9 = .ok (.if_icmp .ge 7, 3) := by decide +kernel
theorem dX5_isTooFar_12 : decode cX5_isTooFar 12 = .ok (.iconst 1, 1) := by decide +kernel
theorem dX5_isTooFar_13 : decode cX5_isTooFar 13 = .ok (.goto 4, 3) := by decide +kernel
theorem dX5_isTooFar_16 : decode cX5_isTooFar 16 = .ok (.iconst 0, 1) := by decide +kernel
theorem dX5_isTooFar_17 : decode cX5_isTooFar 17 = .ok (.ireturn, 1) := by decide +kernel
theorem dX5_isPrime_0 : decode cX5_isPrime 0 = .ok (.iload_n 0, 1) := by decide +kernel
theorem dX5_isPrime_1 : decode cX5_isPrime 1 = .ok (.iconst 2, 1) := by decide +kernel
theorem dX5_isPrime_2 : decode cX5_isPrime 2 = .ok (.if_icmp .lt 9, 3) := by decide +kernel
theorem dX5_isPrime_5 : decode cX5_isPrime 5 = .ok (.iload_n 0, 1) := by decide +kernel
theorem dX5_isPrime_6 : decode cX5_isPrime 6 = .ok (.bipush 31, 2) := by decide +kernel
theorem dX5_isPrime_8 : decode cX5_isPrime 8 = .ok (.if_icmp .le 5, 3) := by decide +kernel
theorem dX5_isPrime_11 : decode cX5_isPrime 11 = .ok (.iconst 0, 1) := by decide +kernel
theorem dX5_isPrime_12 : decode cX5_isPrime 12 = .ok (.ireturn, 1) := by decide +kernel
theorem dX5_isPrime_13 : decode cX5_isPrime 13 = .ok (.iconst 2, 1) := by decide +kernel
theorem dX5_isPrime_14 : decode cX5_isPrime 14 = .ok (.istore_n 1, 1) := by decide +kernel
theorem dX5_isPrime_15 : decode cX5_isPrime 15 = .ok (.iload_n 1, 1) := by decide +kernel
theorem dX5_isPrime_16 : decode cX5_isPrime 16 = .ok (.iload_n 1, 1) := by decide +kernel
theorem dX5_isPrime_17 : decode cX5_isPrime 17 = .ok (.imul, 1) := by decide +kernel
theorem dX5_isPrime_18 : decode cX5_isPrime 18 = .ok (.iload_n 0, 1) := by decide +kernel
theorem dX5_isPrime_19 : decode cX5_isPrime 19 = .ok (.if_icmp .gt 17, 3) := by decide +kernel
theorem dX5_isPrime_22 : decode cX5_isPrime 22 = .ok (.iload_n 0, 1) := by decide +kernel
theorem dX5_isPrime_23 : decode cX5_isPrime 23 = .ok (.iload_n 1, 1) := by decide +kernel
theorem dX5_isPrime_24 : decode cX5_isPrime 24 = .ok (.irem, 1) := by decide +kernel
theorem dX5_isPrime_25 : decode cX5_isPrime 25 = .ok (.ifCond .ne 5, 3) := by decide +kernel
theorem dX5_isPrime_28 : decode cX5_isPrime 28 = .ok (.iconst 0, 1) := by decide +kernel
theorem dX5_isPrime_29 : decode cX5_isPrime 29 = .ok (.ireturn, 1) := by decide +kernel
theorem dX5_isPrime_30 : decode cX5_isPrime 30 = .ok (.iinc 1 1, 3) := by decide +kernel
theorem dX5_isPrime_33 : decode cX5_isPrime 33 = .ok (.goto (-18), 3) := by decide +kernel
theorem dX5_isPrime_36 : decode cX5_isPrime 36 = .ok (.iconst 1, 1) := by decide +kernel
theorem dX5_isPrime_37 : decode cX5_isPrime 37 = .ok (.ireturn, 1) := by decide +kernel
set_option maxRecDepth 20000 in
theorem ggX5_parting_X5_maskOf : GoodIn wsX5_parting wsX5_maskOf := goodIn_r _ [4] (by decide +kernel) (by decide +kernel)
set_option maxRecDepth 20000 in
theorem gX5_parting_X5_maskOf : GoodIn wsX5_parting (va_wsS RX5 121 yX5_maskOf wsX5_maskOf) := goodIn_app (goodIn_of _ (by decide +kernel)) ggX5_parting_X5_maskOf
theorem dX5_parting_0 : decode cX5_parting 0 = .ok (.iload_n 0, 1) := by decide +kernel
theorem dX5_parting_1 : decode cX5_parting 1 = .ok (.iconst 2, 1) := by decide +kernel
theorem dX5_parting_2 : decode cX5_parting 2 = .ok (.invokestatic 121, 3) := by decide +kernel
theorem dX5_parting_5 : decode cX5_parting 5 = .ok (.iload_n 1, 1) := by decide +kernel
theorem dX5_parting_6 : decode cX5_parting 6 = .ok (.iconst 2, 1) := by decide +kernel
theorem dX5_parting_7 : decode cX5_parting 7 = .ok (.invokestatic 121, 3) := by decide +kernel
theorem dX5_parting_10 : decode cX5_parting 10 = .ok (.ixor, 1) := by decide +kernel
theorem dX5_parting_11 : decode cX5_parting 11 = .ok (.ireturn, 1) := by decide +kernel
theorem dX5_maskOf_0 : decode cX5_maskOf 0 = .ok (.iconst 0, 1) := by decide +kernel
theorem dX5_maskOf_1 : decode cX5_maskOf 1 = .ok (.istore_n 2, 1) := by decide +kernel
theorem dX5_maskOf_2 : decode cX5_maskOf 2 = .ok (.iload_n 0, 1) := by decide +kernel
theorem dX5_maskOf_3 : decode cX5_maskOf 3 = .ok (.istore_n 3, 1) := by decide +kernel
theorem dX5_maskOf_4 : decode cX5_maskOf 4 = .ok (.iconst 0, 1) := by decide +kernel
theorem dX5_maskOf_5 : decode cX5_maskOf 5 = .ok (.istore 4, 2) := by decide +kernel
theorem dX5_maskOf_7 : decode cX5_maskOf 7 = .ok (.iload 4, 2) := by decide +kernel
theorem dX5_maskOf_9 : decode cX5_maskOf 9 = .ok (.bipush 8, 2) := by decide +kernel
theorem dX5_maskOf_11 : decode cX5_maskOf 11 = .ok (.if_icmp .ge 27, 3) := by decide +kernel
theorem dX5_maskOf_14 : decode cX5_maskOf 14 = .ok (.iload_n 3, 1) := by decide +kernel
theorem dX5_maskOf_15 : decode cX5_maskOf 15 = .ok (.iconst 3, 1) := by decide +kernel
theorem dX5_maskOf_16 : decode cX5_maskOf 16 = .ok (.irem, 1) := by decide +kernel
theorem dX5_maskOf_17 : decode cX5_maskOf 17 = .ok (.iload_n 1, 1) := by decide +kernel
theorem dX5_maskOf_18 : decode cX5_maskOf 18 = .ok (.if_icmp .ne 10, 3) := by decide +kernel
theorem dX5_maskOf_21 : decode cX5_maskOf 21 = .ok (.iload_n 2, 1) := by decide +kernel
theorem dX5_maskOf_22 : decode cX5_maskOf 22 = .ok (.iconst 1, 1) := by decide +kernel
theorem dX5_maskOf_23 : decode cX5_maskOf 23 = .ok (.iload 4, 2) := by decide +kernel
theorem dX5_maskOf_25 : decode cX5_maskOf 25 = .ok (.ishl, 1) := by decide +kernel
theorem dX5_maskOf_26 : decode cX5_maskOf 26 = .ok (.ior, 1) := by decide +kernel
theorem dX5_maskOf_27 : decode cX5_maskOf 27 = .ok (.istore_n 2, 1) := by decide +kernel
theorem dX5_maskOf_28 : decode cX5_maskOf 28 = .ok (.iload_n 3, 1) := by decide +kernel
theorem dX5_maskOf_29 : decode cX5_maskOf 29 = .ok (.iconst 3, 1) := by decide +kernel
theorem dX5_maskOf_30 : decode cX5_maskOf 30 = .ok (.idiv, 1) := by decide +kernel
theorem dX5_maskOf_31 : decode cX5_maskOf 31 = .ok (.istore_n 3, 1) := by decide +kernel
theorem dX5_maskOf_32 : decode cX5_maskOf 32 = .ok (.iinc 4 1, 3) := by decide +kernel
theorem dX5_maskOf_35 : decode cX5_maskOf 35 = .ok (.goto (-28), 3) := by decide +kernel
theorem dX5_maskOf_38 : decode cX5_maskOf 38 = .ok (.iload_n 2, 1) := by decide +kernel
theorem dX5_maskOf_39 : decode cX5_maskOf 39 = .ok (.ireturn, 1) := by decide +kernel
theorem dX5_onMask_0 : decode cX5_onMask 0 = .ok (.iload_n 0, 1) := by decide +kernel
theorem dX5_onMask_1 : decode cX5_onMask 1 = .ok (.sipush 255, 3) := by decide +kernel
theorem dX5_onMask_4 : decode cX5_onMask 4 = .ok (.iand, 1) := by decide +kernel
theorem dX5_onMask_5 : decode cX5_onMask 5 = .ok (.ireturn, 1) := by decide +kernel
theorem dX5_aboveMask_0 : decode cX5_aboveMask 0 = .ok (.iload_n 0, 1) := by decide +kernel
theorem dX5_aboveMask_1 : decode cX5_aboveMask 1 = .ok (.bipush 8, 2) := by decide +kernel
theorem dX5_aboveMask_3 : decode cX5_aboveMask 3 = .ok (.ishr, 1) := by decide +kernel
theorem dX5_aboveMask_4 : decode cX5_aboveMask 4 = .ok (.sipush 255, 3) := by decide +kernel
theorem dX5_aboveMask_7 : decode cX5_aboveMask 7 = .ok (.iand, 1) := by decide +kernel
theorem dX5_aboveMask_8 : decode cX5_aboveMask 8 = .ok (.ireturn, 1) := by decide +kernel
theorem dX5_across_0 : decode cX5_across 0 = .ok (.iload_n 1, 1) := by decide +kernel
theorem dX5_across_1 : decode cX5_across 1 = .ok (.ifCond .lt 9, 3) := by decide +kernel
theorem dX5_across_4 : decode cX5_across 4 = .ok (.iload_n 1, 1) := by decide +kernel
theorem dX5_across_5 : decode cX5_across 5 = .ok (.bipush 8, 2) := by decide +kernel
theorem dX5_across_7 : decode cX5_across 7 = .ok (.if_icmp .lt 5, 3) := by decide +kernel
theorem dX5_across_10 : decode cX5_across 10 = .ok (.iconst (-1), 1) := by decide +kernel
theorem dX5_across_11 : decode cX5_across 11 = .ok (.ireturn, 1) := by decide +kernel
theorem dX5_across_12 : decode cX5_across 12 = .ok (.iconst 2, 1) := by decide +kernel
theorem dX5_across_13 : decode cX5_across 13 = .ok (.getstatic 168, 3) := by decide +kernel
theorem dX5_across_16 : decode cX5_across 16 = .ok (.iload_n 1, 1) := by decide +kernel
theorem dX5_across_17 : decode cX5_across 17 = .ok (.iaload, 1) := by decide +kernel
theorem dX5_across_18 : decode cX5_across 18 = .ok (.imul, 1) := by decide +kernel
theorem dX5_across_19 : decode cX5_across 19 = .ok (.istore_n 2, 1) := by decide +kernel
theorem dX5_across_20 : decode cX5_across 20 = .ok (.iload_n 0, 1) := by decide +kernel
theorem dX5_across_21 : decode cX5_across 21 = .ok (.getstatic 168, 3) := by decide +kernel
theorem dX5_across_24 : decode cX5_across 24 = .ok (.iload_n 1, 1) := by decide +kernel
theorem dX5_across_25 : decode cX5_across 25 = .ok (.iaload, 1) := by decide +kernel
theorem dX5_across_26 : decode cX5_across 26 = .ok (.idiv, 1) := by decide +kernel
theorem dX5_across_27 : decode cX5_across 27 = .ok (.iconst 3, 1) := by decide +kernel
theorem dX5_across_28 : decode cX5_across 28 = .ok (.irem, 1) := by decide +kernel
theorem dX5_across_29 : decode cX5_across 29 = .ok (.ifCond .ne 9, 3) := by decide +kernel
theorem dX5_across_32 : decode cX5_across 32 = .ok (.iload_n 0, 1) := by decide +kernel
theorem dX5_across_33 : decode cX5_across 33 = .ok (.iload_n 2, 1) := by decide +kernel
theorem dX5_across_34 : decode cX5_across 34 = .ok (.iadd, 1) := by decide +kernel
theorem dX5_across_35 : decode cX5_across 35 = .ok (.goto 6, 3) := by decide +kernel
theorem dX5_across_38 : decode cX5_across 38 = .ok (.iload_n 0, 1) := by decide +kernel
theorem dX5_across_39 : decode cX5_across 39 = .ok (.iload_n 2, 1) := by decide +kernel
theorem dX5_across_40 : decode cX5_across 40 = .ok (.isub, 1) := by decide +kernel
theorem dX5_across_41 : decode cX5_across 41 = .ok (.ireturn, 1) := by decide +kernel
theorem dX6_init_0 : decode cX6_init 0 = .ok (.aload_n 0, 1) := by decide +kernel
theorem dX6_init_1 : decode cX6_init 1 = .ok (.invokespecial 1, 3) := by decide +kernel
theorem dX6_init_4 : decode cX6_init 4 = .ok (.aload_n 0, 1) := by decide +kernel
theorem dX6_init_5 : decode cX6_init 5 = .ok (.bipush 32, 2) := by decide +kernel
theorem dX6_init_7 : decode cX6_init 7 = .ok (.newarray .int, 2) := by decide +kernel
theorem dX6_init_9 : decode cX6_init 9 = .ok (.putfield 9, 3) := by decide +kernel
theorem dX6_init_12 : decode cX6_init 12 = .ok (.aload_n 0, 1) := by decide +kernel
theorem dX6_init_13 : decode cX6_init 13 = .ok (.sipush 6561, 3) := by decide +kernel
theorem dX6_init_16 : decode cX6_init 16 = .ok (.newarray .boolean, 2) := by decide +kernel
theorem dX6_init_18 : decode cX6_init 18 = .ok (.putfield 13, 3) := by decide +kernel
theorem dX6_init_21 : decode cX6_init 21 = .ok (.aload_n 0, 1) := by decide +kernel
theorem dX6_init_22 : decode cX6_init 22 = .ok (.iconst 1, 1) := by decide +kernel
theorem dX6_init_23 : decode cX6_init 23 = .ok (.putfield 17, 3) := by decide +kernel
theorem dX6_init_26 : decode cX6_init 26 = .ok (.aload_n 0, 1) := by decide +kernel
theorem dX6_init_27 : decode cX6_init 27 = .ok (.sipush 4400, 3) := by decide +kernel
theorem dX6_init_30 : decode cX6_init 30 = .ok (.newarray .long, 2) := by decide +kernel
theorem dX6_init_32 : decode cX6_init 32 = .ok (.putfield 21, 3) := by decide +kernel
theorem dX6_init_35 : decode cX6_init 35 = .ok (.aload_n 0, 1) := by decide +kernel
theorem dX6_init_36 : decode cX6_init 36 = .ok (.sipush 1100, 3) := by decide +kernel
theorem dX6_init_39 : decode cX6_init 39 = .ok (.newarray .boolean, 2) := by decide +kernel
theorem dX6_init_41 : decode cX6_init 41 = .ok (.putfield 25, 3) := by decide +kernel
theorem dX6_init_44 : decode cX6_init 44 = .ok (.aload_n 0, 1) := by decide +kernel
theorem dX6_init_45 : decode cX6_init 45 = .ok (.sipush 4400, 3) := by decide +kernel
theorem dX6_init_48 : decode cX6_init 48 = .ok (.newarray .long, 2) := by decide +kernel
theorem dX6_init_50 : decode cX6_init 50 = .ok (.putfield 28, 3) := by decide +kernel
theorem dX6_init_53 : decode cX6_init 53 = .ok (.aload_n 0, 1) := by decide +kernel
theorem dX6_init_54 : decode cX6_init 54 = .ok (.sipush 1100, 3) := by decide +kernel
theorem dX6_init_57 : decode cX6_init 57 = .ok (.newarray .boolean, 2) := by decide +kernel
theorem dX6_init_59 : decode cX6_init 59 = .ok (.putfield 31, 3) := by decide +kernel
theorem dX6_init_62 : decode cX6_init 62 = .ok (.aload_n 0, 1) := by decide +kernel
theorem dX6_init_63 : decode cX6_init 63 = .ok (.bipush 32, 2) := by decide +kernel
theorem dX6_init_65 : decode cX6_init 65 = .ok (.newarray .long, 2) := by decide +kernel
theorem dX6_init_67 : decode cX6_init 67 = .ok (.putfield 34, 3) := by decide +kernel
theorem dX6_init_70 : decode cX6_init 70 = .ok (.aload_n 0, 1) := by decide +kernel
theorem dX6_init_71 : decode cX6_init 71 = .ok (.iload_n 1, 1) := by decide +kernel
theorem dX6_init_72 : decode cX6_init 72 = .ok (.iconst 1, 1) := by decide +kernel
theorem dX6_init_73 : decode cX6_init 73 = .ok (.if_icmp .ge 7, 3) := by decide +kernel
theorem dX6_init_76 : decode cX6_init 76 = .ok (.iconst 1, 1) := by decide +kernel
theorem dX6_init_77 : decode cX6_init 77 = .ok (.goto 13, 3) := by decide +kernel
theorem dX6_init_80 : decode cX6_init 80 = .ok (.iload_n 1, 1) := by decide +kernel
theorem dX6_init_81 : decode cX6_init 81 = .ok (.iconst 3, 1) := by decide +kernel
theorem dX6_init_82 : decode cX6_init 82 = .ok (.if_icmp .le 7, 3) := by decide +kernel
theorem dX6_init_85 : decode cX6_init 85 = .ok (.iconst 3, 1) := by decide +kernel
theorem dX6_init_86 : decode cX6_init 86 = .ok (.goto 4, 3) := by decide +kernel
theorem dX6_init_89 : decode cX6_init 89 = .ok (.iload_n 1, 1) := by decide +kernel
theorem dX6_init_90 : decode cX6_init 90 = .ok (.putfield 37, 3) := by decide +kernel
theorem dX6_init_93 : decode cX6_init 93 = .ok (.return_, 1) := by decide +kernel
theorem dX6_in_0 : decode cX6_in 0 = .ok (.iload_n 0, 1) := by decide +kernel
theorem dX6_in_1 : decode cX6_in 1 = .ok (.iload_n 1, 1) := by decide +kernel
theorem dX6_in_2 : decode cX6_in 2 = .ok (.if_icmp .lt 12, 3) := by decide +kernel
theorem dX6_in_5 : decode cX6_in 5 = .ok (.iload_n 0, 1) := by decide +kernel
theorem dX6_in_6 : decode cX6_in 6 = .ok (.iload_n 2, 1) := by decide +kernel
theorem dX6_in_7 : decode cX6_in 7 = .ok (.if_icmp .gt 7, 3) := by decide +kernel
theorem dX6_in_10 : decode cX6_in 10 = .ok (.iconst 1, 1) := by decide +kernel
theorem dX6_in_11 : decode cX6_in 11 = .ok (.goto 4, 3) := by decide +kernel
theorem dX6_in_14 : decode cX6_in 14 = .ok (.iconst 0, 1) := by decide +kernel
theorem dX6_in_15 : decode cX6_in 15 = .ok (.ireturn, 1) := by decide +kernel
theorem dX6_at_0 : decode cX6_at 0 = .ok (.aload_n 0, 1) := by decide +kernel
theorem dX6_at_1 : decode cX6_at 1 = .ok (.getfield 9, 3) := by decide +kernel
theorem dX6_at_4 : decode cX6_at 4 = .ok (.iconst 4, 1) := by decide +kernel
theorem dX6_at_5 : decode cX6_at 5 = .ok (.iload_n 1, 1) := by decide +kernel
theorem dX6_at_6 : decode cX6_at 6 = .ok (.imul, 1) := by decide +kernel
theorem dX6_at_7 : decode cX6_at 7 = .ok (.iload_n 2, 1) := by decide +kernel
theorem dX6_at_8 : decode cX6_at 8 = .ok (.iadd, 1) := by decide +kernel
theorem dX6_at_9 : decode cX6_at 9 = .ok (.iaload, 1) := by decide +kernel
theorem dX6_at_10 : decode cX6_at 10 = .ok (.ireturn, 1) := by decide +kernel
set_option maxRecDepth 20000 in
theorem ggX6_isSame_X6_at : GoodIn wsX6_isSame wsX6_at := goodIn_r _ [6, 7, 8, 9, 10, 11, 12, 13, 14, 15, 16, 17, 18, 19] (by decide +kernel) (by decide +kernel)
set_option maxRecDepth 20000 in
theorem gX6_isSame_X6_at : GoodIn wsX6_isSame (wsV RX6 41 RX6 yX6_at wsX6_at) := goodIn_app (goodIn_of _ (by decide +kernel)) ggX6_isSame_X6_at
theorem dX6_isSame_0 : decode cX6_isSame 0 = .ok (.iconst 4, 1) := by decide +kernel
theorem dX6_isSame_1 : decode cX6_isSame 1 = .ok (.newarray .int, 2) := by decide +kernel
theorem dX6_isSame_3 : decode cX6_isSame 3 = .ok (.dup, 1) := by decide +kernel
theorem dX6_isSame_4 : decode cX6_isSame 4 = .ok (.iconst 0, 1) := by decide +kernel
theorem dX6_isSame_5 : decode cX6_isSame 5 = .ok (.iload_n 2, 1) := by decide +kernel
theorem dX6_isSame_6 : decode cX6_isSame 6 = .ok (.iastore, 1) := by decide +kernel
theorem dX6_isSame_7 : decode cX6_isSame 7 = .ok (.dup, 1) := by decide +kernel
theorem dX6_isSame_8 : decode cX6_isSame 8 = .ok (.iconst 1, 1) := by decide +kernel
theorem dX6_isSame_9 : decode cX6_isSame 9 = .ok (.iload_n 3, 1) := by decide +kernel
theorem dX6_isSame_10 : decode cX6_isSame 10 = .ok (.iastore, 1) := by decide +kernel
theorem dX6_isSame_11 : decode cX6_isSame 11 = .ok (.dup, 1) := by decide +kernel
theorem dX6_isSame_12 : decode cX6_isSame 12 = .ok (.iconst 2, 1) := by decide +kernel
theorem dX6_isSame_13 : decode cX6_isSame 13 = .ok (.iload 4, 2) := by decide +kernel
theorem dX6_isSame_15 : decode cX6_isSame 15 = .ok (.iastore, 1) := by decide +kernel
theorem dX6_isSame_16 : decode cX6_isSame 16 = .ok (.dup, 1) := by decide +kernel
theorem dX6_isSame_17 : decode cX6_isSame 17 = .ok (.iconst 3, 1) := by decide +kernel
theorem dX6_isSame_18 : decode cX6_isSame 18 = .ok (.iload 5, 2) := by decide +kernel
theorem dX6_isSame_20 : decode cX6_isSame 20 = .ok (.iastore, 1) := by decide +kernel
theorem dX6_isSame_21 : decode cX6_isSame 21 = .ok (.astore 6, 2) := by decide +kernel
theorem dX6_isSame_23 : decode cX6_isSame 23 = .ok (.iconst 0, 1) := by decide +kernel
theorem dX6_isSame_24 : decode cX6_isSame 24 = .ok (.istore 7, 2) := by decide +kernel
theorem dX6_isSame_26 : decode cX6_isSame 26 = .ok (.iload 7, 2) := by decide +kernel
theorem dX6_isSame_28 : decode cX6_isSame 28 = .ok (.iconst 4, 1) := by decide +kernel
theorem dX6_isSame_29 : decode cX6_isSame 29 = .ok (.if_icmp .ge 55, 3) := by decide +kernel
theorem dX6_isSame_32 : decode cX6_isSame 32 = .ok (.iconst 0, 1) := by decide +kernel
theorem dX6_isSame_33 : decode cX6_isSame 33 = .ok (.istore 8, 2) := by decide +kernel
theorem dX6_isSame_35 : decode cX6_isSame 35 = .ok (.iload 8, 2) := by decide +kernel
theorem dX6_isSame_37 : decode cX6_isSame 37 = .ok (.iconst 4, 1) := by decide +kernel
theorem dX6_isSame_38 : decode cX6_isSame 38 = .ok (.if_icmp .ge 40, 3) := by decide +kernel
theorem dX6_isSame_41 : decode cX6_isSame 41 = .ok (.aload_n 0, 1) := by decide +kernel
theorem dX6_isSame_42 : decode cX6_isSame 42 = .ok (.iload_n 1, 1) := by decide +kernel
theorem dX6_isSame_43 : decode cX6_isSame 43 = .ok (.iload 7, 2) := by decide +kernel
theorem dX6_isSame_45 : decode cX6_isSame 45 = .ok (.invokevirtual 41, 3) := by decide +kernel
theorem dX6_isSame_48 : decode cX6_isSame 48 = .ok (.aload 6, 2) := by decide +kernel
theorem dX6_isSame_50 : decode cX6_isSame 50 = .ok (.iload 8, 2) := by decide +kernel
theorem dX6_isSame_52 : decode cX6_isSame 52 = .ok (.iaload, 1) := by decide +kernel
theorem dX6_isSame_53 : decode cX6_isSame 53 = .ok (.imul, 1) := by decide +kernel
theorem dX6_isSame_54 : decode cX6_isSame 54 = .ok (.aload_n 0, 1) := by decide +kernel
theorem dX6_isSame_55 : decode cX6_isSame 55 = .ok (.iload_n 1, 1) := by decide +kernel
theorem dX6_isSame_56 : decode cX6_isSame 56 = .ok (.iload 8, 2) := by decide +kernel
theorem dX6_isSame_58 : decode cX6_isSame 58 = .ok (.invokevirtual 41, 3) := by decide +kernel
theorem dX6_isSame_61 : decode cX6_isSame 61 = .ok (.aload 6, 2) := by decide +kernel
theorem dX6_isSame_63 : decode cX6_isSame 63 = .ok (.iload 7, 2) := by decide +kernel
theorem dX6_isSame_65 : decode cX6_isSame 65 = .ok (.iaload, 1) := by decide +kernel
theorem dX6_isSame_66 : decode cX6_isSame 66 = .ok (.imul, 1) := by decide +kernel
theorem dX6_isSame_67 : decode cX6_isSame 67 = .ok (.if_icmp .eq 5, 3) := by decide +kernel
theorem dX6_isSame_70 : decode cX6_isSame 70 = .ok (.iconst 0, 1) := by decide +kernel
theorem dX6_isSame_71 : decode cX6_isSame 71 = .ok (.ireturn, 1) := by decide +kernel
theorem dX6_isSame_72 : decode cX6_isSame 72 = .ok (.iinc 8 1, 3) := by decide +kernel
theorem dX6_isSame_75 : decode cX6_isSame 75 = .ok (.goto (-40), 3) := by decide +kernel
theorem dX6_isSame_78 : decode cX6_isSame 78 = .ok (.iinc 7 1, 3) := by decide +kernel
theorem dX6_isSame_81 : decode cX6_isSame 81 = .ok (.goto (-55), 3) := by decide +kernel
theorem dX6_isSame_84 : decode cX6_isSame 84 = .ok (.iconst 1, 1) := by decide +kernel
theorem dX6_isSame_85 : decode cX6_isSame 85 = .ok (.ireturn, 1) := by decide +kernel
set_option maxRecDepth 20000 in
theorem ggX6_wall_X6_in : GoodIn wsX6_wall wsX6_in := goodIn_r _ [8] (by decide +kernel) (by decide +kernel)
set_option maxRecDepth 20000 in
theorem gX6_wall_X6_in : GoodIn wsX6_wall (va_wsS RX6 45 yX6_in wsX6_in) := goodIn_app (goodIn_of _ (by decide +kernel)) ggX6_wall_X6_in
set_option maxRecDepth 20000 in
theorem ggX6_wall_X6_isSame : GoodIn wsX6_wall wsX6_isSame := goodIn_r _ [12, 13, 14, 15, 16, 7, 17, 3, 18, 19, 20, 21, 22, 23, 24, 25, 26, 27, 28, 29] (by decide +kernel) (by decide +kernel)
set_option maxRecDepth 20000 in
theorem gX6_wall_X6_isSame : GoodIn wsX6_wall (wsV RX6 52 RX6 yX6_isSame wsX6_isSame) := goodIn_app (goodIn_of _ (by decide +kernel)) ggX6_wall_X6_isSame
theorem dX6_wall_0 : decode cX6_wall 0 = .ok (.iload_n 1, 1) := by decide +kernel
theorem dX6_wall_1 : decode cX6_wall 1 = .ok (.bipush (-9), 2) := by decide +kernel
theorem dX6_wall_3 : decode cX6_wall 3 = .ok (.bipush 9, 2) := by decide +kernel
theorem dX6_wall_5 : decode cX6_wall 5 = .ok (.invokestatic 45, 3) := by decide +kernel
theorem dX6_wall_8 : decode cX6_wall 8 = .ok (.ifCond .eq 49, 3) := by decide +kernel
theorem dX6_wall_11 : decode cX6_wall 11 = .ok (.iload_n 2, 1) := by decide +kernel
theorem dX6_wall_12 : decode cX6_wall 12 = .ok (.bipush (-9), 2) := by decide +kernel
theorem dX6_wall_14 : decode cX6_wall 14 = .ok (.bipush 9, 2) := by decide +kernel
theorem dX6_wall_16 : decode cX6_wall 16 = .ok (.invokestatic 45, 3) := by decide +kernel
theorem dX6_wall_19 : decode cX6_wall 19 = .ok (.ifCond .eq 38, 3) := by decide +kernel
theorem dX6_wall_22 : decode cX6_wall 22 = .ok (.iload_n 3, 1) := by decide +kernel
theorem dX6_wall_23 : decode cX6_wall 23 = .ok (.bipush (-9), 2) := by decide +kernel
theorem dX6_wall_25 : decode cX6_wall 25 = .ok (.bipush 9, 2) := by decide +kernel
theorem dX6_wall_27 : decode cX6_wall 27 = .ok (.invokestatic 45, 3) := by decide +kernel
theorem dX6_wall_30 : decode cX6_wall 30 = .ok (.ifCond .eq 27, 3) := by decide +kernel
theorem dX6_wall_33 : decode cX6_wall 33 = .ok (.iload 4, 2) := by decide +kernel
theorem dX6_wall_35 : decode cX6_wall 35 = .ok (.bipush (-99), 2) := by decide +kernel
theorem dX6_wall_37 : decode cX6_wall 37 = .ok (.bipush 99, 2) := by decide +kernel
theorem dX6_wall_39 : decode cX6_wall 39 = .ok (.invokestatic 45, 3) := by decide +kernel
theorem dX6_wall_42 : decode cX6_wall 42 = .ok (.ifCond .eq 15, 3) := by decide +kernel
theorem dX6_wall_45 : decode cX6_wall 45 = .ok (.iload_n 1, 1) := by decide +kernel
theorem dX6_wall_46 : decode cX6_wall 46 = .ok (.ifCond .ne 13, 3) := by decide +kernel
theorem dX6_wall_49 : decode cX6_wall 49 = .ok (.iload_n 2, 1) := by decide +kernel
theorem dX6_wall_50 : decode cX6_wall 50 = .ok (.ifCond .ne 9, 3) := by decide +kernel
theorem dX6_wall_53 : decode cX6_wall 53 = .ok (.iload_n 3, 1) := by decide +kernel
theorem dX6_wall_54 : decode cX6_wall 54 = .ok (.ifCond .ne 5, 3) := by decide +kernel
theorem dX6_wall_57 : decode cX6_wall 57 = .ok (.iconst (-1), 1) := by decide +kernel
theorem dX6_wall_58 : decode cX6_wall 58 = .ok (.ireturn, 1) := by decide +kernel
theorem dX6_wall_59 : decode cX6_wall 59 = .ok (.aload_n 0, 1) := by decide +kernel
theorem dX6_wall_60 : decode cX6_wall 60 = .ok (.getfield 37, 3) := by decide +kernel
theorem dX6_wall_63 : decode cX6_wall 63 = .ok (.iconst 3, 1) := by decide +kernel
theorem dX6_wall_64 : decode cX6_wall 64 = .ok (.if_icmp .ge 7, 3) := by decide +kernel
theorem dX6_wall_67 : decode cX6_wall 67 = .ok (.iload_n 3, 1) := by decide +kernel
theorem dX6_wall_68 : decode cX6_wall 68 = .ok (.ifCond .ne 24, 3) := by decide +kernel
theorem dX6_wall_71 : decode cX6_wall 71 = .ok (.aload_n 0, 1) := by decide +kernel
theorem dX6_wall_72 : decode cX6_wall 72 = .ok (.getfield 37, 3) := by decide +kernel
theorem dX6_wall_75 : decode cX6_wall 75 = .ok (.iconst 2, 1) := by decide +kernel
theorem dX6_wall_76 : decode cX6_wall 76 = .ok (.if_icmp .ge 7, 3) := by decide +kernel
theorem dX6_wall_79 : decode cX6_wall 79 = .ok (.iload_n 2, 1) := by decide +kernel
theorem dX6_wall_80 : decode cX6_wall 80 = .ok (.ifCond .ne 12, 3) := by decide +kernel
theorem dX6_wall_83 : decode cX6_wall 83 = .ok (.aload_n 0, 1) := by decide +kernel
theorem dX6_wall_84 : decode cX6_wall 84 = .ok (.getfield 49, 3) := by decide +kernel
theorem dX6_wall_87 : decode cX6_wall 87 = .ok (.bipush 8, 2) := by decide +kernel
theorem dX6_wall_89 : decode cX6_wall 89 = .ok (.if_icmp .ne 5, 3) := by decide +kernel
theorem dX6_wall_92 : decode cX6_wall 92 = .ok (.iconst (-1), 1) := by decide +kernel
theorem dX6_wall_93 : decode cX6_wall 93 = .ok (.ireturn, 1) := by decide +kernel
theorem dX6_wall_94 : decode cX6_wall 94 = .ok (.iconst 0, 1) := by decide +kernel
theorem dX6_wall_95 : decode cX6_wall 95 = .ok (.istore 5, 2) := by decide +kernel
theorem dX6_wall_97 : decode cX6_wall 97 = .ok (.iload 5, 2) := by decide +kernel
theorem dX6_wall_99 : decode cX6_wall 99 = .ok (.aload_n 0, 1) := by decide +kernel
theorem dX6_wall_100 : decode cX6_wall 100 = .ok (.getfield 49, 3) := by decide +kernel
theorem dX6_wall_103 : decode cX6_wall 103 = .ok (.if_icmp .ge 25, 3) := by decide +kernel
theorem dX6_wall_106 : decode cX6_wall 106 = .ok (.aload_n 0, 1) := by decide +kernel
theorem dX6_wall_107 : decode cX6_wall 107 = .ok (.iload 5, 2) := by decide +kernel
theorem dX6_wall_109 : decode cX6_wall 109 = .ok (.iload_n 1, 1) := by decide +kernel
theorem dX6_wall_110 : decode cX6_wall 110 = .ok (.iload_n 2, 1) := by decide +kernel
theorem dX6_wall_111 : decode cX6_wall 111 = .ok (.iload_n 3, 1) := by decide +kernel
theorem dX6_wall_112 : decode cX6_wall 112 = .ok (.iload 4, 2) := by decide +kernel
theorem dX6_wall_114 : decode cX6_wall 114 = .ok (.invokevirtual 52, 3) := by decide +kernel
theorem dX6_wall_117 : decode cX6_wall 117 = .ok (.ifCond .eq 5, 3) := by decide +kernel
theorem dX6_wall_120 : decode cX6_wall 120 = .ok (.iconst (-1), 1) := by decide +kernel
theorem dX6_wall_121 : decode cX6_wall 121 = .ok (.ireturn, 1) := by decide +kernel
theorem dX6_wall_122 : decode cX6_wall 122 = .ok (.iinc 5 1, 3) := by decide +kernel
theorem dX6_wall_125 : decode cX6_wall 125 = .ok (.goto (-28), 3) := by decide +kernel
theorem dX6_wall_128 : decode cX6_wall 128 = .ok (.aload_n 0, 1) := by decide +kernel
theorem dX6_wall_129 : decode cX6_wall 129 = .ok (.getfield 9, 3) := by decide +kernel
theorem dX6_wall_132 : decode cX6_wall 132 = .ok (.iconst 4, 1) := by decide +kernel
theorem dX6_wall_133 : decode cX6_wall 133 = .ok (.aload_n 0, 1) := by decide +kernel
theorem dX6_wall_134 : decode cX6_wall 134 = .ok (.getfield 49, 3) := by decide +kernel
theorem dX6_wall_137 : decode cX6_wall 137 = .ok (.imul, 1) := by decide +kernel
theorem dX6_wall_138 : decode cX6_wall 138 = .ok (.iload_n 1, 1) := by decide +kernel
theorem dX6_wall_139 : decode cX6_wall 139 = .ok (.iastore, 1) := by decide +kernel
theorem dX6_wall_140 : decode cX6_wall 140 = .ok (.aload_n 0, 1) := by decide +kernel
theorem dX6_wall_141 : decode cX6_wall 141 = .ok (.getfield 9, 3) := by decide +kernel
theorem dX6_wall_144 : decode cX6_wall 144 = .ok (.iconst 4, 1) := by decide +kernel
theorem dX6_wall_145 : decode cX6_wall 145 = .ok (.aload_n 0, 1) := by decide +kernel
theorem dX6_wall_146 : decode cX6_wall 146 = .ok (.getfield 49, 3) := by decide +kernel
theorem dX6_wall_149 : decode cX6_wall 149 = .ok (.imul, 1) := by decide +kernel
theorem dX6_wall_150 : decode cX6_wall 150 = .ok (.iconst 1, 1) := by decide +kernel
theorem dX6_wall_151 : decode cX6_wall 151 = .ok (.iadd, 1) := by decide +kernel
theorem dX6_wall_152 : decode cX6_wall 152 = .ok (.iload_n 2, 1) := by decide +kernel
theorem dX6_wall_153 : decode cX6_wall 153 = .ok (.iastore, 1) := by decide +kernel
theorem dX6_wall_154 : decode cX6_wall 154 = .ok (.aload_n 0, 1) := by decide +kernel
theorem dX6_wall_155 : decode cX6_wall 155 = .ok (.getfield 9, 3) := by decide +kernel
theorem dX6_wall_158 : decode cX6_wall 158 = .ok (.iconst 4, 1) := by decide +kernel
theorem dX6_wall_159 : decode cX6_wall 159 = .ok (.aload_n 0, 1) := by decide +kernel
theorem dX6_wall_160 : decode cX6_wall 160 = .ok (.getfield 49, 3) := by decide +kernel
theorem dX6_wall_163 : decode cX6_wall 163 = .ok (.imul, 1) := by decide +kernel
theorem dX6_wall_164 : decode cX6_wall 164 = .ok (.iconst 2, 1) := by decide +kernel
theorem dX6_wall_165 : decode cX6_wall 165 = .ok (.iadd, 1) := by decide +kernel
theorem dX6_wall_166 : decode cX6_wall 166 = .ok (.iload_n 3, 1) := by decide +kernel
theorem dX6_wall_167 : decode cX6_wall 167 = .ok (.iastore, 1) := by decide +kernel
theorem dX6_wall_168 : decode cX6_wall 168 = .ok (.aload_n 0, 1) := by decide +kernel
theorem dX6_wall_169 : decode cX6_wall 169 = .ok (.getfield 9, 3) := by decide +kernel
theorem dX6_wall_172 : decode cX6_wall 172 = .ok (.iconst 4, 1) := by decide +kernel
theorem dX6_wall_173 : decode cX6_wall 173 = .ok (.aload_n 0, 1) := by decide +kernel
theorem dX6_wall_174 : decode cX6_wall 174 = .ok (.getfield 49, 3) := by decide +kernel
theorem dX6_wall_177 : decode cX6_wall 177 = .ok (.imul, 1) := by decide +kernel
theorem dX6_wall_178 : decode cX6_wall 178 = .ok (.iconst 3, 1) := by decide +kernel
theorem dX6_wall_179 : decode cX6_wall 179 = .ok (.iadd, 1) := by decide +kernel
theorem dX6_wall_180 : decode cX6_wall 180 = .ok (.iload 4, 2) := by decide +kernel
theorem dX6_wall_182 : decode cX6_wall 182 = .ok (.iastore, 1) := by decide +kernel
theorem dX6_wall_183 : decode cX6_wall 183 = .ok (.aload_n 0, 1) := by decide +kernel
theorem dX6_wall_184 : decode cX6_wall 184 = .ok (.dup, 1) := by decide +kernel
theorem dX6_wall_185 : decode cX6_wall 185 = .ok (.getfield 49, 3) := by decide +kernel
theorem dX6_wall_188 : decode cX6_wall 188 = .ok (.iconst 1, 1) := by decide +kernel
theorem dX6_wall_189 : decode cX6_wall 189 = .ok (.iadd, 1) := by decide +kernel
theorem dX6_wall_190 : decode cX6_wall 190 = .ok (.putfield 49, 3) := by decide +kernel
theorem dX6_wall_193 : decode cX6_wall 193 = .ok (.aload_n 0, 1) := by decide +kernel
theorem dX6_wall_194 : decode cX6_wall 194 = .ok (.iconst 1, 1) := by decide +kernel
theorem dX6_wall_195 : decode cX6_wall 195 = .ok (.putfield 17, 3) := by decide +kernel
theorem dX6_wall_198 : decode cX6_wall 198 = .ok (.aload_n 0, 1) := by decide +kernel
theorem dX6_wall_199 : decode cX6_wall 199 = .ok (.getfield 49, 3) := by decide +kernel
theorem dX6_wall_202 : decode cX6_wall 202 = .ok (.iconst 1, 1) := by decide +kernel
theorem dX6_wall_203 : decode cX6_wall 203 = .ok (.isub, 1) := by decide +kernel
theorem dX6_wall_204 : decode cX6_wall 204 = .ok (.ireturn, 1) := by decide +kernel
set_option maxRecDepth 20000 in
theorem ggX6_take_X6_in : GoodIn wsX6_take wsX6_in := goodIn_r _ [7] (by decide +kernel) (by decide +kernel)
set_option maxRecDepth 20000 in
theorem gX6_take_X6_in : GoodIn wsX6_take (va_wsS RX6 45 yX6_in wsX6_in) := goodIn_app (goodIn_of _ (by decide +kernel)) ggX6_take_X6_in
theorem dX6_take_0 : decode cX6_take 0 = .ok (.iload_n 1, 1) := by decide +kernel
theorem dX6_take_1 : decode cX6_take 1 = .ok (.iconst 0, 1) := by decide +kernel
theorem dX6_take_2 : decode cX6_take 2 = .ok (.aload_n 0, 1) := by decide +kernel
theorem dX6_take_3 : decode cX6_take 3 = .ok (.getfield 49, 3) := by decide +kernel
theorem dX6_take_6 : decode cX6_take 6 = .ok (.iconst 1, 1) := by decide +kernel
theorem dX6_take_7 : decode cX6_take 7 = .ok (.isub, 1) := by decide +kernel
theorem dX6_take_8 : decode cX6_take 8 = .ok (.invokestatic 45, 3) := by decide +kernel
theorem dX6_take_11 : decode cX6_take 11 = .ok (.ifCond .ne 5, 3) := by decide +kernel
theorem dX6_take_14 : decode cX6_take 14 = .ok (.iconst 0, 1) := by decide +kernel
theorem dX6_take_15 : decode cX6_take 15 = .ok (.ireturn, 1) := by decide +kernel
theorem dX6_take_16 : decode cX6_take 16 = .ok (.iconst 4, 1) := by decide +kernel
theorem dX6_take_17 : decode cX6_take 17 = .ok (.iload_n 1, 1) := by decide +kernel
theorem dX6_take_18 : decode cX6_take 18 = .ok (.imul, 1) := by decide +kernel
theorem dX6_take_19 : decode cX6_take 19 = .ok (.istore_n 2, 1) := by decide +kernel
theorem dX6_take_20 : decode cX6_take 20 = .ok (.iload_n 2, 1) := by decide +kernel
theorem dX6_take_21 : decode cX6_take 21 = .ok (.iconst 4, 1) := by decide +kernel
theorem dX6_take_22 : decode cX6_take 22 = .ok (.iadd, 1) := by decide +kernel
theorem dX6_take_23 : decode cX6_take 23 = .ok (.iconst 4, 1) := by decide +kernel
theorem dX6_take_24 : decode cX6_take 24 = .ok (.aload_n 0, 1) := by decide +kernel
theorem dX6_take_25 : decode cX6_take 25 = .ok (.getfield 49, 3) := by decide +kernel
theorem dX6_take_28 : decode cX6_take 28 = .ok (.imul, 1) := by decide +kernel
theorem dX6_take_29 : decode cX6_take 29 = .ok (.if_icmp .ge 23, 3) := by decide +kernel
theorem dX6_take_32 : decode cX6_take 32 = .ok (.aload_n 0, 1) := by decide +kernel
theorem dX6_take_33 : decode cX6_take 33 = .ok (.getfield 9, 3) := by decide +kernel
theorem dX6_take_36 : decode cX6_take 36 = .ok (.iload_n 2, 1) := by decide +kernel
theorem dX6_take_37 : decode cX6_take 37 = .ok (.aload_n 0, 1) := by decide +kernel
theorem dX6_take_38 : decode cX6_take 38 = .ok (.getfield 9, 3) := by decide +kernel
theorem dX6_take_41 : decode cX6_take 41 = .ok (.iload_n 2, 1) := by decide +kernel
theorem dX6_take_42 : decode cX6_take 42 = .ok (.iconst 4, 1) := by decide +kernel
theorem dX6_take_43 : decode cX6_take 43 = .ok (.iadd, 1) := by decide +kernel
theorem dX6_take_44 : decode cX6_take 44 = .ok (.iaload, 1) := by decide +kernel
theorem dX6_take_45 : decode cX6_take 45 = .ok (.iastore, 1) := by decide +kernel
theorem dX6_take_46 : decode cX6_take 46 = .ok (.iinc 2 1, 3) := by decide +kernel
theorem dX6_take_49 : decode cX6_take 49 = .ok (.goto (-29), 3) := by decide +kernel
theorem dX6_take_52 : decode cX6_take 52 = .ok (.aload_n 0, 1) := by decide +kernel
theorem dX6_take_53 : decode cX6_take 53 = .ok (.dup, 1) := by decide +kernel
theorem dX6_take_54 : decode cX6_take 54 = .ok (.getfield 49, 3) := by decide +kernel
theorem dX6_take_57 : decode cX6_take 57 = .ok (.iconst 1, 1) := by decide +kernel
theorem dX6_take_58 : decode cX6_take 58 = .ok (.isub, 1) := by decide +kernel
theorem dX6_take_59 : decode cX6_take 59 = .ok (.putfield 49, 3) := by decide +kernel
theorem dX6_take_62 : decode cX6_take 62 = .ok (.aload_n 0, 1) := by decide +kernel
theorem dX6_take_63 : decode cX6_take 63 = .ok (.iconst 1, 1) := by decide +kernel
theorem dX6_take_64 : decode cX6_take 64 = .ok (.putfield 17, 3) := by decide +kernel
theorem dX6_take_67 : decode cX6_take 67 = .ok (.iconst 1, 1) := by decide +kernel
theorem dX6_take_68 : decode cX6_take 68 = .ok (.ireturn, 1) := by decide +kernel
set_option maxRecDepth 20000 in
theorem ggX6_told_X6_in : GoodIn wsX6_told wsX6_in := goodIn_r _ [5] (by decide +kernel) (by decide +kernel)
set_option maxRecDepth 20000 in
theorem gX6_told_X6_in : GoodIn wsX6_told (va_wsS RX6 45 yX6_in wsX6_in) := goodIn_app (goodIn_of _ (by decide +kernel)) ggX6_told_X6_in
set_option maxRecDepth 20000 in
theorem ggX6_told_X6_at : GoodIn wsX6_told wsX6_at := goodIn_r _ [9, 10, 11, 12, 13, 14, 15, 16, 17, 18, 19, 20, 21, 22] (by decide +kernel) (by decide +kernel)
set_option maxRecDepth 20000 in
theorem gX6_told_X6_at : GoodIn wsX6_told (wsV RX6 41 RX6 yX6_at wsX6_at) := goodIn_app (goodIn_of _ (by decide +kernel)) ggX6_told_X6_at
theorem dX6_told_0 : decode cX6_told 0 = .ok (.iload_n 1, 1) := by decide +kernel
theorem dX6_told_1 : decode cX6_told 1 = .ok (.iconst 0, 1) := by decide +kernel
theorem dX6_told_2 : decode cX6_told 2 = .ok (.aload_n 0, 1) := by decide +kernel
theorem dX6_told_3 : decode cX6_told 3 = .ok (.getfield 49, 3) := by decide +kernel
theorem dX6_told_6 : decode cX6_told 6 = .ok (.iconst 1, 1) := by decide +kernel
