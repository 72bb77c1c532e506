set_option maxRecDepth 1000000 in
theorem ggL_law_L_cell : GoodIn wsL_law wsL_cell := goodIn_r _ [9] rfl (by decide +kernel)
set_option maxRecDepth 1000000 in
theorem gL_law_L_cell : GoodIn wsL_law (va_wsS RL 9 yL_cell wsL_cell) := goodIn_app (goodIn_of _ (by decide +kernel)) ggL_law_L_cell
set_option maxRecDepth 1000000 in
theorem ggL_law_X5_init : GoodIn wsL_law wsX5_init := goodIn_r _ [12, 13, 14, 15, 16, 17, 18, 19, 20, 21, 22, 23, 24, 25, 26, 27, 28, 29, 30, 31, 32, 33, 34, 35, 36, 37, 38, 39, 40, 41, 42, 43, 44, 45, 46, 47, 48, 49, 50, 51, 52, 53, 54, 55, 56, 57, 58, 59, 60, 61, 62, 63, 64, 65, 66, 67, 68, 69, 70, 71, 72, 73, 74, 75, 76, 77, 78, 79, 80, 81, 82, 83, 84, 85, 86, 87, 88, 89, 90, 91, 92, 93, 580, 581, 582, 583, 584, 585, 586, 563, 564, 565, 566, 567, 587, 588, 589, 590, 591, 592, 593, 594, 595, 596, 597, 598, 599, 600, 601, 602, 603, 604, 605, 606, 607, 608, 609, 610, 611] rfl (by decide +kernel)
set_option maxRecDepth 1000000 in
theorem gL_law_X5_init : GoodIn wsL_law (wsX5_init) := ggL_law_X5_init
set_option maxRecDepth 1000000 in
theorem ggL_law_X6_init : GoodIn wsL_law wsX6_init := goodIn_r _ [96, 97, 14, 15, 44, 98, 57, 99, 100, 101, 102, 103, 104, 105, 106, 107, 568, 569, 570, 571, 572, 573, 574, 575, 576, 577, 578, 579] rfl (by decide +kernel)
set_option maxRecDepth 1000000 in
theorem gL_law_X6_init : GoodIn wsL_law (wsX6_init) := ggL_law_X6_init
set_option maxRecDepth 1000000 in
theorem ggL_law_X5_wall : GoodIn wsL_law wsX5_wall := goodIn_r _ [111, 26, 39, 112, 113, 114, 18, 115, 50, 116, 117, 118, 119, 120, 121, 122, 51, 45, 46, 47, 48, 123, 124, 125, 126, 563, 564, 565, 566, 567, 580, 581, 582, 583, 584, 585, 586] rfl (by decide +kernel)
set_option maxRecDepth 1000000 in
theorem gL_law_X5_wall : GoodIn wsL_law (wsV RL 21 RX5 yX5_wall wsX5_wall) := goodIn_app (goodIn_of _ (by decide +kernel)) ggL_law_X5_wall
set_option maxRecDepth 1000000 in
theorem ggL_law_X6_wall : GoodIn wsL_law wsX6_wall := goodIn_r _ [130, 107, 131, 98, 100, 132, 133, 5, 134, 135, 136, 137, 138, 44, 139, 140, 141, 142, 568, 569, 570, 571, 572, 573, 574, 575, 576, 577, 578, 579] rfl (by decide +kernel)
set_option maxRecDepth 1000000 in
theorem gL_law_X6_wall : GoodIn wsL_law (wsV RL 25 RX6 yX6_wall wsX6_wall) := goodIn_app (goodIn_of _ (by decide +kernel)) ggL_law_X6_wall
set_option maxRecDepth 1000000 in
theorem ggL_law_X5_take : GoodIn wsL_law wsX5_take := goodIn_r _ [146, 26, 39, 147, 148, 149, 18, 150, 51, 151, 152, 153, 154, 45, 46, 47, 48, 155, 563, 564, 565, 566, 567, 580, 581, 582, 583, 584, 585, 586] rfl (by decide +kernel)
set_option maxRecDepth 1000000 in
theorem gL_law_X5_take : GoodIn wsL_law (wsV RL 26 RX5 yX5_take wsX5_take) := goodIn_app (goodIn_of _ (by decide +kernel)) ggL_law_X5_take
set_option maxRecDepth 1000000 in
theorem ggL_law_X6_take : GoodIn wsL_law wsX6_take := goodIn_r _ [159, 131, 98, 100, 132, 133, 5, 134, 568, 569, 570, 571, 572, 573, 574, 575, 576, 577, 578, 579] rfl (by decide +kernel)
set_option maxRecDepth 1000000 in
theorem gL_law_X6_take : GoodIn wsL_law (wsV RL 30 RX6 yX6_take wsX6_take) := goodIn_app (goodIn_of _ (by decide +kernel)) ggL_law_X6_take
set_option maxRecDepth 1000000 in
theorem ggL_law_X5_told : GoodIn wsL_law wsX5_told := goodIn_r _ [163, 26, 147, 148, 149, 18, 150, 51, 563, 564, 565, 566, 567, 580, 581, 582, 583, 584, 585, 586] rfl (by decide +kernel)
set_option maxRecDepth 1000000 in
theorem gL_law_X5_told : GoodIn wsL_law (wsV RL 31 RX5 yX5_told wsX5_told) := goodIn_app (goodIn_of _ (by decide +kernel)) ggL_law_X5_told
set_option maxRecDepth 1000000 in
theorem ggL_law_X6_told : GoodIn wsL_law wsX6_told := goodIn_r _ [167, 131, 132, 133, 5, 134, 139, 140, 141, 142, 98, 568, 569, 570, 571, 572, 573, 574, 575, 576, 577, 578, 579] rfl (by decide +kernel)
set_option maxRecDepth 1000000 in
theorem gL_law_X6_told : GoodIn wsL_law (wsV RL 35 RX6 yX6_told wsX6_told) := goodIn_app (goodIn_of _ (by decide +kernel)) ggL_law_X6_told
set_option maxRecDepth 1000000 in
theorem ggL_law_X5_row : GoodIn wsL_law wsX5_row := goodIn_r _ [171, 26, 172, 173, 2, 174, 175, 176, 177, 178, 179, 18, 180, 51, 45, 46, 47, 48, 181, 182, 183, 184, 49, 185, 186, 187, 188, 563, 564, 565, 566, 567, 580, 581, 582, 583, 584, 585, 586] rfl (by decide +kernel)
set_option maxRecDepth 1000000 in
theorem gL_law_X5_row : GoodIn wsL_law (wsV RL 36 RX5 yX5_row wsX5_row) := goodIn_app (goodIn_of _ (by decide +kernel)) ggL_law_X5_row
set_option maxRecDepth 1000000 in
theorem ggL_law_X6_row : GoodIn wsL_law wsX6_row := goodIn_r _ [192, 44, 107, 193, 194, 131, 132, 133, 5, 134, 139, 140, 141, 142, 98, 195, 196, 197, 568, 569, 570, 571, 572, 573, 574, 575, 576, 577, 578, 579] rfl (by decide +kernel)
set_option maxRecDepth 1000000 in
theorem gL_law_X6_row : GoodIn wsL_law (wsV RL 40 RX6 yX6_row wsX6_row) := goodIn_app (goodIn_of _ (by decide +kernel)) ggL_law_X6_row
set_option maxRecDepth 1000000 in
theorem ggL_law_X5_faces : GoodIn wsL_law wsX5_faces := goodIn_r _ [201, 26, 202, 203, 204, 2, 205, 39, 34, 206, 207, 208, 33, 209, 74, 86, 87, 85, 75, 210, 211, 212, 213, 214, 215, 216, 29, 217, 58, 218, 219, 220, 221, 66, 222, 223, 224, 225, 56, 65, 59, 60, 61, 226, 227, 228, 64, 229, 230, 231, 232, 233, 234, 235, 236, 237, 238, 239, 240, 241, 242, 243, 244, 245, 246, 247, 248, 249, 84, 81, 250, 251, 252, 253, 254, 255, 256, 18, 257, 51, 258, 20, 21, 22, 259, 260, 261, 262, 263, 264, 265, 266, 267, 268, 78, 79, 269, 178, 179, 180, 45, 46, 47, 48, 185, 186, 187, 188, 270, 271, 272, 273, 82, 83, 274, 275, 276, 277, 278, 279, 182, 183, 184, 49, 280, 281, 282, 283, 284, 285, 286, 287, 288, 289, 290, 291, 76, 77, 292, 293, 294, 295, 296, 297, 298, 299, 300, 301, 563, 564, 565, 566, 567, 580, 581, 582, 583, 584, 585, 586, 594, 595, 596, 597, 598, 599, 600, 601, 602, 603, 604, 605, 606, 587, 588, 589, 590, 591, 592, 593, 609, 610, 611] rfl (by decide +kernel)
set_option maxRecDepth 1000000 in
theorem gL_law_X5_faces : GoodIn wsL_law (wsV RL 41 RX5 yX5_faces wsX5_faces) := goodIn_app (goodIn_of _ (by decide +kernel)) ggL_law_X5_faces
set_option maxRecDepth 1000000 in
theorem ggL_law_X6_faces : GoodIn wsL_law wsX6_faces := goodIn_r _ [305, 107, 131, 132, 133, 5, 134, 195, 196, 197, 306, 307, 308, 309, 310, 311, 312, 313, 99, 314, 315, 316, 317, 100, 318, 319, 320, 321, 322, 102, 103, 323, 324, 325, 326, 327, 328, 329, 330, 331, 332, 333, 139, 140, 141, 142, 98, 334, 335, 336, 337, 338, 104, 105, 339, 340, 341, 342, 343, 344, 345, 346, 347, 348, 349, 350, 351, 352, 353, 106, 568, 569, 570, 571, 572, 573, 574, 575, 576, 577, 578, 579] rfl (by decide +kernel)
set_option maxRecDepth 1000000 in
theorem gL_law_X6_faces : GoodIn wsL_law (wsV RL 45 RX6 yX6_faces wsX6_faces) := goodIn_app (goodIn_of _ (by decide +kernel)) ggL_law_X6_faces
set_option maxRecDepth 1000000 in
theorem ggL_law_X5_face : GoodIn wsL_law wsX5_face := goodIn_r _ [357, 202, 203, 204, 2, 205, 39, 34, 206, 207, 208, 33, 209, 74, 86, 87, 85, 75, 210, 211, 212, 213, 214, 215, 216, 29, 217, 58, 218, 219, 220, 221, 66, 222, 223, 224, 225, 56, 65, 59, 60, 61, 226, 227, 228, 64, 229, 230, 231, 232, 233, 234, 235, 236, 237, 238, 239, 240, 241, 242, 243, 244, 245, 246, 247, 248, 249, 84, 81, 250, 251, 252, 253, 254, 255, 256, 18, 257, 51, 258, 20, 21, 22, 259, 260, 261, 262, 263, 264, 265, 266, 267, 268, 78, 79, 269, 178, 179, 180, 45, 46, 47, 48, 185, 186, 187, 188, 270, 271, 272, 273, 82, 83, 274, 275, 276, 277, 278, 279, 182, 183, 184, 49, 280, 281, 282, 283, 284, 285, 286, 287, 288, 289, 290, 291, 76, 77, 292, 293, 294, 295, 296, 297, 358, 359, 360, 361, 563, 564, 565, 566, 567, 594, 595, 596, 597, 598, 599, 600, 601, 602, 603, 604, 605, 606, 587, 588, 589, 590, 591, 592, 593, 580, 581, 582, 583, 584, 585, 586, 609, 610, 611] rfl (by decide +kernel)
set_option maxRecDepth 1000000 in
theorem gL_law_X5_face : GoodIn wsL_law (wsV RL 46 RX5 yX5_face wsX5_face) := goodIn_app (goodIn_of _ (by decide +kernel)) ggL_law_X5_face
set_option maxRecDepth 1000000 in
theorem ggL_law_X6_face : GoodIn wsL_law wsX6_face := goodIn_r _ [365, 107, 131, 132, 133, 5, 134, 195, 196, 197, 306, 307, 308, 309, 310, 311, 312, 313, 99, 314, 315, 316, 317, 100, 318, 319, 320, 321, 322, 102, 103, 323, 324, 325, 326, 327, 328, 329, 330, 331, 332, 333, 139, 140, 141, 142, 98, 334, 335, 336, 337, 338, 104, 105, 339, 340, 341, 342, 343, 344, 345, 346, 347, 348, 349, 350, 351, 352, 353, 106, 568, 569, 570, 571, 572, 573, 574, 575, 576, 577, 578, 579] rfl (by decide +kernel)
set_option maxRecDepth 1000000 in
theorem gL_law_X6_face : GoodIn wsL_law (wsV RL 49 RX6 yX6_face wsX6_face) := goodIn_app (goodIn_of _ (by decide +kernel)) ggL_law_X6_face
set_option maxRecDepth 1000000 in
theorem ggL_law_X5_width : GoodIn wsL_law wsX5_width := goodIn_r _ [369, 26, 30, 202, 203, 204, 2, 205, 39, 34, 206, 207, 208, 33, 209, 74, 86, 87, 85, 75, 210, 211, 212, 213, 214, 215, 216, 29, 217, 58, 218, 219, 220, 221, 66, 222, 223, 224, 225, 56, 65, 59, 60, 61, 226, 227, 228, 64, 229, 230, 231, 232, 233, 234, 235, 236, 237, 238, 239, 240, 241, 242, 243, 244, 245, 246, 247, 248, 249, 84, 81, 250, 251, 252, 253, 254, 255, 256, 18, 257, 51, 258, 20, 21, 22, 259, 260, 261, 262, 263, 264, 265, 266, 267, 268, 78, 79, 269, 178, 179, 180, 45, 46, 47, 48, 185, 186, 187, 188, 270, 271, 272, 273, 82, 83, 274, 275, 276, 277, 278, 279, 182, 183, 184, 49, 280, 281, 282, 283, 284, 285, 286, 287, 288, 289, 290, 291, 76, 77, 292, 293, 294, 295, 296, 297, 370, 371, 372, 373, 374, 563, 564, 565, 566, 567, 580, 581, 582, 583, 584, 585, 586, 587, 588, 589, 590, 591, 592, 593, 594, 595, 596, 597, 598, 599, 600, 601, 602, 603, 604, 605, 606, 609, 610, 611] rfl (by decide +kernel)
set_option maxRecDepth 1000000 in
theorem gL_law_X5_width : GoodIn wsL_law (wsV RL 50 RX5 yX5_width wsX5_width) := goodIn_app (goodIn_of _ (by decide +kernel)) ggL_law_X5_width
set_option maxRecDepth 1000000 in
theorem ggL_law_X6_width : GoodIn wsL_law wsX6_width := goodIn_r _ [309, 107, 310, 311, 312, 5, 313, 99, 314, 315, 316, 317, 100, 131, 195, 196, 197, 318, 319, 320, 321, 322, 102, 103, 323, 324, 325, 326, 327, 328, 329, 330, 331, 332, 333, 139, 140, 141, 142, 98, 334, 335, 336, 337, 338, 104, 105, 339, 340, 341, 342, 343, 344, 345, 132, 133, 134, 346, 347, 348, 349, 350, 351, 352, 353, 106, 568, 569, 570, 571, 572, 573, 574, 575, 576, 577, 578, 579] rfl (by decide +kernel)
set_option maxRecDepth 1000000 in
theorem gL_law_X6_width : GoodIn wsL_law (wsV RL 53 RX6 yX6_width wsX6_width) := goodIn_app (goodIn_of _ (by decide +kernel)) ggL_law_X6_width
set_option maxRecDepth 1000000 in
theorem ggL_law_X5_bounded : GoodIn wsL_law wsX5_bounded := goodIn_r _ [379, 30, 26, 202, 203, 204, 2, 205, 39, 34, 206, 207, 208, 33, 209, 74, 86, 87, 85, 75, 210, 211, 212, 213, 214, 215, 216, 29, 217, 58, 218, 219, 220, 221, 66, 222, 223, 224, 225, 56, 65, 59, 60, 61, 226, 227, 228, 64, 229, 230, 231, 232, 233, 234, 235, 236, 237, 238, 239, 240, 241, 242, 243, 244, 245, 246, 247, 248, 249, 84, 81, 250, 251, 252, 253, 254, 255, 256, 18, 257, 51, 258, 20, 21, 22, 259, 260, 261, 262, 263, 264, 265, 266, 267, 268, 78, 79, 269, 178, 179, 180, 45, 46, 47, 48, 185, 186, 187, 188, 270, 271, 272, 273, 82, 83, 274, 275, 276, 277, 278, 279, 182, 183, 184, 49, 280, 281, 282, 283, 284, 285, 286, 287, 288, 289, 290, 291, 76, 77, 292, 293, 294, 295, 296, 297, 380, 381, 382, 383, 384, 371, 372, 373, 385, 374, 386, 387, 388, 389, 563, 564, 565, 566, 567, 580, 581, 582, 583, 584, 585, 586, 594, 595, 596, 597, 598, 599, 600, 601, 602, 603, 604, 605, 606, 587, 588, 589, 590, 591, 592, 593, 609, 610, 611] rfl (by decide +kernel)
set_option maxRecDepth 1000000 in
theorem gL_law_X5_bounded : GoodIn wsL_law (wsV RL 54 RX5 yX5_bounded wsX5_bounded) := goodIn_app (goodIn_of _ (by decide +kernel)) ggL_law_X5_bounded
set_option maxRecDepth 1000000 in
theorem ggL_law_X6_bounded : GoodIn wsL_law wsX6_bounded := goodIn_r _ [393, 131, 107, 394, 395, 396, 5, 397, 310, 311, 312, 313, 99, 314, 315, 316, 317, 100, 195, 196, 197, 318, 319, 320, 321, 322, 102, 103, 323, 324, 325, 326, 327, 328, 329, 330, 331, 332, 333, 139, 140, 141, 142, 98, 334, 335, 336, 337, 338, 104, 105, 339, 340, 341, 342, 343, 344, 345, 132, 133, 134, 346, 347, 348, 349, 350, 351, 352, 353, 106, 398, 399, 400, 401, 402, 403, 404, 405, 568, 569, 570, 571, 572, 573, 574, 575, 576, 577, 578, 579] rfl (by decide +kernel)
set_option maxRecDepth 1000000 in
theorem gL_law_X6_bounded : GoodIn wsL_law (wsV RL 57 RX6 yX6_bounded wsX6_bounded) := goodIn_app (goodIn_of _ (by decide +kernel)) ggL_law_X6_bounded
set_option maxRecDepth 1000000 in
theorem ggL_law_X5_boundedRooms : GoodIn wsL_law wsX5_boundedRooms := goodIn_r _ [409, 30, 26, 410, 411, 21, 412, 202, 203, 204, 2, 205, 39, 34, 206, 207, 208, 33, 209, 74, 86, 87, 85, 75, 210, 211, 212, 213, 214, 215, 216, 29, 217, 58, 218, 219, 220, 221, 66, 222, 223, 224, 225, 56, 65, 59, 60, 61, 226, 227, 228, 64, 229, 230, 231, 232, 233, 234, 235, 236, 237, 238, 239, 240, 241, 242, 243, 244, 245, 246, 247, 248, 249, 84, 81, 250, 251, 252, 253, 254, 255, 256, 18, 257, 51, 258, 20, 22, 259, 260, 261, 262, 263, 264, 265, 266, 267, 268, 78, 79, 269, 178, 179, 180, 45, 46, 47, 48, 185, 186, 187, 188, 270, 271, 272, 273, 82, 83, 274, 275, 276, 277, 278, 279, 182, 183, 184, 49, 280, 281, 282, 283, 284, 285, 286, 287, 288, 289, 290, 291, 76, 77, 292, 293, 294, 295, 296, 297, 385, 413, 414, 415, 416, 417, 418, 419, 420, 421, 422, 423, 563, 564, 565, 566, 567, 580, 581, 582, 583, 584, 585, 586, 594, 595, 596, 597, 598, 599, 600, 601, 602, 603, 604, 605, 606, 587, 588, 589, 590, 591, 592, 593, 609, 610, 611] rfl (by decide +kernel)
set_option maxRecDepth 1000000 in
theorem gL_law_X5_boundedRooms : GoodIn wsL_law (wsV RL 58 RX5 yX5_boundedRooms wsX5_boundedRooms) := goodIn_app (goodIn_of _ (by decide +kernel)) ggL_law_X5_boundedRooms
set_option maxRecDepth 1000000 in
theorem ggL_law_X6_boundedRooms : GoodIn wsL_law wsX6_boundedRooms := goodIn_r _ [427, 131, 195, 196, 5, 197, 394, 395, 396, 397, 310, 311, 312, 313, 99, 314, 315, 316, 317, 100, 318, 319, 320, 321, 107, 322, 102, 103, 323, 324, 325, 326, 327, 328, 329, 330, 331, 332, 333, 139, 140, 141, 142, 98, 334, 335, 336, 337, 338, 104, 105, 339, 340, 341, 342, 343, 344, 345, 132, 133, 134, 346, 347, 348, 349, 428, 391, 392, 393, 350, 351, 352, 353, 106, 398, 399, 400, 401, 402, 403, 404, 405, 568, 569, 570, 571, 572, 573, 574, 575, 576, 577, 578, 579] rfl (by decide +kernel)
set_option maxRecDepth 1000000 in
theorem gL_law_X6_boundedRooms : GoodIn wsL_law (wsV RL 62 RX6 yX6_boundedRooms wsX6_boundedRooms) := goodIn_app (goodIn_of _ (by decide +kernel)) ggL_law_X6_boundedRooms
set_option maxRecDepth 1000000 in
theorem ggL_law_X5_poly : GoodIn wsL_law wsX5_poly := goodIn_r _ [432, 30, 202, 203, 204, 2, 205, 39, 34, 206, 207, 208, 33, 209, 74, 86, 87, 85, 75, 210, 211, 212, 213, 214, 215, 216, 29, 217, 58, 218, 219, 220, 221, 66, 222, 223, 224, 225, 56, 65, 59, 60, 61, 226, 227, 228, 64, 229, 230, 231, 232, 233, 234, 235, 236, 237, 238, 239, 240, 241, 242, 243, 244, 245, 246, 247, 248, 249, 84, 81, 250, 251, 252, 253, 254, 255, 256, 18, 257, 51, 258, 20, 21, 22, 259, 260, 261, 262, 263, 264, 265, 266, 267, 268, 78, 79, 269, 178, 179, 180, 45, 46, 47, 48, 185, 186, 187, 188, 270, 271, 272, 273, 82, 83, 274, 275, 276, 277, 278, 279, 182, 183, 184, 49, 280, 281, 282, 283, 284, 285, 286, 287, 288, 289, 290, 291, 76, 77, 292, 293, 294, 295, 296, 297, 413, 414, 415, 416, 417, 418, 419, 420, 421, 422, 423, 563, 564, 565, 566, 567, 594, 595, 596, 597, 598, 599, 600, 601, 602, 603, 604, 605, 606, 587, 588, 589, 590, 591, 592, 593, 580, 581, 582, 583, 584, 585, 586, 609, 610, 611] rfl (by decide +kernel)
set_option maxRecDepth 1000000 in
theorem gL_law_X5_poly : GoodIn wsL_law (wsV RL 63 RX5 yX5_poly wsX5_poly) := goodIn_app (goodIn_of _ (by decide +kernel)) ggL_law_X5_poly
set_option maxRecDepth 1000000 in
theorem ggL_law_X6_poly : GoodIn wsL_law wsX6_poly := goodIn_r _ [436, 131, 437, 438, 439, 5, 440, 107, 441, 442, 443, 444, 350, 351, 352, 353, 106, 139, 140, 141, 142, 98, 445, 446, 447, 568, 569, 570, 571, 572, 573, 574, 575, 576, 577, 578, 579] rfl (by decide +kernel)
set_option maxRecDepth 1000000 in
theorem gL_law_X6_poly : GoodIn wsL_law (wsV RL 66 RX6 yX6_poly wsX6_poly) := goodIn_app (goodIn_of _ (by decide +kernel)) ggL_law_X6_poly
set_option maxRecDepth 1000000 in
theorem ggL_law_X5_without : GoodIn wsL_law wsX5_without := goodIn_r _ [451, 26, 30, 147, 148, 149, 18, 150, 51, 202, 203, 204, 2, 205, 39, 34, 206, 207, 208, 33, 209, 74, 86, 87, 85, 75, 210, 211, 212, 213, 214, 215, 216, 29, 217, 58, 218, 219, 220, 221, 66, 222, 223, 224, 225, 56, 65, 59, 60, 61, 226, 227, 228, 64, 229, 230, 231, 232, 233, 234, 235, 236, 237, 238, 239, 240, 241, 242, 243, 244, 245, 246, 247, 248, 249, 84, 81, 250, 251, 252, 253, 254, 255, 256, 257, 258, 20, 21, 22, 259, 260, 261, 262, 263, 264, 265, 266, 267, 268, 78, 79, 269, 178, 179, 180, 45, 46, 47, 48, 185, 186, 187, 188, 270, 271, 272, 273, 82, 83, 274, 275, 276, 277, 278, 279, 182, 183, 184, 49, 280, 281, 282, 283, 284, 285, 286, 287, 288, 289, 290, 291, 76, 77, 292, 293, 294, 295, 296, 297, 413, 414, 415, 416, 417, 418, 419, 420, 421, 422, 423, 563, 564, 565, 566, 567, 580, 581, 582, 583, 584, 585, 586, 594, 595, 596, 597, 598, 599, 600, 601, 602, 603, 604, 605, 606, 587, 588, 589, 590, 591, 592, 593, 609, 610, 611] rfl (by decide +kernel)
set_option maxRecDepth 1000000 in
theorem gL_law_X5_without : GoodIn wsL_law (wsV RL 67 RX5 yX5_without wsX5_without) := goodIn_app (goodIn_of _ (by decide +kernel)) ggL_law_X5_without
set_option maxRecDepth 1000000 in
theorem ggL_law_X6_without : GoodIn wsL_law wsX6_without := goodIn_r _ [455, 131, 132, 133, 5, 134, 437, 438, 439, 440, 107, 441, 442, 443, 444, 350, 351, 352, 353, 106, 139, 140, 141, 142, 98, 445, 446, 447, 568, 569, 570, 571, 572, 573, 574, 575, 576, 577, 578, 579] rfl (by decide +kernel)
set_option maxRecDepth 1000000 in
theorem gL_law_X6_without : GoodIn wsL_law (wsV RL 70 RX6 yX6_without wsX6_without) := goodIn_app (goodIn_of _ (by decide +kernel)) ggL_law_X6_without
set_option maxRecDepth 1000000 in
theorem ggL_law_X5_on : GoodIn wsL_law wsX5_on := goodIn_r _ [459, 26, 30, 147, 148, 149, 18, 150, 51, 202, 203, 204, 2, 205, 39, 34, 206, 207, 208, 33, 209, 74, 86, 87, 85, 75, 210, 211, 212, 213, 214, 215, 216, 29, 217, 58, 218, 219, 220, 221, 66, 222, 223, 224, 225, 56, 65, 59, 60, 61, 226, 227, 228, 64, 229, 230, 231, 232, 233, 234, 235, 236, 237, 238, 239, 240, 241, 242, 243, 244, 245, 246, 247, 248, 249, 84, 81, 250, 251, 252, 253, 254, 255, 256, 257, 258, 20, 21, 22, 259, 260, 261, 262, 263, 264, 265, 266, 267, 268, 78, 79, 269, 178, 179, 180, 45, 46, 47, 48, 185, 186, 187, 188, 270, 271, 272, 273, 82, 83, 274, 275, 276, 277, 278, 279, 182, 183, 184, 49, 280, 281, 282, 283, 284, 285, 286, 287, 288, 289, 290, 291, 76, 77, 292, 293, 294, 295, 296, 297, 413, 414, 415, 416, 417, 418, 419, 420, 421, 422, 423, 563, 564, 565, 566, 567, 580, 581, 582, 583, 584, 585, 586, 594, 595, 596, 597, 598, 599, 600, 601, 602, 603, 604, 605, 606, 587, 588, 589, 590, 591, 592, 593, 609, 610, 611] rfl (by decide +kernel)
set_option maxRecDepth 1000000 in
theorem gL_law_X5_on : GoodIn wsL_law (wsV RL 71 RX5 yX5_on wsX5_on) := goodIn_app (goodIn_of _ (by decide +kernel)) ggL_law_X5_on
set_option maxRecDepth 1000000 in
theorem ggL_law_X6_on : GoodIn wsL_law wsX6_on := goodIn_r _ [463, 131, 107, 132, 133, 5, 134, 441, 442, 443, 444, 350, 351, 352, 353, 106, 139, 140, 141, 142, 98, 445, 446, 447, 568, 569, 570, 571, 572, 573, 574, 575, 576, 577, 578, 579] rfl (by decide +kernel)
set_option maxRecDepth 1000000 in
theorem gL_law_X6_on : GoodIn wsL_law (wsV RL 74 RX6 yX6_on wsX6_on) := goodIn_app (goodIn_of _ (by decide +kernel)) ggL_law_X6_on
set_option maxRecDepth 1000000 in
theorem ggL_law_X5_walls : GoodIn wsL_law wsX5_walls := goodIn_r _ [467, 202, 203, 204, 2, 205, 39, 34, 206, 207, 208, 33, 209, 74, 86, 87, 85, 75, 210, 211, 212, 213, 214, 215, 216, 29, 217, 58, 218, 219, 220, 221, 66, 222, 223, 224, 225, 56, 65, 59, 60, 61, 226, 227, 228, 64, 229, 230, 231, 232, 233, 234, 235, 236, 237, 238, 239, 240, 241, 242, 243, 244, 245, 246, 247, 248, 249, 84, 81, 250, 251, 252, 253, 254, 255, 256, 18, 257, 51, 258, 20, 21, 22, 259, 260, 261, 262, 263, 264, 265, 266, 267, 268, 78, 79, 269, 178, 179, 180, 45, 46, 47, 48, 185, 186, 187, 188, 270, 271, 272, 273, 82, 83, 274, 275, 276, 277, 278, 279, 182, 183, 184, 49, 280, 281, 282, 283, 284, 285, 286, 287, 288, 289, 290, 291, 76, 77, 292, 293, 294, 295, 296, 297, 380, 381, 382, 383, 384, 371, 372, 373, 468, 469, 470, 471, 472, 473, 474, 475, 563, 564, 565, 566, 567, 594, 595, 596, 597, 598, 599, 600, 601, 602, 603, 604, 605, 606, 587, 588, 589, 590, 591, 592, 593, 580, 581, 582, 583, 584, 585, 586, 609, 610, 611] rfl (by decide +kernel)
set_option maxRecDepth 1000000 in
theorem gL_law_X5_walls : GoodIn wsL_law (wsV RL 75 RX5 yX5_walls wsX5_walls) := goodIn_app (goodIn_of _ (by decide +kernel)) ggL_law_X5_walls
set_option maxRecDepth 1000000 in
theorem ggL_law_X6_walls : GoodIn wsL_law wsX6_walls := goodIn_r _ [479, 131, 394, 395, 396, 5, 397, 310, 311, 312, 313, 99, 314, 315, 316, 317, 100, 195, 196, 197, 318, 319, 320, 321, 107, 322, 102, 103, 323, 324, 325, 326, 327, 328, 329, 330, 331, 332, 333, 139, 140, 141, 142, 98, 334, 335, 336, 337, 338, 104, 105, 339, 340, 341, 342, 343, 344, 345, 132, 133, 134, 346, 347, 348, 349, 480, 481, 482, 568, 569, 570, 571, 572, 573, 574, 575, 576, 577, 578, 579] rfl (by decide +kernel)
set_option maxRecDepth 1000000 in
theorem gL_law_X6_walls : GoodIn wsL_law (wsV RL 78 RX6 yX6_walls wsX6_walls) := goodIn_app (goodIn_of _ (by decide +kernel)) ggL_law_X6_walls
set_option maxRecDepth 1000000 in
theorem ggL_law_X5_beside : GoodIn wsL_law wsX5_beside := goodIn_r _ [486, 26, 202, 203, 204, 2, 205, 39, 34, 206, 207, 208, 33, 209, 74, 86, 87, 85, 75, 210, 211, 212, 213, 214, 215, 216, 29, 217, 58, 218, 219, 220, 221, 66, 222, 223, 224, 225, 56, 65, 59, 60, 61, 226, 227, 228, 64, 229, 230, 231, 232, 233, 234, 235, 236, 237, 238, 239, 240, 241, 242, 243, 244, 245, 246, 247, 248, 249, 84, 81, 250, 251, 252, 253, 254, 255, 256, 18, 257, 51, 258, 20, 21, 22, 259, 260, 261, 262, 263, 264, 265, 266, 267, 268, 78, 79, 269, 178, 179, 180, 45, 46, 47, 48, 185, 186, 187, 188, 270, 271, 272, 273, 82, 83, 274, 275, 276, 277, 278, 279, 182, 183, 184, 49, 280, 281, 282, 283, 284, 285, 286, 287, 288, 289, 290, 291, 76, 77, 292, 293, 294, 295, 296, 297, 147, 148, 149, 150, 380, 381, 382, 383, 384, 371, 372, 373, 487, 472, 473, 474, 563, 564, 565, 566, 567, 594, 595, 596, 597, 598, 599, 600, 601, 602, 603, 604, 605, 606, 587, 588, 589, 590, 591, 592, 593, 580, 581, 582, 583, 584, 585, 586, 609, 610, 611] rfl (by decide +kernel)
set_option maxRecDepth 1000000 in
theorem gL_law_X5_beside : GoodIn wsL_law (wsV RL 79 RX5 yX5_beside wsX5_beside) := goodIn_app (goodIn_of _ (by decide +kernel)) ggL_law_X5_beside
set_option maxRecDepth 1000000 in
theorem ggL_law_X6_beside : GoodIn wsL_law wsX6_beside := goodIn_r _ [491, 131, 394, 395, 396, 5, 397, 310, 311, 312, 313, 99, 314, 315, 316, 317, 100, 195, 196, 197, 318, 319, 320, 321, 107, 322, 102, 103, 323, 324, 325, 326, 327, 328, 329, 330, 331, 332, 333, 139, 140, 141, 142, 98, 334, 335, 336, 337, 338, 104, 105, 339, 340, 341, 342, 343, 344, 345, 132, 133, 134, 346, 347, 348, 349, 480, 481, 482, 568, 569, 570, 571, 572, 573, 574, 575, 576, 577, 578, 579] rfl (by decide +kernel)
set_option maxRecDepth 1000000 in
theorem gL_law_X6_beside : GoodIn wsL_law (wsV RL 82 RX6 yX6_beside wsX6_beside) := goodIn_app (goodIn_of _ (by decide +kernel)) ggL_law_X6_beside
set_option maxRecDepth 1000000 in
theorem ggL_law_X5_way : GoodIn wsL_law wsX5_way := goodIn_r _ [495, 202, 203, 204, 2, 205, 39, 34, 206, 207, 208, 33, 209, 74, 86, 87, 85, 75, 210, 211, 212, 213, 214, 215, 216, 29, 217, 58, 218, 219, 220, 221, 66, 222, 223, 224, 225, 56, 65, 59, 60, 61, 226, 227, 228, 64, 229, 230, 231, 232, 233, 234, 235, 236, 237, 238, 239, 240, 241, 242, 243, 244, 245, 246, 247, 248, 249, 84, 81, 250, 251, 252, 253, 254, 255, 256, 18, 257, 51, 258, 20, 21, 22, 259, 260, 261, 262, 263, 264, 265, 266, 267, 268, 78, 79, 269, 178, 179, 180, 45, 46, 47, 48, 185, 186, 187, 188, 270, 271, 272, 273, 82, 83, 274, 275, 276, 277, 278, 279, 182, 183, 184, 49, 280, 281, 282, 283, 284, 285, 286, 287, 288, 289, 290, 291, 76, 77, 292, 293, 294, 295, 296, 297, 380, 381, 382, 383, 384, 371, 372, 373, 496, 497, 498, 374, 499, 418, 419, 420, 421, 422, 423, 563, 564, 565, 566, 567, 594, 595, 596, 597, 598, 599, 600, 601, 602, 603, 604, 605, 606, 587, 588, 589, 590, 591, 592, 593, 580, 581, 582, 583, 584, 585, 586, 609, 610, 611] rfl (by decide +kernel)
set_option maxRecDepth 1000000 in
theorem gL_law_X5_way : GoodIn wsL_law (wsV RL 83 RX5 yX5_way wsX5_way) := goodIn_app (goodIn_of _ (by decide +kernel)) ggL_law_X5_way
set_option maxRecDepth 1000000 in
theorem ggL_law_X6_way : GoodIn wsL_law wsX6_way := goodIn_r _ [503, 394, 395, 396, 5, 397, 310, 311, 312, 313, 99, 314, 315, 316, 317, 100, 131, 195, 196, 197, 318, 319, 320, 321, 107, 322, 102, 103, 323, 324, 325, 326, 327, 328, 329, 330, 331, 332, 333, 139, 140, 141, 142, 98, 334, 335, 336, 337, 338, 104, 105, 339, 340, 341, 342, 343, 344, 345, 132, 133, 134, 346, 347, 348, 349, 504, 505, 506, 507, 508, 509, 510, 568, 569, 570, 571, 572, 573, 574, 575, 576, 577, 578, 579] rfl (by decide +kernel)
set_option maxRecDepth 1000000 in
theorem gL_law_X6_way : GoodIn wsL_law (wsV RL 86 RX6 yX6_way wsX6_way) := goodIn_app (goodIn_of _ (by decide +kernel)) ggL_law_X6_way
set_option maxRecDepth 1000000 in
theorem ggL_law_X5_step : GoodIn wsL_law wsX5_step := goodIn_r _ [514, 26, 202, 203, 204, 2, 205, 39, 34, 206, 207, 208, 33, 209, 74, 86, 87, 85, 75, 210, 211, 212, 213, 214, 215, 216, 29, 217, 58, 218, 219, 220, 221, 66, 222, 223, 224, 225, 56, 65, 59, 60, 61, 226, 227, 228, 64, 229, 230, 231, 232, 233, 234, 235, 236, 237, 238, 239, 240, 241, 242, 243, 244, 245, 246, 247, 248, 249, 84, 81, 250, 251, 252, 253, 254, 255, 256, 18, 257, 51, 258, 20, 21, 22, 259, 260, 261, 262, 263, 264, 265, 266, 267, 268, 78, 79, 269, 178, 179, 180, 45, 46, 47, 48, 185, 186, 187, 188, 270, 271, 272, 273, 82, 83, 274, 275, 276, 277, 278, 279, 182, 183, 184, 49, 280, 281, 282, 283, 284, 285, 286, 287, 288, 289, 290, 291, 76, 77, 292, 293, 294, 295, 296, 297, 380, 381, 382, 383, 384, 371, 372, 373, 496, 497, 498, 374, 468, 469, 470, 471, 472, 473, 474, 475, 563, 564, 565, 566, 567, 580, 581, 582, 583, 584, 585, 586, 594, 595, 596, 597, 598, 599, 600, 601, 602, 603, 604, 605, 606, 587, 588, 589, 590, 591, 592, 593, 609, 610, 611] rfl (by decide +kernel)
set_option maxRecDepth 1000000 in
theorem gL_law_X5_step : GoodIn wsL_law (wsV RL 87 RX5 yX5_step wsX5_step) := goodIn_app (goodIn_of _ (by decide +kernel)) ggL_law_X5_step
set_option maxRecDepth 1000000 in
theorem ggL_law_X6_step : GoodIn wsL_law wsX6_step := goodIn_r _ [518, 131, 394, 395, 396, 5, 397, 310, 311, 312, 313, 99, 314, 315, 316, 317, 100, 195, 196, 197, 318, 319, 320, 321, 107, 322, 102, 103, 323, 324, 325, 326, 327, 328, 329, 330, 331, 332, 333, 139, 140, 141, 142, 98, 334, 335, 336, 337, 338, 104, 105, 339, 340, 341, 342, 343, 344, 345, 132, 133, 134, 346, 347, 348, 349, 504, 505, 506, 507, 519, 477, 478, 479, 480, 481, 482, 568, 569, 570, 571, 572, 573, 574, 575, 576, 577, 578, 579] rfl (by decide +kernel)
set_option maxRecDepth 1000000 in
theorem gL_law_X6_step : GoodIn wsL_law (wsV RL 90 RX6 yX6_step wsX6_step) := goodIn_app (goodIn_of _ (by decide +kernel)) ggL_law_X6_step
set_option maxRecDepth 1000000 in
theorem ggL_law_X5_far : GoodIn wsL_law wsX5_far := goodIn_r _ [523, 26, 563, 564, 565, 566, 567, 580, 581, 582, 583, 584, 585, 586] rfl (by decide +kernel)
set_option maxRecDepth 1000000 in
theorem gL_law_X5_far : GoodIn wsL_law (wsV RL 91 RX5 yX5_far wsX5_far) := goodIn_app (goodIn_of _ (by decide +kernel)) ggL_law_X5_far
set_option maxRecDepth 1000000 in
theorem ggL_law_X6_far : GoodIn wsL_law wsX6_far := goodIn_r _ [527, 131, 195, 196, 5, 197, 394, 395, 396, 397, 310, 311, 312, 313, 99, 314, 315, 316, 317, 100, 318, 319, 320, 321, 107, 322, 102, 103, 323, 324, 325, 326, 327, 328, 329, 330, 331, 332, 333, 139, 140, 141, 142, 98, 334, 335, 336, 337, 338, 104, 105, 339, 340, 341, 342, 343, 344, 345, 132, 133, 134, 346, 347, 348, 349, 504, 505, 506, 507, 508, 509, 510, 568, 569, 570, 571, 572, 573, 574, 575, 576, 577, 578, 579] rfl (by decide +kernel)
set_option maxRecDepth 1000000 in
theorem gL_law_X6_far : GoodIn wsL_law (wsV RL 94 RX6 yX6_far wsX6_far) := goodIn_app (goodIn_of _ (by decide +kernel)) ggL_law_X6_far
set_option maxRecDepth 1000000 in
theorem ggL_law_X5_left : GoodIn wsL_law wsX5_left := goodIn_r _ [531, 38, 532, 533, 2, 534, 535, 536, 537, 37, 538, 93, 92, 539, 540, 541, 542, 543, 544, 545, 546, 547, 548, 549, 550, 418, 419, 420, 421, 422, 423, 563, 564, 565, 566, 567, 607, 608, 580, 581, 582, 583, 584, 585, 586] rfl (by decide +kernel)
set_option maxRecDepth 1000000 in
theorem gL_law_X5_left : GoodIn wsL_law (wsV RL 95 RX5 yX5_left wsX5_left) := goodIn_app (goodIn_of _ (by decide +kernel)) ggL_law_X5_left
set_option maxRecDepth 1000000 in
theorem ggL_law_X6_left : GoodIn wsL_law wsX6_left := goodIn_r _ [554, 107, 131, 132, 133, 5, 134, 139, 140, 141, 142, 98, 568, 569, 570, 571, 572, 573, 574, 575, 576, 577, 578, 579] rfl (by decide +kernel)
set_option maxRecDepth 1000000 in
theorem gL_law_X6_left : GoodIn wsL_law (wsV RL 98 RX6 yX6_left wsX6_left) := goodIn_app (goodIn_of _ (by decide +kernel)) ggL_law_X6_left
set_option maxRecDepth 1000000 in
theorem ggL_law_X5_count : GoodIn wsL_law wsX5_count := goodIn_r _ [558, 26, 30, 202, 203, 204, 2, 205, 39, 34, 206, 207, 208, 33, 209, 74, 86, 87, 85, 75, 210, 211, 212, 213, 214, 215, 216, 29, 217, 58, 218, 219, 220, 221, 66, 222, 223, 224, 225, 56, 65, 59, 60, 61, 226, 227, 228, 64, 229, 230, 231, 232, 233, 234, 235, 236, 237, 238, 239, 240, 241, 242, 243, 244, 245, 246, 247, 248, 249, 84, 81, 250, 251, 252, 253, 254, 255, 256, 18, 257, 51, 258, 20, 21, 22, 259, 260, 261, 262, 263, 264, 265, 266, 267, 268, 78, 79, 269, 178, 179, 180, 45, 46, 47, 48, 185, 186, 187, 188, 270, 271, 272, 273, 82, 83, 274, 275, 276, 277, 278, 279, 182, 183, 184, 49, 280, 281, 282, 283, 284, 285, 286, 287, 288, 289, 290, 291, 76, 77, 292, 293, 294, 295, 296, 297, 298, 299, 300, 301, 385, 563, 564, 565, 566, 567, 580, 581, 582, 583, 584, 585, 586, 594, 595, 596, 597, 598, 599, 600, 601, 602, 603, 604, 605, 606, 587, 588, 589, 590, 591, 592, 593, 609, 610, 611] rfl (by decide +kernel)
set_option maxRecDepth 1000000 in
theorem gL_law_X5_count : GoodIn wsL_law (wsV RL 99 RX5 yX5_count wsX5_count) := goodIn_app (goodIn_of _ (by decide +kernel)) ggL_law_X5_count
set_option maxRecDepth 1000000 in
theorem ggL_law_X6_count : GoodIn wsL_law wsX6_count := goodIn_r _ [562, 107, 131, 195, 196, 5, 197, 394, 395, 396, 397, 310, 311, 312, 313, 99, 314, 315, 316, 317, 100, 318, 319, 320, 321, 322, 102, 103, 323, 324, 325, 326, 327, 328, 329, 330, 331, 332, 333, 139, 140, 141, 142, 98, 334, 335, 336, 337, 338, 104, 105, 339, 340, 341, 342, 343, 344, 345, 132, 133, 134, 346, 347, 348, 349, 350, 351, 352, 353, 106, 568, 569, 570, 571, 572, 573, 574, 575, 576, 577, 578, 579] rfl (by decide +kernel)
set_option maxRecDepth 1000000 in
theorem gL_law_X6_count : GoodIn wsL_law (wsV RL 102 RX6 yX6_count wsX6_count) := goodIn_app (goodIn_of _ (by decide +kernel)) ggL_law_X6_count
