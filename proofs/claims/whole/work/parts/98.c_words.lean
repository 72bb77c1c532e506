/-! the law's words are among the tables' words -/
theorem mem_ix {big ws : List Cond} (ps : List Nat) (h : ws = ps.filterMap (fun i => big[i]?)) : ∀ w ∈ ws, w ∈ big := by
  intro w hw
  rw [h] at hw
  obtain ⟨i, _, hi⟩ := List.mem_filterMap.mp hw
  exact List.mem_of_getElem? hi
set_option maxRecDepth 1000000 in
theorem wlin_1 : ∀ w ∈ wsL_law_r1, w ∈ lw_tbl := mem_ix [38, 39, 28, 523, 524, 35, 520, 521, 27, 522, 40, 41, 42, 43, 44, 45, 46, 47, 29, 48, 49, 30, 50, 51] rfl
set_option maxRecDepth 1000000 in
theorem wlin_2 : ∀ w ∈ wsL_law_r2, w ∈ lw_tbl := mem_ix [52, 53, 222, 106, 107, 31, 223, 160, 161, 33, 224, 209, 210, 34, 225, 226, 54, 55, 56, 57, 105, 65, 70, 75] rfl
set_option maxRecDepth 1000000 in
theorem wlin_3 : ∀ w ∈ wsL_law_r3, w ∈ lw_tbl := mem_ix [80, 84, 60, 85, 108, 109, 110, 111, 136, 134, 139, 141, 142, 143, 112, 113, 32, 144, 135, 115, 116, 117, 162, 163] rfl
set_option maxRecDepth 1000000 in
theorem wlin_4 : ∀ w ∈ wsL_law_r4, w ∈ lw_tbl := mem_ix [164, 165, 170, 171, 172, 173, 174, 175, 166, 176, 177, 178, 168, 169, 179, 181, 211, 212, 213, 214, 216, 215, 525, 526] rfl
set_option maxRecDepth 1000000 in
theorem wlin_5 : ∀ w ∈ wsL_law_r5, w ∈ lw_tbl := mem_ix [527, 528, 531, 532, 533, 566, 534, 535, 537, 538, 540, 529, 238, 239, 240, 241, 242, 243, 244, 245, 246, 247, 248, 249] rfl
set_option maxRecDepth 1000000 in
theorem wlin_6 : ∀ w ∈ wsL_law_r6, w ∈ lw_tbl := mem_ix [250, 251, 252, 253, 254, 255, 256, 567, 568, 569, 570, 530, 571, 572, 573, 574, 576, 10, 577, 578, 580, 11, 581, 257] rfl
set_option maxRecDepth 1000000 in
theorem wlin_7 : ∀ w ∈ wsL_law_r7, w ∈ lw_tbl := mem_ix [258, 259, 260, 261, 262, 263, 264, 265, 266, 267, 268, 269, 582, 583, 584, 585, 270, 271, 272, 273, 586, 587, 588, 589] rfl
set_option maxRecDepth 1000000 in
theorem wlin_8 : ∀ w ∈ wsL_law_r8, w ∈ lw_tbl := mem_ix [274, 275, 276, 277, 278, 279, 280, 281, 282, 283, 284, 285, 286, 287, 288, 289, 290, 292, 293, 295, 296, 590, 591, 592] rfl
set_option maxRecDepth 1000000 in
theorem wlin_9 : ∀ w ∈ wsL_law_r9, w ∈ lw_tbl := mem_ix [593, 594, 595, 596, 597, 598, 297, 298, 299, 300, 301, 303, 0, 304, 305, 306, 307, 308, 309, 310, 36, 311, 312, 313] rfl
set_option maxRecDepth 1000000 in
theorem wlin_10 : ∀ w ∈ wsL_law_r10, w ∈ lw_tbl := mem_ix [314, 315, 316, 317, 318, 319, 320, 322, 1, 323, 324, 325, 326, 327, 118, 121, 124, 328, 329, 330, 331, 332, 333, 334] rfl
set_option maxRecDepth 1000000 in
theorem wlin_11 : ∀ w ∈ wsL_law_r11, w ∈ lw_tbl := mem_ix [335, 336, 337, 338, 339, 340, 341, 343, 2, 344, 345, 346, 347, 348, 349, 350, 351, 352, 353, 354, 355, 356, 357, 358] rfl
set_option maxRecDepth 1000000 in
theorem wlin_12 : ∀ w ∈ wsL_law_r12, w ∈ lw_tbl := mem_ix [359, 360, 362, 3, 363, 364, 367, 369, 4, 370, 371, 372, 374, 5, 375, 376, 377, 379, 6, 380, 381, 383, 7, 384] rfl
set_option maxRecDepth 1000000 in
theorem wlin_13 : ∀ w ∈ wsL_law_r13, w ∈ lw_tbl := mem_ix [385, 387, 8, 388, 390, 391, 392, 393, 394, 395, 396, 397, 398, 399, 645, 646, 647, 648, 649, 600, 601, 602, 603, 605] rfl
set_option maxRecDepth 1000000 in
theorem wlin_14 : ∀ w ∈ wsL_law_r14, w ∈ lw_tbl := mem_ix [12, 606, 607, 609, 13, 610, 611, 613, 14, 614, 536, 615, 617, 15, 618, 619, 620, 621, 622, 624, 16, 625, 626, 628] rfl
set_option maxRecDepth 1000000 in
theorem wlin_15 : ∀ w ∈ wsL_law_r15, w ∈ lw_tbl := mem_ix [17, 629, 539, 630, 632, 18, 633, 634, 635, 636, 637, 639, 19, 640, 641, 643, 20, 644, 400, 401, 402, 403, 404, 405] rfl
set_option maxRecDepth 1000000 in
theorem wlin_16 : ∀ w ∈ wsL_law_r16, w ∈ lw_tbl := mem_ix [406, 407, 650, 651, 652, 653, 408, 409, 410, 411, 412, 413, 414, 415, 416, 599, 417, 418, 419, 420, 421, 422, 423, 424] rfl
set_option maxRecDepth 1000000 in
theorem wlin_17 : ∀ w ∈ wsL_law_r17, w ∈ lw_tbl := mem_ix [425, 426, 427, 428, 429, 430, 654, 655, 656, 657, 658, 660, 21, 661, 662, 664, 22, 665, 666, 668, 23, 669, 431, 432] rfl
set_option maxRecDepth 1000000 in
theorem wlin_18 : ∀ w ∈ wsL_law_r18, w ∈ lw_tbl := mem_ix [433, 434, 445, 446, 447, 435, 436, 437, 438, 439, 440, 37, 441, 442, 443, 444, 670, 671, 672, 673, 674, 448, 449, 450] rfl
set_option maxRecDepth 1000000 in
theorem wlin_19 : ∀ w ∈ wsL_law_r19, w ∈ lw_tbl := mem_ix [451, 675, 676, 677, 678, 679, 681, 24, 682, 683, 685, 25, 686, 687, 688, 689, 452, 453, 454, 455, 690, 691, 692, 693] rfl
set_option maxRecDepth 1000000 in
theorem wlin_20 : ∀ w ∈ wsL_law_r20, w ∈ lw_tbl := mem_ix [456, 457, 458, 459, 694, 695, 696, 697, 460, 461, 462, 463, 464, 465, 466, 467, 469, 470, 471, 472, 698, 699, 700, 701] rfl
set_option maxRecDepth 1000000 in
theorem wlin_21 : ∀ w ∈ wsL_law_r21, w ∈ lw_tbl := mem_ix [702, 703, 704, 473, 474, 475, 476, 477, 705, 706, 707, 708, 478, 479, 480, 481, 482, 483, 484, 485, 709, 710, 711, 712] rfl
set_option maxRecDepth 1000000 in
theorem wlin_22 : ∀ w ∈ wsL_law_r22, w ∈ lw_tbl := mem_ix [713, 715, 26, 716, 717, 718, 719, 486, 487, 488, 489, 720, 721, 722, 723, 724, 490, 491, 492, 493, 725, 726, 727, 728] rfl
set_option maxRecDepth 1000000 in
theorem wlin_23 : ∀ w ∈ wsL_law_r23, w ∈ lw_tbl := mem_ix [494, 495, 496, 497, 498, 499, 500, 501, 502, 503, 504, 505, 506, 30, 507, 508, 509, 510, 511, 513, 9, 514, 515, 729] rfl
set_option maxRecDepth 1000000 in
theorem wlin_24 : ∀ w ∈ wsL_law_r24, w ∈ lw_tbl := mem_ix [730, 731, 732, 516, 517, 518, 519, 733, 734, 735, 736] rfl
set_option maxRecDepth 1000000 in
theorem wlin_x : ∀ w ∈ wsX50 ++ wsX60 ++ wsX30 ++ wsX20 ++ wsX10 ++ wsX40 ++ wsX00, w ∈ lw_tbl := mem_ix [227, 229, 231, 233, 235, 541, 543, 545, 547, 549, 551, 553, 555, 557, 559, 561, 563, 90, 92, 94, 96, 98, 100, 102, 145, 147, 149, 151, 153, 155, 157, 182, 184, 186, 188, 190, 192, 194, 196, 198, 200, 202, 204, 206, 217, 219, 127, 129, 131] rfl
set_option maxRecDepth 1000000 in
theorem wlin_F : ∀ w ∈ nest_F.map nF_, w ∈ lw_tbl := mem_ix [137, 180, 86, 68, 73, 78, 82, 62, 71, 76, 66, 119, 122, 125, 83, 140, 138, 64, 89, 88, 69, 74, 79, 120, 123, 126, 63, 58, 87, 67, 61, 81, 72, 77] rfl
set_option maxRecDepth 1000000 in
theorem wlin_M : ∀ w ∈ nest_M.map nM_, w ∈ lw_tbl := mem_ix [365, 366, 389, 468, 167, 114, 291, 294] rfl
set_option maxRecDepth 1000000 in
theorem wlin_S : ∀ w ∈ [Cond.laysStatic "SpaceWalls" "POWERS" "[I", .initialized "SpaceWalls", .arrayClass .int, .arrayClass .long, .arrayClass .boolean], w ∈ lw_tbl := mem_ix [59, 28, 105, 566, 134] rfl
theorem wlin_r : ∀ w ∈ (wsL_law_r1 ++ (wsL_law_r2 ++ (wsL_law_r3 ++ (wsL_law_r4 ++ (wsL_law_r5 ++ (wsL_law_r6 ++ (wsL_law_r7 ++ (wsL_law_r8 ++ (wsL_law_r9 ++ (wsL_law_r10 ++ (wsL_law_r11 ++ (wsL_law_r12 ++ (wsL_law_r13 ++ (wsL_law_r14 ++ (wsL_law_r15 ++ (wsL_law_r16 ++ (wsL_law_r17 ++ (wsL_law_r18 ++ (wsL_law_r19 ++ (wsL_law_r20 ++ (wsL_law_r21 ++ (wsL_law_r22 ++ (wsL_law_r23 ++ wsL_law_r24))))))))))))))))))))))), w ∈ lw_tbl := fun w h => (List.mem_append.mp h).elim (wlin_1 w) ((fun w h => (List.mem_append.mp h).elim (wlin_2 w) ((fun w h => (List.mem_append.mp h).elim (wlin_3 w) ((fun w h => (List.mem_append.mp h).elim (wlin_4 w) ((fun w h => (List.mem_append.mp h).elim (wlin_5 w) ((fun w h => (List.mem_append.mp h).elim (wlin_6 w) ((fun w h => (List.mem_append.mp h).elim (wlin_7 w) ((fun w h => (List.mem_append.mp h).elim (wlin_8 w) ((fun w h => (List.mem_append.mp h).elim (wlin_9 w) ((fun w h => (List.mem_append.mp h).elim (wlin_10 w) ((fun w h => (List.mem_append.mp h).elim (wlin_11 w) ((fun w h => (List.mem_append.mp h).elim (wlin_12 w) ((fun w h => (List.mem_append.mp h).elim (wlin_13 w) ((fun w h => (List.mem_append.mp h).elim (wlin_14 w) ((fun w h => (List.mem_append.mp h).elim (wlin_15 w) ((fun w h => (List.mem_append.mp h).elim (wlin_16 w) ((fun w h => (List.mem_append.mp h).elim (wlin_17 w) ((fun w h => (List.mem_append.mp h).elim (wlin_18 w) ((fun w h => (List.mem_append.mp h).elim (wlin_19 w) ((fun w h => (List.mem_append.mp h).elim (wlin_20 w) ((fun w h => (List.mem_append.mp h).elim (wlin_21 w) ((fun w h => (List.mem_append.mp h).elim (wlin_22 w) ((fun w h => (List.mem_append.mp h).elim (wlin_23 w) (wlin_24 w)) w)) w)) w)) w)) w)) w)) w)) w)) w)) w)) w)) w)) w)) w)) w)) w)) w)) w)) w)) w)) w)) w)
theorem wsL_law_in : ∀ w ∈ wsL_law, w ∈ lw_tbl := by
  intro w h
  unfold wsL_law at h
  simp only [List.append_assoc, List.append_nil] at h
  have hx : w ∈ (wsL_law_r1 ++ (wsL_law_r2 ++ (wsL_law_r3 ++ (wsL_law_r4 ++ (wsL_law_r5 ++ (wsL_law_r6 ++ (wsL_law_r7 ++ (wsL_law_r8 ++ (wsL_law_r9 ++ (wsL_law_r10 ++ (wsL_law_r11 ++ (wsL_law_r12 ++ (wsL_law_r13 ++ (wsL_law_r14 ++ (wsL_law_r15 ++ (wsL_law_r16 ++ (wsL_law_r17 ++ (wsL_law_r18 ++ (wsL_law_r19 ++ (wsL_law_r20 ++ (wsL_law_r21 ++ (wsL_law_r22 ++ (wsL_law_r23 ++ wsL_law_r24))))))))))))))))))))))) ++ (wsX50 ++ wsX60 ++ wsX30 ++ wsX20 ++ wsX10 ++ wsX40 ++ wsX00) := by
    simp only [List.append_assoc]; exact h
  exact (List.mem_append.mp hx).elim (wlin_r w) (wlin_x w)
theorem inlX0 : ∀ w ∈ wsX00, w ∈ wsL_law := fun _ h => List.mem_append_left _ (List.mem_append_right _ h)
theorem inX0 : ∀ w ∈ wsX00, w ∈ lw_tbl := fun w h => wsL_law_in w (inlX0 w h)
theorem inlX1 : ∀ w ∈ wsX10, w ∈ wsL_law := fun _ h => List.mem_append_left _ (List.mem_append_left _ (List.mem_append_left _ (List.mem_append_right _ h)))
theorem inX1 : ∀ w ∈ wsX10, w ∈ lw_tbl := fun w h => wsL_law_in w (inlX1 w h)
theorem inlX2 : ∀ w ∈ wsX20, w ∈ wsL_law := fun _ h => List.mem_append_left _ (List.mem_append_left _ (List.mem_append_left _ (List.mem_append_left _ (List.mem_append_right _ h))))
theorem inX2 : ∀ w ∈ wsX20, w ∈ lw_tbl := fun w h => wsL_law_in w (inlX2 w h)
theorem inlX3 : ∀ w ∈ wsX30, w ∈ wsL_law := fun _ h => List.mem_append_left _ (List.mem_append_left _ (List.mem_append_left _ (List.mem_append_left _ (List.mem_append_left _ (List.mem_append_right _ h)))))
theorem inX3 : ∀ w ∈ wsX30, w ∈ lw_tbl := fun w h => wsL_law_in w (inlX3 w h)
theorem inlX4 : ∀ w ∈ wsX40, w ∈ wsL_law := fun _ h => List.mem_append_left _ (List.mem_append_left _ (List.mem_append_right _ h))
theorem inX4 : ∀ w ∈ wsX40, w ∈ lw_tbl := fun w h => wsL_law_in w (inlX4 w h)
theorem inlX5 : ∀ w ∈ wsX50, w ∈ wsL_law := fun _ h => List.mem_append_left _ (List.mem_append_left _ (List.mem_append_left _ (List.mem_append_left _ (List.mem_append_left _ (List.mem_append_left _ (List.mem_append_left _ (List.mem_append_right _ h)))))))
theorem inX5 : ∀ w ∈ wsX50, w ∈ lw_tbl := fun w h => wsL_law_in w (inlX5 w h)
theorem inlX6 : ∀ w ∈ wsX60, w ∈ wsL_law := fun _ h => List.mem_append_left _ (List.mem_append_left _ (List.mem_append_left _ (List.mem_append_left _ (List.mem_append_left _ (List.mem_append_left _ (List.mem_append_right _ h))))))
theorem inX6 : ∀ w ∈ wsX60, w ∈ lw_tbl := fun w h => wsL_law_in w (inlX6 w h)
