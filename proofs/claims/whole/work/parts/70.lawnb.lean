theorem inlX0 : ∀ w ∈ wsX00, w ∈ wsL_law := fun _ h => List.mem_append_left _ (List.mem_append_left _ (List.mem_append_left _ (List.mem_append_left _ (List.mem_append_left _ (List.mem_append_left _ (List.mem_append_right _ h))))))
theorem inX0 : ∀ w ∈ wsX00, w ∈ lw_tbl := fun w h => wsL_law_in w (inlX0 w h)
theorem inlX1 : ∀ w ∈ wsX10, w ∈ wsL_law := fun _ h => List.mem_append_left _ (List.mem_append_left _ (List.mem_append_left _ (List.mem_append_left _ (List.mem_append_right _ h))))
theorem inX1 : ∀ w ∈ wsX10, w ∈ lw_tbl := fun w h => wsL_law_in w (inlX1 w h)
theorem inlX2 : ∀ w ∈ wsX20, w ∈ wsL_law := fun _ h => List.mem_append_left _ (List.mem_append_left _ (List.mem_append_left _ (List.mem_append_right _ h)))
theorem inX2 : ∀ w ∈ wsX20, w ∈ lw_tbl := fun w h => wsL_law_in w (inlX2 w h)
theorem inlX3 : ∀ w ∈ wsX30, w ∈ wsL_law := fun _ h => List.mem_append_left _ (List.mem_append_left _ (List.mem_append_left _ (List.mem_append_left _ (List.mem_append_left _ (List.mem_append_right _ h)))))
theorem inX3 : ∀ w ∈ wsX30, w ∈ lw_tbl := fun w h => wsL_law_in w (inlX3 w h)
theorem inlX4 : ∀ w ∈ wsX40, w ∈ wsL_law := fun _ h => List.mem_append_left _ (List.mem_append_left _ (List.mem_append_right _ h))
theorem inX4 : ∀ w ∈ wsX40, w ∈ lw_tbl := fun w h => wsL_law_in w (inlX4 w h)
theorem inlX5 : ∀ w ∈ wsX50, w ∈ wsL_law := fun _ h => List.mem_append_left _ (List.mem_append_right _ h)
theorem inX5 : ∀ w ∈ wsX50, w ∈ lw_tbl := fun w h => wsL_law_in w (inlX5 w h)
theorem inlX6 : ∀ w ∈ wsX60, w ∈ wsL_law := fun _ h => List.mem_append_left _ (List.mem_append_left _ (List.mem_append_left _ (List.mem_append_left _ (List.mem_append_left _ (List.mem_append_left _ (List.mem_append_left _ (List.mem_append_right _ h)))))))
theorem inX6 : ∀ w ∈ wsX60, w ∈ lw_tbl := fun w h => wsL_law_in w (inlX6 w h)
theorem inX7 : ∀ w ∈ wsX70, w ∈ lw_tbl := by decide +kernel
theorem inlX8 : ∀ w ∈ wsX80, w ∈ wsL_law := fun _ h => List.mem_append_left _ (List.mem_append_left _ (List.mem_append_left _ (List.mem_append_left _ (List.mem_append_left _ (List.mem_append_left _ (List.mem_append_left _ (List.mem_append_left _ (List.mem_append_left _ (List.mem_append_right _ h)))))))))
theorem inX8 : ∀ w ∈ wsX80, w ∈ lw_tbl := fun w h => wsL_law_in w (inlX8 w h)
theorem inlX9 : ∀ w ∈ wsX90, w ∈ wsL_law := fun _ h => List.mem_append_left _ (List.mem_append_left _ (List.mem_append_left _ (List.mem_append_left _ (List.mem_append_left _ (List.mem_append_left _ (List.mem_append_left _ (List.mem_append_left _ (List.mem_append_right _ h))))))))
theorem inX9 : ∀ w ∈ wsX90, w ∈ lw_tbl := fun w h => wsL_law_in w (inlX9 w h)
theorem inJ6 : ∀ w ∈ wsJ60, w ∈ lw_tbl := by decide +kernel
theorem inJ13 : ∀ w ∈ wsJ130, w ∈ lw_tbl := by decide +kernel
theorem inJ9 : ∀ w ∈ wsJ90, w ∈ lw_tbl := by decide +kernel
theorem inJ7 : ∀ w ∈ wsJ70, w ∈ lw_tbl := by decide +kernel
set_option maxRecDepth 20000 in
theorem ggL_law_X8_init : GoodIn wsL_law wsX8_init := goodIn_r _ [9, 10, 11, 12] (by decide +kernel) (by decide +kernel)
set_option maxRecDepth 20000 in
theorem gL_law_X8_init : GoodIn wsL_law (wsX8_init) := ggL_law_X8_init
set_option maxRecDepth 20000 in
theorem ggL_law_X9_init : GoodIn wsL_law wsX9_init := goodIn_r _ [15, 16, 11, 12, 17, 18, 19, 20, 21, 22, 23, 24, 25, 26, 27, 28, 29, 30, 31, 690, 691, 692, 693, 694, 695, 696, 697, 698, 699, 700, 701, 702, 703, 704, 705, 706, 707, 708] (by decide +kernel) (by decide +kernel)
set_option maxRecDepth 20000 in
theorem gL_law_X9_init : GoodIn wsL_law (wsX9_init) := ggL_law_X9_init
set_option maxRecDepth 20000 in
theorem ggL_law_X8_span : GoodIn wsL_law wsX8_span := goodIn_r _ [35, 36, 37, 38, 39, 40, 41, 42, 43, 44, 11, 12, 22, 45, 46, 47, 48, 49, 50, 51, 52, 53, 54, 55, 56, 57, 58, 59, 60, 61, 2, 62, 63, 64, 65, 66, 67, 68, 69, 70, 17, 71, 72, 73, 74, 75, 76, 77, 78, 79, 80, 81, 82, 83, 84, 85, 86, 87, 88, 89, 90, 91, 92, 93, 94, 95, 96, 97, 98, 99, 100, 101, 102, 103, 104, 105, 106, 107, 108, 109, 110, 111, 112, 113, 114, 115, 116, 117, 118, 119, 120, 121, 122, 123, 124, 125, 126, 127, 128, 129, 130, 131, 132, 133, 134, 135, 136, 137, 138, 139, 140, 141, 142, 143, 144, 145, 146, 147, 148, 149, 150, 151, 684, 685, 686, 687, 688, 689, 709, 710, 711, 712, 713, 714, 715, 716, 717, 718, 719, 720, 721] (by decide +kernel) (by decide +kernel)
set_option maxRecDepth 20000 in
theorem gL_law_X8_span : GoodIn wsL_law (wsV RL 15 RX8 yX8_span wsX8_span) := goodIn_app (goodIn_r _ [32, 33, 34, 2] (by decide +kernel) (by decide +kernel)) ggL_law_X8_span
set_option maxRecDepth 20000 in
theorem ggL_law_X9_span : GoodIn wsL_law wsX9_span := goodIn_r _ [155, 156, 157, 158, 159, 160, 23, 161, 24, 162, 25, 163, 164, 165, 5, 166, 167, 168, 169, 170, 31, 18, 26, 27, 171, 172, 173, 174, 175, 176, 177, 178, 179, 690, 691, 692, 693, 694, 695, 696, 697, 698, 699, 700, 701, 702, 703, 704, 705, 706, 707, 708] (by decide +kernel) (by decide +kernel)
set_option maxRecDepth 20000 in
theorem gL_law_X9_span : GoodIn wsL_law (wsV RL 19 RX9 yX9_span wsX9_span) := goodIn_app (goodIn_r _ [152, 153, 154, 5] (by decide +kernel) (by decide +kernel)) ggL_law_X9_span
set_option maxRecDepth 20000 in
theorem ggL_law_X8_least : GoodIn wsL_law wsX8_least := goodIn_r _ [183, 37, 184, 185, 186, 40, 187, 53, 45, 684, 685, 686, 687, 688, 689, 709, 710, 711, 712, 713, 714, 715, 716, 717, 718] (by decide +kernel) (by decide +kernel)
set_option maxRecDepth 20000 in
theorem gL_law_X8_least : GoodIn wsL_law (wsV RL 20 RX8 yX8_least wsX8_least) := goodIn_app (goodIn_r _ [180, 181, 182, 2] (by decide +kernel) (by decide +kernel)) ggL_law_X8_least
set_option maxRecDepth 20000 in
theorem ggL_law_X9_least : GoodIn wsL_law wsX9_least := goodIn_r _ [191, 158, 160, 23, 164, 165, 5, 166, 690, 691, 692, 693, 694, 695, 696, 697, 698, 699, 700, 701, 702, 703, 704, 705, 706, 707, 708] (by decide +kernel) (by decide +kernel)
set_option maxRecDepth 20000 in
theorem gL_law_X9_least : GoodIn wsL_law (wsV RL 24 RX9 yX9_least wsX9_least) := goodIn_app (goodIn_r _ [188, 189, 190, 5] (by decide +kernel) (by decide +kernel)) ggL_law_X9_least
set_option maxRecDepth 20000 in
theorem ggL_law_X8_spanned : GoodIn wsL_law wsX8_spanned := goodIn_r _ [195, 37, 684, 685, 686, 687, 688, 689, 709, 710, 711, 712, 713, 714, 715, 716, 717, 718] (by decide +kernel) (by decide +kernel)
set_option maxRecDepth 20000 in
theorem gL_law_X8_spanned : GoodIn wsL_law (wsV RL 25 RX8 yX8_spanned wsX8_spanned) := goodIn_app (goodIn_r _ [192, 193, 194, 2] (by decide +kernel) (by decide +kernel)) ggL_law_X8_spanned
set_option maxRecDepth 20000 in
theorem ggL_law_X9_spanned : GoodIn wsL_law wsX9_spanned := goodIn_r _ [175, 158, 160, 25, 176, 177, 178, 5, 179, 159, 23, 164, 165, 166, 690, 691, 692, 693, 694, 695, 696, 697, 698, 699, 700, 701, 702, 703, 704, 705, 706, 707, 708] (by decide +kernel) (by decide +kernel)
set_option maxRecDepth 20000 in
theorem gL_law_X9_spanned : GoodIn wsL_law (wsV RL 29 RX9 yX9_spanned wsX9_spanned) := goodIn_app (goodIn_r _ [196, 173, 174, 5] (by decide +kernel) (by decide +kernel)) ggL_law_X9_spanned
set_option maxRecDepth 20000 in
theorem ggL_law_X8_smooth : GoodIn wsL_law wsX8_smooth := goodIn_r _ [200, 37, 201, 202, 2, 203, 36, 204, 205, 206, 40, 207, 53, 52, 45, 208, 209, 210, 211, 46, 684, 685, 686, 687, 688, 689, 709, 710, 711, 712, 713, 714, 715, 716, 717, 718] (by decide +kernel) (by decide +kernel)
set_option maxRecDepth 20000 in
theorem gL_law_X8_smooth : GoodIn wsL_law (wsV RL 30 RX8 yX8_smooth wsX8_smooth) := goodIn_app (goodIn_r _ [197, 198, 199, 2] (by decide +kernel) (by decide +kernel)) ggL_law_X8_smooth
set_option maxRecDepth 20000 in
theorem ggL_law_X9_smooth : GoodIn wsL_law wsX9_smooth := goodIn_r _ [215, 158, 157, 160, 159, 23, 24, 164, 165, 5, 166, 690, 691, 692, 693, 694, 695, 696, 697, 698, 699, 700, 701, 702, 703, 704, 705, 706, 707, 708] (by decide +kernel) (by decide +kernel)
set_option maxRecDepth 20000 in
theorem gL_law_X9_smooth : GoodIn wsL_law (wsV RL 34 RX9 yX9_smooth wsX9_smooth) := goodIn_app (goodIn_r _ [212, 213, 214, 5] (by decide +kernel) (by decide +kernel)) ggL_law_X9_smooth
set_option maxRecDepth 20000 in
theorem ggL_law_X8_prime : GoodIn wsL_law wsX8_prime := goodIn_r _ [219, 201, 202, 2, 203, 36, 59, 60, 61, 62, 63, 64, 65, 66, 67, 68, 69, 70, 11, 12, 17, 71, 72, 73, 49, 50, 74, 75, 76, 55, 56, 57, 22, 58, 77, 78, 79, 80, 81, 82, 83, 84, 85, 86, 87, 88, 89, 90, 91, 92, 93, 94, 95, 220, 221, 222, 223, 224, 225, 114, 115, 116, 684, 685, 686, 687, 688, 689, 720, 721, 719] (by decide +kernel) (by decide +kernel)
set_option maxRecDepth 20000 in
theorem gL_law_X8_prime : GoodIn wsL_law (wsV RL 35 RX8 yX8_prime wsX8_prime) := goodIn_app (goodIn_r _ [216, 217, 218, 2] (by decide +kernel) (by decide +kernel)) ggL_law_X8_prime
set_option maxRecDepth 20000 in
theorem ggL_law_X9_prime : GoodIn wsL_law wsX9_prime := goodIn_r _ [229, 157, 164, 165, 5, 166, 230, 231, 232, 233, 234, 31, 18, 690, 691, 692, 693, 694, 695, 696, 697, 698, 699, 700, 701, 702, 703, 704, 705, 706, 707, 708] (by decide +kernel) (by decide +kernel)
set_option maxRecDepth 20000 in
theorem gL_law_X9_prime : GoodIn wsL_law (wsV RL 39 RX9 yX9_prime wsX9_prime) := goodIn_app (goodIn_r _ [226, 227, 228, 5] (by decide +kernel) (by decide +kernel)) ggL_law_X9_prime
set_option maxRecDepth 20000 in
theorem ggL_law_X8_next : GoodIn wsL_law wsX8_next := goodIn_r _ [238, 201, 202, 2, 203, 36, 59, 60, 61, 62, 63, 64, 65, 66, 67, 68, 69, 70, 11, 12, 17, 71, 72, 73, 49, 50, 74, 75, 76, 55, 56, 57, 22, 58, 77, 78, 79, 80, 81, 82, 83, 84, 85, 86, 87, 88, 89, 90, 91, 92, 93, 94, 95, 239, 240, 241, 242, 224, 243, 221, 222, 223, 225, 114, 115, 116, 244, 245, 246, 247, 248, 684, 685, 686, 687, 688, 689, 720, 721, 719] (by decide +kernel) (by decide +kernel)
set_option maxRecDepth 20000 in
theorem gL_law_X8_next : GoodIn wsL_law (wsV RL 40 RX8 yX8_next wsX8_next) := goodIn_app (goodIn_r _ [235, 236, 237, 2] (by decide +kernel) (by decide +kernel)) ggL_law_X8_next
set_option maxRecDepth 20000 in
theorem ggL_law_X9_next : GoodIn wsL_law wsX9_next := goodIn_r _ [252, 157, 253, 164, 165, 5, 166, 230, 231, 232, 233, 234, 31, 18, 690, 691, 692, 693, 694, 695, 696, 697, 698, 699, 700, 701, 702, 703, 704, 705, 706, 707, 708] (by decide +kernel) (by decide +kernel)
set_option maxRecDepth 20000 in
theorem gL_law_X9_next : GoodIn wsL_law (wsV RL 44 RX9 yX9_next wsX9_next) := goodIn_app (goodIn_r _ [249, 250, 251, 5] (by decide +kernel) (by decide +kernel)) ggL_law_X9_next
set_option maxRecDepth 20000 in
theorem ggL_law_X8_part : GoodIn wsL_law wsX8_part := goodIn_r _ [257, 258, 259, 260, 261, 201, 202, 2, 203, 36, 262, 263, 264, 265, 11, 12, 22, 266, 17, 267, 268, 269, 59, 60, 61, 62, 63, 64, 65, 66, 67, 68, 69, 70, 71, 72, 73, 49, 50, 74, 75, 76, 55, 56, 57, 58, 77, 78, 79, 80, 81, 82, 83, 84, 85, 86, 87, 88, 89, 90, 91, 92, 93, 94, 95, 270, 271, 272, 273, 274, 275, 114, 115, 116, 276, 277, 278, 279, 684, 685, 686, 687, 688, 689, 722, 723, 724, 725, 720, 721, 719] (by decide +kernel) (by decide +kernel)
set_option maxRecDepth 20000 in
theorem gL_law_X8_part : GoodIn wsL_law (wsV RL 45 RX8 yX8_part wsX8_part) := goodIn_app (goodIn_r _ [254, 255, 256, 2] (by decide +kernel) (by decide +kernel)) ggL_law_X8_part
set_option maxRecDepth 20000 in
theorem ggL_law_X9_part : GoodIn wsL_law wsX9_part := goodIn_r _ [283, 157, 284, 285, 171, 164, 165, 5, 166, 167, 168, 169, 170, 161, 162, 163, 31, 18, 26, 27, 690, 691, 692, 693, 694, 695, 696, 697, 698, 699, 700, 701, 702, 703, 704, 705, 706, 707, 708] (by decide +kernel) (by decide +kernel)
set_option maxRecDepth 20000 in
theorem gL_law_X9_part : GoodIn wsL_law (wsV RL 48 RX9 yX9_part wsX9_part) := goodIn_app (goodIn_r _ [280, 281, 282, 5] (by decide +kernel) (by decide +kernel)) ggL_law_X9_part
set_option maxRecDepth 20000 in
theorem ggL_law_X8_parts : GoodIn wsL_law wsX8_parts := goodIn_r _ [289, 258, 290, 291, 292, 261, 293, 269, 266, 294, 295, 296, 297, 267, 684, 685, 686, 687, 688, 689, 722, 723, 724, 725] (by decide +kernel) (by decide +kernel)
set_option maxRecDepth 20000 in
theorem gL_law_X8_parts : GoodIn wsL_law (wsV RL 49 RX8 yX8_parts wsX8_parts) := goodIn_app (goodIn_r _ [286, 287, 288, 2] (by decide +kernel) (by decide +kernel)) ggL_law_X8_parts
set_option maxRecDepth 20000 in
theorem ggL_law_X9_parts_ : GoodIn wsL_law wsX9_parts_ := goodIn_r _ [301, 284, 171, 26, 27, 164, 165, 5, 166, 690, 691, 692, 693, 694, 695, 696, 697, 698, 699, 700, 701, 702, 703, 704, 705, 706, 707, 708] (by decide +kernel) (by decide +kernel)
set_option maxRecDepth 20000 in
theorem gL_law_X9_parts_ : GoodIn wsL_law (wsV RL 53 RX9 yX9_parts_ wsX9_parts_) := goodIn_app (goodIn_r _ [298, 299, 300, 5] (by decide +kernel) (by decide +kernel)) ggL_law_X9_parts_
set_option maxRecDepth 20000 in
theorem ggL_law_X8_parted : GoodIn wsL_law wsX8_parted := goodIn_r _ [305, 258, 306, 307, 308, 261, 309, 269, 267, 310, 311, 312, 313, 266, 314, 315, 316, 317, 268, 318, 319, 320, 321, 322, 323, 324, 325, 684, 685, 686, 687, 688, 689, 722, 723, 724, 725] (by decide +kernel) (by decide +kernel)
set_option maxRecDepth 20000 in
theorem gL_law_X8_parted : GoodIn wsL_law (wsV RL 54 RX8 yX8_parted wsX8_parted) := goodIn_app (goodIn_r _ [302, 303, 304, 2] (by decide +kernel) (by decide +kernel)) ggL_law_X8_parted
set_option maxRecDepth 20000 in
theorem ggL_law_X9_parted : GoodIn wsL_law wsX9_parted := goodIn_r _ [329, 284, 285, 171, 26, 27, 690, 691, 692, 693, 694, 695, 696, 697, 698, 699, 700, 701, 702, 703, 704, 705, 706, 707, 708] (by decide +kernel) (by decide +kernel)
set_option maxRecDepth 20000 in
theorem gL_law_X9_parted : GoodIn wsL_law (wsV RL 57 RX9 yX9_parted wsX9_parted) := goodIn_app (goodIn_r _ [326, 327, 328, 5] (by decide +kernel) (by decide +kernel)) ggL_law_X9_parted
set_option maxRecDepth 20000 in
theorem ggL_law_X8_without : GoodIn wsL_law wsX8_without := goodIn_r _ [333, 258, 36, 334, 335, 336, 337, 261, 338, 269, 266, 339, 340, 341, 342, 343, 344, 345, 684, 685, 686, 687, 688, 689, 722, 723, 724, 725] (by decide +kernel) (by decide +kernel)
set_option maxRecDepth 20000 in
theorem gL_law_X8_without : GoodIn wsL_law (wsV RL 58 RX8 yX8_without wsX8_without) := goodIn_app (goodIn_r _ [330, 331, 332, 2] (by decide +kernel) (by decide +kernel)) ggL_law_X8_without
set_option maxRecDepth 20000 in
theorem ggL_law_X9_without : GoodIn wsL_law wsX9_without := goodIn_r _ [349, 284, 157, 253, 171, 26, 164, 165, 5, 166, 690, 691, 692, 693, 694, 695, 696, 697, 698, 699, 700, 701, 702, 703, 704, 705, 706, 707, 708] (by decide +kernel) (by decide +kernel)
set_option maxRecDepth 20000 in
theorem gL_law_X9_without : GoodIn wsL_law (wsV RL 62 RX9 yX9_without wsX9_without) := goodIn_app (goodIn_r _ [346, 347, 348, 5] (by decide +kernel) (by decide +kernel)) ggL_law_X9_without
set_option maxRecDepth 20000 in
theorem ggL_law_X8_count : GoodIn wsL_law wsX8_count := goodIn_r _ [353, 354, 355, 356, 357, 2, 358, 359, 360, 361, 362, 363, 364, 365, 366, 11, 12, 22, 367, 368, 369, 370, 371, 372, 373, 374, 375, 94, 376, 377, 378, 379, 380, 381, 382, 383, 384, 385, 386, 387, 388, 389, 93, 95, 390, 391, 392, 393, 684, 685, 686, 687, 688, 689, 726, 727] (by decide +kernel) (by decide +kernel)
set_option maxRecDepth 20000 in
theorem gL_law_X8_count : GoodIn wsL_law (wsV RL 63 RX8 yX8_count wsX8_count) := goodIn_app (goodIn_r _ [350, 351, 352, 2] (by decide +kernel) (by decide +kernel)) ggL_law_X8_count
set_option maxRecDepth 20000 in
theorem ggL_law_X9_count : GoodIn wsL_law wsX9_count := goodIn_r _ [397, 398, 21, 164, 165, 5, 166, 690, 691, 692, 693, 694, 695, 696, 697, 698, 699, 700, 701, 702, 703, 704, 705, 706, 707, 708] (by decide +kernel) (by decide +kernel)
set_option maxRecDepth 20000 in
theorem gL_law_X9_count : GoodIn wsL_law (wsV RL 66 RX9 yX9_count wsX9_count) := goodIn_app (goodIn_r _ [394, 395, 396, 5] (by decide +kernel) (by decide +kernel)) ggL_law_X9_count
set_option maxRecDepth 20000 in
theorem ggL_law_X8_sum : GoodIn wsL_law wsX8_sum := goodIn_r _ [402, 354, 334, 355, 356, 357, 2, 358, 359, 360, 361, 362, 363, 364, 365, 366, 11, 12, 22, 367, 368, 369, 370, 371, 372, 373, 374, 375, 94, 376, 377, 378, 379, 380, 381, 382, 383, 384, 385, 386, 387, 388, 389, 93, 95, 390, 391, 392, 393, 684, 685, 686, 687, 688, 689, 726, 727] (by decide +kernel) (by decide +kernel)
set_option maxRecDepth 20000 in
theorem gL_law_X8_sum : GoodIn wsL_law (wsV RL 67 RX8 yX8_sum wsX8_sum) := goodIn_app (goodIn_r _ [399, 400, 401, 2] (by decide +kernel) (by decide +kernel)) ggL_law_X8_sum
set_option maxRecDepth 20000 in
theorem ggL_law_X9_sum : GoodIn wsL_law wsX9_sum := goodIn_r _ [406, 398, 253, 21, 164, 165, 5, 166, 690, 691, 692, 693, 694, 695, 696, 697, 698, 699, 700, 701, 702, 703, 704, 705, 706, 707, 708] (by decide +kernel) (by decide +kernel)
set_option maxRecDepth 20000 in
theorem gL_law_X9_sum : GoodIn wsL_law (wsV RL 70 RX9 yX9_sum wsX9_sum) := goodIn_app (goodIn_r _ [403, 404, 405, 5] (by decide +kernel) (by decide +kernel)) ggL_law_X9_sum
set_option maxRecDepth 20000 in
theorem ggL_law_X8_among : GoodIn wsL_law wsX8_among := goodIn_r _ [410, 354, 411, 412, 379, 413, 59, 60, 61, 2, 62, 63, 64, 65, 66, 67, 68, 69, 70, 11, 12, 17, 71, 72, 73, 49, 50, 74, 75, 76, 55, 56, 57, 22, 58, 77, 78, 79, 80, 81, 82, 83, 84, 85, 86, 87, 88, 89, 90, 91, 92, 93, 94, 95, 220, 221, 222, 223, 224, 225, 114, 115, 116, 414, 415, 416, 417, 418, 102, 103, 419, 420, 421, 422, 355, 356, 357, 358, 359, 360, 361, 362, 363, 364, 365, 366, 367, 368, 369, 370, 371, 372, 373, 374, 375, 376, 377, 378, 380, 381, 382, 383, 384, 385, 386, 387, 388, 389, 390, 391, 392, 393, 423, 424, 425, 426, 427, 428, 429, 430, 431, 432, 433, 434, 435, 436, 106, 107, 108, 109, 110, 111, 112, 437, 126, 127, 128, 438, 439, 440, 441, 442, 443, 444, 142, 143, 144, 145, 146, 147, 148, 149, 150, 151, 684, 685, 686, 687, 688, 689, 720, 721, 719, 728, 726, 727] (by decide +kernel) (by decide +kernel)
set_option maxRecDepth 20000 in
theorem gL_law_X8_among : GoodIn wsL_law (wsV RL 71 RX8 yX8_among wsX8_among) := goodIn_app (goodIn_r _ [407, 408, 409, 2] (by decide +kernel) (by decide +kernel)) ggL_law_X8_among
set_option maxRecDepth 20000 in
theorem ggL_law_X9_among : GoodIn wsL_law wsX9_among := goodIn_r _ [448, 398, 449, 21, 164, 165, 5, 166, 690, 691, 692, 693, 694, 695, 696, 697, 698, 699, 700, 701, 702, 703, 704, 705, 706, 707, 708] (by decide +kernel) (by decide +kernel)
set_option maxRecDepth 20000 in
theorem gL_law_X9_among : GoodIn wsL_law (wsV RL 75 RX9 yX9_among wsX9_among) := goodIn_app (goodIn_r _ [445, 446, 447, 5] (by decide +kernel) (by decide +kernel)) ggL_law_X9_among
set_option maxRecDepth 20000 in
theorem ggL_law_X8_floors : GoodIn wsL_law wsX8_floors := goodIn_r _ [453, 454, 455, 334, 456, 457, 379, 458, 459] (by decide +kernel) (by decide +kernel)
set_option maxRecDepth 20000 in
theorem gL_law_X8_floors : GoodIn wsL_law (wsV RL 76 RX8 yX8_floors wsX8_floors) := goodIn_app (goodIn_r _ [450, 451, 452, 2] (by decide +kernel) (by decide +kernel)) ggL_law_X8_floors
set_option maxRecDepth 20000 in
theorem ggL_law_X9_floors : GoodIn wsL_law wsX9_floors := goodIn_r _ [463, 464, 465, 253, 164, 165, 5, 166, 466, 467, 468, 234] (by decide +kernel) (by decide +kernel)
set_option maxRecDepth 20000 in
theorem gL_law_X9_floors : GoodIn wsL_law (wsV RL 80 RX9 yX9_floors wsX9_floors) := goodIn_app (goodIn_r _ [460, 461, 462, 5] (by decide +kernel) (by decide +kernel)) ggL_law_X9_floors
set_option maxRecDepth 20000 in
theorem ggL_law_X8_points : GoodIn wsL_law wsX8_points := goodIn_r _ [472, 36, 334, 473, 474, 379, 475, 459, 476, 378, 380] (by decide +kernel) (by decide +kernel)
set_option maxRecDepth 20000 in
theorem gL_law_X8_points : GoodIn wsL_law (wsV RL 81 RX8 yX8_points wsX8_points) := goodIn_app (goodIn_r _ [469, 470, 471, 2] (by decide +kernel) (by decide +kernel)) ggL_law_X8_points
set_option maxRecDepth 20000 in
theorem ggL_law_X9_points : GoodIn wsL_law wsX9_points := goodIn_r _ [480, 157, 253, 234, 164, 165, 5, 166] (by decide +kernel) (by decide +kernel)
set_option maxRecDepth 20000 in
theorem gL_law_X9_points : GoodIn wsL_law (wsV RL 84 RX9 yX9_points wsX9_points) := goodIn_app (goodIn_r _ [477, 478, 479, 5] (by decide +kernel) (by decide +kernel)) ggL_law_X9_points
set_option maxRecDepth 20000 in
theorem ggL_law_X8_rule : GoodIn wsL_law wsX8_rule := goodIn_r _ [484, 485, 486, 487, 488, 2, 489, 490, 491, 492, 493, 494, 495, 496, 11, 12, 22, 497, 498, 499, 500, 501, 502, 503, 504, 505, 506, 507, 508, 509, 510, 511, 512, 513, 514, 515, 516, 517, 518, 519, 520, 521, 522, 523, 524, 525, 526, 527, 528, 529, 530, 684, 685, 686, 687, 688, 689, 729, 730] (by decide +kernel) (by decide +kernel)
set_option maxRecDepth 20000 in
theorem gL_law_X8_rule : GoodIn wsL_law (wsV RL 85 RX8 yX8_rule wsX8_rule) := goodIn_app (goodIn_r _ [481, 482, 483, 2] (by decide +kernel) (by decide +kernel)) ggL_law_X8_rule
set_option maxRecDepth 20000 in
theorem ggL_law_X9_rule : GoodIn wsL_law wsX9_rule := goodIn_r _ [534, 535, 536, 28, 164, 165, 5, 166, 537, 538, 539, 540, 541, 542, 253, 543, 544, 545, 690, 691, 692, 693, 694, 695, 696, 697, 698, 699, 700, 701, 702, 703, 704, 705, 706, 707, 708] (by decide +kernel) (by decide +kernel)
set_option maxRecDepth 20000 in
theorem gL_law_X9_rule : GoodIn wsL_law (wsV RL 88 RX9 yX9_rule wsX9_rule) := goodIn_app (goodIn_r _ [531, 532, 533, 5] (by decide +kernel) (by decide +kernel)) ggL_law_X9_rule
set_option maxRecDepth 20000 in
theorem ggL_law_X8_sheet : GoodIn wsL_law wsX8_sheet := goodIn_r _ [549, 486, 487, 488, 2, 489, 485, 490, 491, 492, 493, 494, 495, 496, 11, 12, 22, 497, 498, 499, 500, 501, 502, 503, 504, 505, 506, 507, 508, 509, 684, 685, 686, 687, 688, 689, 729, 730] (by decide +kernel) (by decide +kernel)
set_option maxRecDepth 20000 in
theorem gL_law_X8_sheet : GoodIn wsL_law (wsV RL 89 RX8 yX8_sheet wsX8_sheet) := goodIn_app (goodIn_r _ [546, 547, 548, 2] (by decide +kernel) (by decide +kernel)) ggL_law_X8_sheet
set_option maxRecDepth 20000 in
theorem ggL_law_X9_sheet : GoodIn wsL_law wsX9_sheet := goodIn_r _ [553, 536, 28, 690, 691, 692, 693, 694, 695, 696, 697, 698, 699, 700, 701, 702, 703, 704, 705, 706, 707, 708] (by decide +kernel) (by decide +kernel)
set_option maxRecDepth 20000 in
theorem gL_law_X9_sheet : GoodIn wsL_law (wsV RL 93 RX9 yX9_sheet wsX9_sheet) := goodIn_app (goodIn_r _ [550, 551, 552, 5] (by decide +kernel) (by decide +kernel)) ggL_law_X9_sheet
set_option maxRecDepth 20000 in
theorem ggL_law_X8_tell : GoodIn wsL_law wsX8_tell := goodIn_r _ [557, 485, 558, 559, 560, 2, 561, 562, 504, 505, 492, 506, 497, 507, 508, 509, 684, 685, 686, 687, 688, 689, 729, 730] (by decide +kernel) (by decide +kernel)
set_option maxRecDepth 20000 in
theorem gL_law_X8_tell : GoodIn wsL_law (wsV RL 94 RX8 yX8_tell wsX8_tell) := goodIn_app (goodIn_r _ [554, 555, 556, 2] (by decide +kernel) (by decide +kernel)) ggL_law_X8_tell
set_option maxRecDepth 20000 in
theorem ggL_law_X9_tell : GoodIn wsL_law wsX9_tell := goodIn_r _ [566, 567, 28, 568, 569, 570, 5, 571, 536, 164, 165, 166, 690, 691, 692, 693, 694, 695, 696, 697, 698, 699, 700, 701, 702, 703, 704, 705, 706, 707, 708] (by decide +kernel) (by decide +kernel)
set_option maxRecDepth 20000 in
theorem gL_law_X9_tell : GoodIn wsL_law (wsV RL 98 RX9 yX9_tell wsX9_tell) := goodIn_app (goodIn_r _ [563, 564, 565, 5] (by decide +kernel) (by decide +kernel)) ggL_law_X9_tell
set_option maxRecDepth 20000 in
theorem ggL_law_X8_product : GoodIn wsL_law wsX8_product := goodIn_r _ [575, 485, 558, 559, 560, 2, 561, 486, 487, 488, 489, 490, 491, 492, 493, 494, 495, 496, 11, 12, 22, 497, 498, 499, 500, 501, 502, 503, 504, 505, 506, 507, 508, 509, 576, 577, 578, 579, 527, 528, 529, 530, 580, 581, 582, 583, 684, 685, 686, 687, 688, 689, 729, 730] (by decide +kernel) (by decide +kernel)
set_option maxRecDepth 20000 in
theorem gL_law_X8_product : GoodIn wsL_law (wsV RL 99 RX8 yX8_product wsX8_product) := goodIn_app (goodIn_r _ [572, 573, 574, 2] (by decide +kernel) (by decide +kernel)) ggL_law_X8_product
set_option maxRecDepth 20000 in
theorem ggL_law_X9_product : GoodIn wsL_law wsX9_product := goodIn_r _ [587, 536, 28, 568, 569, 570, 5, 571, 164, 165, 166, 690, 691, 692, 693, 694, 695, 696, 697, 698, 699, 700, 701, 702, 703, 704, 705, 706, 707, 708] (by decide +kernel) (by decide +kernel)
set_option maxRecDepth 20000 in
theorem gL_law_X9_product : GoodIn wsL_law (wsV RL 103 RX9 yX9_product wsX9_product) := goodIn_app (goodIn_r _ [584, 585, 586, 5] (by decide +kernel) (by decide +kernel)) ggL_law_X9_product
set_option maxRecDepth 20000 in
theorem ggL_law_X8_turned : GoodIn wsL_law wsX8_turned := goodIn_r _ [591, 485, 558, 559, 560, 2, 561, 592, 593, 594, 492, 595, 520, 527, 528, 529, 530, 497, 507, 508, 509, 486, 487, 488, 489, 490, 491, 493, 494, 495, 496, 11, 12, 22, 498, 499, 500, 501, 502, 503, 504, 505, 506, 596, 597, 598, 599, 580, 581, 582, 583, 684, 685, 686, 687, 688, 689, 729, 730] (by decide +kernel) (by decide +kernel)
set_option maxRecDepth 20000 in
theorem gL_law_X8_turned : GoodIn wsL_law (wsV RL 104 RX8 yX8_turned wsX8_turned) := goodIn_app (goodIn_r _ [588, 589, 590, 2] (by decide +kernel) (by decide +kernel)) ggL_law_X8_turned
set_option maxRecDepth 20000 in
theorem ggL_law_X9_turned : GoodIn wsL_law wsX9_turned := goodIn_r _ [603, 28, 253, 536, 568, 569, 570, 5, 571, 164, 165, 166, 690, 691, 692, 693, 694, 695, 696, 697, 698, 699, 700, 701, 702, 703, 704, 705, 706, 707, 708] (by decide +kernel) (by decide +kernel)
set_option maxRecDepth 20000 in
theorem gL_law_X9_turned : GoodIn wsL_law (wsV RL 107 RX9 yX9_turned wsX9_turned) := goodIn_app (goodIn_r _ [600, 601, 602, 5] (by decide +kernel) (by decide +kernel)) ggL_law_X9_turned
set_option maxRecDepth 20000 in
theorem ggL_law_X8_clear : GoodIn wsL_law wsX8_clear := goodIn_r _ [607, 485, 684, 685, 686, 687, 688, 689, 729, 730] (by decide +kernel) (by decide +kernel)
set_option maxRecDepth 20000 in
theorem gL_law_X8_clear : GoodIn wsL_law (wsV RL 108 RX8 yX8_clear wsX8_clear) := goodIn_app (goodIn_r _ [604, 605, 606, 2] (by decide +kernel) (by decide +kernel)) ggL_law_X8_clear
set_option maxRecDepth 20000 in
theorem ggL_law_X9_clear : GoodIn wsL_law wsX9_clear := goodIn_r _ [611, 536, 690, 691, 692, 693, 694, 695, 696, 697, 698, 699, 700, 701, 702, 703, 704, 705, 706, 707, 708] (by decide +kernel) (by decide +kernel)
set_option maxRecDepth 20000 in
theorem gL_law_X9_clear : GoodIn wsL_law (wsV RL 111 RX9 yX9_clear wsX9_clear) := goodIn_app (goodIn_r _ [608, 609, 610, 5] (by decide +kernel) (by decide +kernel)) ggL_law_X9_clear
set_option maxRecDepth 20000 in
theorem ggL_law_X8_at : GoodIn wsL_law wsX8_at := goodIn_r _ [615, 485, 558, 559, 560, 2, 561, 616, 528, 529, 492, 530, 497, 507, 508, 509, 684, 685, 686, 687, 688, 689, 729, 730] (by decide +kernel) (by decide +kernel)
set_option maxRecDepth 20000 in
theorem gL_law_X8_at : GoodIn wsL_law (wsV RL 112 RX8 yX8_at wsX8_at) := goodIn_app (goodIn_r _ [612, 613, 614, 2] (by decide +kernel) (by decide +kernel)) ggL_law_X8_at
set_option maxRecDepth 20000 in
theorem ggL_law_X9_at : GoodIn wsL_law wsX9_at := goodIn_r _ [620, 567, 28, 568, 569, 570, 5, 571, 536, 164, 165, 166, 690, 691, 692, 693, 694, 695, 696, 697, 698, 699, 700, 701, 702, 703, 704, 705, 706, 707, 708] (by decide +kernel) (by decide +kernel)
set_option maxRecDepth 20000 in
theorem gL_law_X9_at : GoodIn wsL_law (wsV RL 115 RX9 yX9_at wsX9_at) := goodIn_app (goodIn_r _ [617, 618, 619, 5] (by decide +kernel) (by decide +kernel)) ggL_law_X9_at
set_option maxRecDepth 20000 in
theorem ggL_law_X8_sumOf : GoodIn wsL_law wsX8_sumOf := goodIn_r _ [624, 485, 558, 559, 560, 2, 561, 625, 626, 627, 492, 628, 527, 528, 529, 530, 497, 507, 508, 509, 684, 685, 686, 687, 688, 689, 729, 730] (by decide +kernel) (by decide +kernel)
set_option maxRecDepth 20000 in
theorem gL_law_X8_sumOf : GoodIn wsL_law (wsV RL 116 RX8 yX8_sumOf wsX8_sumOf) := goodIn_app (goodIn_r _ [621, 622, 623, 2] (by decide +kernel) (by decide +kernel)) ggL_law_X8_sumOf
set_option maxRecDepth 20000 in
theorem ggL_law_X9_sumOf : GoodIn wsL_law wsX9_sumOf := goodIn_r _ [632, 567, 28, 568, 569, 570, 5, 571, 536, 164, 165, 166, 690, 691, 692, 693, 694, 695, 696, 697, 698, 699, 700, 701, 702, 703, 704, 705, 706, 707, 708] (by decide +kernel) (by decide +kernel)
set_option maxRecDepth 20000 in
theorem gL_law_X9_sumOf : GoodIn wsL_law (wsV RL 119 RX9 yX9_sumOf wsX9_sumOf) := goodIn_app (goodIn_r _ [629, 630, 631, 5] (by decide +kernel) (by decide +kernel)) ggL_law_X9_sumOf
set_option maxRecDepth 20000 in
theorem ggL_law_X8_same : GoodIn wsL_law wsX8_same := goodIn_r _ [636, 485, 558, 559, 560, 2, 561, 637, 638, 639, 492, 640, 527, 528, 529, 530, 497, 507, 508, 509, 684, 685, 686, 687, 688, 689, 729, 730] (by decide +kernel) (by decide +kernel)
set_option maxRecDepth 20000 in
theorem gL_law_X8_same : GoodIn wsL_law (wsV RL 120 RX8 yX8_same wsX8_same) := goodIn_app (goodIn_r _ [633, 634, 635, 2] (by decide +kernel) (by decide +kernel)) ggL_law_X8_same
set_option maxRecDepth 20000 in
theorem ggL_law_X9_same : GoodIn wsL_law wsX9_same := goodIn_r _ [644, 28, 568, 569, 570, 5, 571, 536, 164, 165, 166, 690, 691, 692, 693, 694, 695, 696, 697, 698, 699, 700, 701, 702, 703, 704, 705, 706, 707, 708] (by decide +kernel) (by decide +kernel)
set_option maxRecDepth 20000 in
theorem gL_law_X9_same : GoodIn wsL_law (wsV RL 123 RX9 yX9_same wsX9_same) := goodIn_app (goodIn_r _ [641, 642, 643, 5] (by decide +kernel) (by decide +kernel)) ggL_law_X9_same
set_option maxRecDepth 20000 in
theorem ggL_law_X8_far : GoodIn wsL_law wsX8_far := goodIn_r _ [648, 454, 649, 650, 379, 651, 652, 653, 654, 476, 378, 380, 655, 656, 657, 658, 659, 660, 459, 661, 662, 663, 664] (by decide +kernel) (by decide +kernel)
set_option maxRecDepth 20000 in
theorem gL_law_X8_far : GoodIn wsL_law (wsV RL 124 RX8 yX8_far wsX8_far) := goodIn_app (goodIn_r _ [645, 646, 647, 2] (by decide +kernel) (by decide +kernel)) ggL_law_X8_far
set_option maxRecDepth 20000 in
theorem ggL_law_X9_far : GoodIn wsL_law wsX9_far := goodIn_r _ [668, 464, 669, 670, 5, 671, 164, 165, 166, 672, 673, 674, 675, 234, 466, 467, 468] (by decide +kernel) (by decide +kernel)
set_option maxRecDepth 20000 in
theorem gL_law_X9_far : GoodIn wsL_law (wsV RL 128 RX9 yX9_far wsX9_far) := goodIn_app (goodIn_r _ [665, 666, 667, 5] (by decide +kernel) (by decide +kernel)) ggL_law_X9_far
set_option maxRecDepth 20000 in
theorem ggL_law_X8_about : GoodIn wsL_law wsX8_about := goodIn_r _ [679, 485, 37, 258, 684, 685, 686, 687, 688, 689, 729, 730, 709, 710, 711, 712, 713, 714, 715, 716, 717, 718, 722, 723, 724, 725] (by decide +kernel) (by decide +kernel)
set_option maxRecDepth 20000 in
theorem gL_law_X8_about : GoodIn wsL_law (wsV RL 129 RX8 yX8_about wsX8_about) := goodIn_app (goodIn_r _ [676, 677, 678, 2] (by decide +kernel) (by decide +kernel)) ggL_law_X8_about
set_option maxRecDepth 20000 in
theorem ggL_law_X9_about : GoodIn wsL_law wsX9_about := goodIn_r _ [683, 536, 158, 160, 284, 171, 690, 691, 692, 693, 694, 695, 696, 697, 698, 699, 700, 701, 702, 703, 704, 705, 706, 707, 708] (by decide +kernel) (by decide +kernel)
set_option maxRecDepth 20000 in
theorem gL_law_X9_about : GoodIn wsL_law (wsV RL 132 RX9 yX9_about wsX9_about) := goodIn_app (goodIn_r _ [680, 681, 682, 5] (by decide +kernel) (by decide +kernel)) ggL_law_X9_about

