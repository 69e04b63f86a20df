theorem wsL_law_x0 : ∀ w ∈ (nsAt RX4 114).filter goodWord, w ∈ lw_tbl := by decide +kernel
theorem wsL_law_in : ∀ w ∈ wsL_law, w ∈ lw_tbl := fun w h => (List.mem_append.mp h).elim (fun h => wsL_law_in0 w h) (fun h => wsL_law_x0 w h)
theorem inX0 : ∀ w ∈ wsX00, w ∈ lw_tbl := fun w h => wsL_law_in w (inlX0 w h)
theorem inX1 : ∀ w ∈ wsX10, w ∈ lw_tbl := fun w h => wsL_law_in w (inlX1 w h)
theorem inX2 : ∀ w ∈ wsX20, w ∈ lw_tbl := fun w h => wsL_law_in w (inlX2 w h)
theorem inX3 : ∀ w ∈ wsX30, w ∈ lw_tbl := fun w h => wsL_law_in w (inlX3 w h)
theorem inX4 : ∀ w ∈ wsX40, w ∈ lw_tbl := fun w h => wsL_law_in w (inlX4 w h)
theorem inX5 : ∀ w ∈ wsX50, w ∈ lw_tbl := fun w h => wsL_law_in w (inlX5 w h)
set_option maxRecDepth 20000 in
theorem ggL_row_X4_row : GoodIn wsL_row wsX4_row := goodIn_ca (goodIn_r _ [6, 7, 8, 9, 10, 11, 12, 5, 13, 14, 15, 16, 17, 18, 19, 20, 21, 22, 23, 24, 25, 26, 27, 28, 29, 30, 31, 32, 33, 34, 35] (by decide +kernel) (by decide +kernel)) (goodIn_sub (fun _ h => List.mem_cons_of_mem _ (List.mem_append_right _ h)) (by decide +kernel))
set_option maxRecDepth 20000 in
theorem gL_row_X4_row : GoodIn wsL_row (wsV RL 7 RX4 yX4_row wsX4_row) := goodIn_app (goodIn_of _ (by decide +kernel)) ggL_row_X4_row
set_option maxRecDepth 20000 in
theorem ggL_listed_X4_listed : GoodIn wsL_listed wsX4_listed := goodIn_ca (goodIn_r _ [6, 7, 8, 9, 10, 11, 12, 13, 5, 14, 15, 16, 17, 18, 19, 20, 21, 22, 23, 24, 25, 26, 27, 28, 29, 30, 31, 32, 33, 34, 35, 36, 37, 38, 39, 40, 41, 42, 43, 44, 45, 46] (by decide +kernel) (by decide +kernel)) (goodIn_sub (fun _ h => List.mem_cons_of_mem _ (List.mem_append_right _ h)) (by decide +kernel))
set_option maxRecDepth 20000 in
theorem gL_listed_X4_listed : GoodIn wsL_listed (wsV RL 15 RX4 yX4_listed wsX4_listed) := goodIn_app (goodIn_of _ (by decide +kernel)) ggL_listed_X4_listed
set_option maxRecDepth 20000 in
theorem ggL_told_X4_told : GoodIn wsL_told wsX4_told := goodIn_ca (goodIn_r _ [6, 7, 8, 9, 10, 11, 12, 5, 13, 14, 15, 16, 17, 18, 19, 20, 21] (by decide +kernel) (by decide +kernel)) (goodIn_sub (fun _ h => List.mem_cons_of_mem _ (List.mem_append_right _ h)) (by decide +kernel))
set_option maxRecDepth 20000 in
theorem gL_told_X4_told : GoodIn wsL_told (wsV RL 19 RX4 yX4_told wsX4_told) := goodIn_app (goodIn_of _ (by decide +kernel)) ggL_told_X4_told
set_option maxRecDepth 20000 in
theorem ggL_law_X4_init : GoodIn wsL_law wsX4_init := goodIn_r _ [10, 11, 12, 13, 14, 15, 16, 17, 18, 19, 20, 21, 22, 23, 24, 25, 26, 27, 28, 29, 30, 31, 32, 33, 34, 35, 36, 37, 6, 38, 39, 40, 41, 42, 43, 44, 45, 46, 47, 48, 49, 50, 51, 52, 53, 54, 55, 56, 57, 58, 59, 60, 61, 62, 63, 64, 65, 66, 67, 68, 69, 70, 71, 72, 73, 744, 745, 746, 747, 748, 749, 750, 751, 776, 777, 778, 779, 780, 781, 782, 783, 784, 785, 786, 787, 788, 789, 790, 791, 792, 793, 794] (by decide +kernel) (by decide +kernel)
set_option maxRecDepth 20000 in
theorem gL_law_X4_init : GoodIn wsL_law (wsX4_init) := ggL_law_X4_init
set_option maxRecDepth 20000 in
theorem ggL_law_X5_init : GoodIn wsL_law wsX5_init := goodIn_r _ [76, 77, 12, 13, 29, 78, 79, 80, 81, 82, 83, 84, 85, 86, 87, 88, 89, 90, 91, 92, 93, 94, 95, 96, 97, 752, 753, 754, 755, 756, 757, 758, 759, 760, 761, 762, 763, 764, 765, 766, 767, 768, 769, 770, 771, 772, 773, 774, 775] (by decide +kernel) (by decide +kernel)
set_option maxRecDepth 20000 in
theorem gL_law_X5_init : GoodIn wsL_law (wsX5_init) := ggL_law_X5_init
set_option maxRecDepth 20000 in
theorem ggL_law_X4_page : GoodIn wsL_law wsX4_page := goodIn_r _ [101, 18, 15, 102, 103, 2, 104, 105, 106, 107, 17, 108, 36, 37, 38, 109, 110, 111, 112, 744, 745, 746, 747, 748, 749, 750, 751, 776, 777, 778] (by decide +kernel) (by decide +kernel)
set_option maxRecDepth 20000 in
theorem gL_law_X4_page : GoodIn wsL_law (wsV RL 27 RX4 yX4_page wsX4_page) := goodIn_app (goodIn_of _ (by decide +kernel)) ggL_law_X4_page
set_option maxRecDepth 20000 in
theorem ggL_law_X5_page : GoodIn wsL_law wsX5_page := goodIn_r _ [116, 117, 118, 119, 120, 121, 5, 122, 123, 124, 125, 126, 78, 79, 82, 752, 753, 754, 755, 756, 757, 758, 759, 760, 761, 762, 763, 764, 765, 766, 767, 768, 769, 770, 771, 772, 773, 774, 775] (by decide +kernel) (by decide +kernel)
set_option maxRecDepth 20000 in
theorem gL_law_X5_page : GoodIn wsL_law (wsV RL 30 RX5 yX5_page wsX5_page) := goodIn_app (goodIn_of _ (by decide +kernel)) ggL_law_X5_page
set_option maxRecDepth 20000 in
theorem ggL_law_X4_copy : GoodIn wsL_law wsX4_copy := goodIn_r _ [130, 18, 15, 131, 132, 133, 2, 134, 102, 103, 104, 135, 136, 137, 17, 138, 36, 37, 38, 139, 140, 141, 142, 143, 106, 107, 108, 109, 110, 111, 112, 744, 745, 746, 747, 748, 749, 750, 751, 776, 777, 778] (by decide +kernel) (by decide +kernel)
set_option maxRecDepth 20000 in
theorem gL_law_X4_copy : GoodIn wsL_law (wsV RL 31 RX4 yX4_copy wsX4_copy) := goodIn_app (goodIn_of _ (by decide +kernel)) ggL_law_X4_copy
set_option maxRecDepth 20000 in
theorem ggL_law_X5_copy : GoodIn wsL_law wsX5_copy := goodIn_r _ [147, 117, 119, 78, 79, 82, 148, 149, 150, 5, 151, 120, 121, 122, 123, 124, 125, 126, 752, 753, 754, 755, 756, 757, 758, 759, 760, 761, 762, 763, 764, 765, 766, 767, 768, 769, 770, 771, 772, 773, 774, 775] (by decide +kernel) (by decide +kernel)
set_option maxRecDepth 20000 in
theorem gL_law_X5_copy : GoodIn wsL_law (wsV RL 34 RX5 yX5_copy wsX5_copy) := goodIn_app (goodIn_of _ (by decide +kernel)) ggL_law_X5_copy
set_option maxRecDepth 20000 in
theorem ggL_law_X4_set : GoodIn wsL_law wsX4_set := goodIn_r _ [155, 22, 156, 157, 131, 132, 133, 2, 134, 18, 15, 102, 103, 104, 158, 159, 160, 17, 161, 36, 162, 163, 164, 165, 37, 166, 167, 168, 21, 169, 44, 47, 170, 171, 172, 48, 173, 174, 175, 176, 177, 136, 137, 138, 38, 139, 140, 141, 142, 143, 106, 107, 108, 109, 110, 111, 112, 744, 745, 746, 747, 748, 749, 750, 751, 776, 777, 778, 779, 780, 781, 792, 793, 794] (by decide +kernel) (by decide +kernel)
set_option maxRecDepth 20000 in
theorem gL_law_X4_set : GoodIn wsL_law (wsV RL 35 RX4 yX4_set wsX4_set) := goodIn_app (goodIn_of _ (by decide +kernel)) ggL_law_X4_set
set_option maxRecDepth 20000 in
theorem ggL_law_X5_set : GoodIn wsL_law wsX5_set := goodIn_r _ [181, 117, 182, 183, 184, 5, 185, 78, 79, 148, 149, 150, 151, 119, 120, 121, 122, 186, 187, 188, 189, 190, 191, 192, 174, 175, 176, 84, 85, 86, 87, 89, 82, 193, 194, 195, 196, 752, 753, 754, 755, 756, 757, 758, 759, 760, 761, 762, 763, 764, 765, 766, 767, 768, 769, 770, 771, 772, 773, 774, 775] (by decide +kernel) (by decide +kernel)
set_option maxRecDepth 20000 in
theorem gL_law_X5_set : GoodIn wsL_law (wsV RL 39 RX5 yX5_set wsX5_set) := goodIn_app (goodIn_of _ (by decide +kernel)) ggL_law_X5_set
set_option maxRecDepth 20000 in
theorem ggL_law_X4_line : GoodIn wsL_law wsX4_line := goodIn_r _ [200, 22, 156, 131, 132, 133, 2, 134, 18, 15, 102, 103, 104, 201, 163, 164, 17, 165, 37, 166, 167, 168, 21, 169, 44, 47, 170, 171, 172, 48, 173, 174, 175, 176, 177, 136, 137, 138, 36, 38, 139, 140, 141, 142, 143, 106, 107, 108, 109, 110, 111, 112, 202, 203, 204, 205, 206, 207, 208, 209, 210, 211, 212, 213, 744, 745, 746, 747, 748, 749, 750, 751, 776, 777, 778, 779, 780, 781, 792, 793, 794] (by decide +kernel) (by decide +kernel)
set_option maxRecDepth 20000 in
theorem gL_law_X4_line : GoodIn wsL_law (wsV RL 42 RX4 yX4_line wsX4_line) := goodIn_app (goodIn_of _ (by decide +kernel)) ggL_law_X4_line
set_option maxRecDepth 20000 in
theorem ggL_law_X5_line : GoodIn wsL_law wsX5_line := goodIn_r _ [217, 117, 182, 183, 184, 5, 185, 78, 79, 148, 149, 150, 151, 119, 120, 121, 122, 186, 187, 188, 189, 190, 191, 192, 174, 175, 176, 84, 85, 86, 87, 89, 82, 218, 219, 220, 221, 193, 194, 195, 196, 222, 223, 224, 225, 226, 227, 228, 229, 752, 753, 754, 755, 756, 757, 758, 759, 760, 761, 762, 763, 764, 765, 766, 767, 768, 769, 770, 771, 772, 773, 774, 775] (by decide +kernel) (by decide +kernel)
set_option maxRecDepth 20000 in
theorem gL_law_X5_line : GoodIn wsL_law (wsV RL 46 RX5 yX5_line wsX5_line) := goodIn_app (goodIn_of _ (by decide +kernel)) ggL_law_X5_line
set_option maxRecDepth 20000 in
theorem ggL_law_X4_lay : GoodIn wsL_law wsX4_lay := goodIn_r _ [233, 22, 234, 235, 174, 175, 176, 156, 131, 132, 133, 2, 134, 18, 15, 102, 103, 104, 201, 163, 164, 17, 165, 37, 236, 237, 238, 21, 239, 48, 240, 241, 242, 243, 244, 245, 157, 202, 203, 204, 205, 36, 206, 744, 745, 746, 747, 748, 749, 750, 751, 776, 777, 778, 779, 780, 781] (by decide +kernel) (by decide +kernel)
set_option maxRecDepth 20000 in
theorem gL_law_X4_lay : GoodIn wsL_law (wsV RL 47 RX4 yX4_lay wsX4_lay) := goodIn_app (goodIn_of _ (by decide +kernel)) ggL_law_X4_lay
set_option maxRecDepth 20000 in
theorem ggL_law_X5_lay : GoodIn wsL_law wsX5_lay := goodIn_r _ [249, 117, 250, 191, 79, 192, 174, 175, 176, 251, 252, 253, 182, 183, 184, 5, 185, 78, 148, 149, 150, 151, 119, 120, 121, 122, 218, 219, 220, 221, 193, 194, 195, 196, 82, 752, 753, 754, 755, 756, 757, 758, 759, 760, 761, 762, 763, 764, 765, 766, 767, 768, 769, 770, 771, 772, 773, 774, 775] (by decide +kernel) (by decide +kernel)
set_option maxRecDepth 20000 in
theorem gL_law_X5_lay : GoodIn wsL_law (wsV RL 51 RX5 yX5_lay wsX5_lay) := goodIn_app (goodIn_of _ (by decide +kernel)) ggL_law_X5_lay
set_option maxRecDepth 20000 in
theorem ggL_law_X4_at : GoodIn wsL_law wsX4_at := goodIn_r _ [257, 156, 131, 132, 133, 2, 134, 18, 15, 102, 103, 104, 158, 159, 160, 17, 161, 36, 162, 163, 164, 165, 37, 776, 777, 778, 744, 745, 746, 747, 748, 749, 750, 751] (by decide +kernel) (by decide +kernel)
set_option maxRecDepth 20000 in
theorem gL_law_X4_at : GoodIn wsL_law (wsV RL 52 RX4 yX4_at wsX4_at) := goodIn_app (goodIn_of _ (by decide +kernel)) ggL_law_X4_at
set_option maxRecDepth 20000 in
theorem ggL_law_X5_at : GoodIn wsL_law wsX5_at := goodIn_r _ [261, 117, 182, 183, 184, 5, 185, 78, 79, 148, 149, 150, 151, 119, 120, 121, 122, 226, 227, 228, 229, 82, 752, 753, 754, 755, 756, 757, 758, 759, 760, 761, 762, 763, 764, 765, 766, 767, 768, 769, 770, 771, 772, 773, 774, 775] (by decide +kernel) (by decide +kernel)
set_option maxRecDepth 20000 in
theorem gL_law_X5_at : GoodIn wsL_law (wsV RL 56 RX5 yX5_at wsX5_at) := goodIn_app (goodIn_of _ (by decide +kernel)) ggL_law_X5_at
set_option maxRecDepth 20000 in
theorem ggL_law_L_row : GoodIn wsL_law wsL_row := goodIn_ca (goodIn_r _ [265, 266, 267, 268, 269, 2, 270, 271, 272, 156, 131, 132, 133, 134, 18, 15, 102, 103, 104, 201, 163, 164, 17, 165, 37, 776, 777, 778, 744, 745, 746, 747, 748, 749, 750, 751] (by decide +kernel) (by decide +kernel)) (goodIn_sub (fun _ h => List.mem_append_right _ h) (by decide +kernel))
set_option maxRecDepth 20000 in
theorem gL_law_L_row : GoodIn wsL_law (va_wsS RL 57 yL_row wsL_row) := goodIn_app (goodIn_of _ (by decide +kernel)) ggL_law_L_row
set_option maxRecDepth 20000 in
theorem ggL_law_X5_row : GoodIn wsL_law wsX5_row := goodIn_r _ [276, 117, 78, 182, 183, 184, 5, 185, 79, 148, 149, 150, 151, 119, 120, 121, 122, 277, 278, 279, 280, 226, 227, 228, 229, 82, 752, 753, 754, 755, 756, 757, 758, 759, 760, 761, 762, 763, 764, 765, 766, 767, 768, 769, 770, 771, 772, 773, 774, 775] (by decide +kernel) (by decide +kernel)
set_option maxRecDepth 20000 in
theorem gL_law_X5_row : GoodIn wsL_law (wsV RL 62 RX5 yX5_row wsX5_row) := goodIn_app (goodIn_of _ (by decide +kernel)) ggL_law_X5_row
set_option maxRecDepth 20000 in
theorem ggL_law_X5_thrown : GoodIn wsL_law wsX5_thrown := goodIn_r _ [284, 117, 752, 753, 754, 755, 756, 757, 758, 759, 760, 761, 762, 763, 764, 765, 766, 767, 768, 769, 770, 771, 772, 773, 774, 775] (by decide +kernel) (by decide +kernel)
set_option maxRecDepth 20000 in
theorem gL_law_X5_thrown : GoodIn wsL_law (wsV RL 63 RX5 yX5_thrown wsX5_thrown) := goodIn_app (goodIn_of _ (by decide +kernel)) ggL_law_X5_thrown
set_option maxRecDepth 20000 in
theorem ggL_law_X4_of : GoodIn wsL_law wsX4_of := goodIn_r _ [288, 289, 234, 26, 131, 132, 133, 2, 134, 18, 15, 102, 103, 104, 290, 291, 292, 17, 293, 37, 38, 294, 208, 209, 210, 211, 212, 213, 295, 296, 297, 298, 207, 299, 300, 301, 302, 303, 304, 305, 25, 306, 307, 308, 309, 310, 64, 65, 311, 312, 70, 71, 72, 313, 136, 137, 138, 36, 139, 140, 141, 142, 143, 106, 107, 108, 109, 110, 111, 112, 314, 315, 316, 317, 318, 319, 68, 320, 321, 322, 323, 69, 324, 325, 326, 327, 328, 67, 329, 174, 175, 176, 330, 331, 332, 333, 163, 164, 165, 334, 335, 336, 337, 338, 339, 340, 341, 342, 343, 344, 345, 346, 347, 348, 349, 350, 776, 777, 778, 744, 745, 746, 747, 748, 749, 750, 751, 782, 783, 784, 785, 786, 787, 788, 789, 790, 791] (by decide +kernel) (by decide +kernel)
set_option maxRecDepth 20000 in
theorem gL_law_X4_of : GoodIn wsL_law (wsV RL 67 RX4 yX4_of wsX4_of) := goodIn_app (goodIn_of _ (by decide +kernel)) ggL_law_X4_of
set_option maxRecDepth 20000 in
theorem ggL_law_X5_of : GoodIn wsL_law wsX5_of := goodIn_r _ [354, 117, 355, 79, 78, 356, 91, 357, 331, 175, 332, 148, 149, 150, 5, 151, 119, 120, 121, 122, 222, 223, 224, 225, 226, 227, 228, 229, 82, 358, 359, 360, 361, 362, 363, 364, 365, 90, 366, 367, 368, 369, 92, 182, 183, 184, 185, 752, 753, 754, 755, 756, 757, 758, 759, 760, 761, 762, 763, 764, 765, 766, 767, 768, 769, 770, 771, 772, 773, 774, 775] (by decide +kernel) (by decide +kernel)
set_option maxRecDepth 20000 in
theorem gL_law_X5_of : GoodIn wsL_law (wsV RL 70 RX5 yX5_of wsX5_of) := goodIn_app (goodIn_of _ (by decide +kernel)) ggL_law_X5_of
set_option maxRecDepth 20000 in
theorem ggL_law_X4_count : GoodIn wsL_law wsX4_count := goodIn_r _ [373, 18, 22, 374, 27, 31, 290, 291, 292, 17, 293, 37, 38, 294, 208, 209, 210, 211, 212, 213, 744, 745, 746, 747, 748, 749, 750, 751, 779, 780, 781, 776, 777, 778] (by decide +kernel) (by decide +kernel)
set_option maxRecDepth 20000 in
theorem gL_law_X4_count : GoodIn wsL_law (wsV RL 71 RX4 yX4_count wsX4_count) := goodIn_app (goodIn_of _ (by decide +kernel)) ggL_law_X4_count
set_option maxRecDepth 20000 in
theorem ggL_law_X5_count : GoodIn wsL_law wsX5_count := goodIn_r _ [378, 117, 119, 191, 379, 380, 752, 753, 754, 755, 756, 757, 758, 759, 760, 761, 762, 763, 764, 765, 766, 767, 768, 769, 770, 771, 772, 773, 774, 775] (by decide +kernel) (by decide +kernel)
set_option maxRecDepth 20000 in
theorem gL_law_X5_count : GoodIn wsL_law (wsV RL 74 RX5 yX5_count wsX5_count) := goodIn_app (goodIn_of _ (by decide +kernel)) ggL_law_X5_count
set_option maxRecDepth 20000 in
theorem ggL_law_X4_unlike : GoodIn wsL_law wsX4_unlike := goodIn_r _ [384, 289, 234, 156, 131, 132, 133, 2, 134, 18, 15, 102, 103, 104, 776, 777, 778, 744, 745, 746, 747, 748, 749, 750, 751] (by decide +kernel) (by decide +kernel)
set_option maxRecDepth 20000 in
theorem gL_law_X4_unlike : GoodIn wsL_law (wsV RL 75 RX4 yX4_unlike wsX4_unlike) := goodIn_app (goodIn_of _ (by decide +kernel)) ggL_law_X4_unlike
set_option maxRecDepth 20000 in
theorem ggL_law_X5_unlike : GoodIn wsL_law wsX5_unlike := goodIn_r _ [388, 117, 78, 79, 148, 149, 150, 5, 151, 119, 120, 121, 122, 226, 227, 228, 229, 82, 752, 753, 754, 755, 756, 757, 758, 759, 760, 761, 762, 763, 764, 765, 766, 767, 768, 769, 770, 771, 772, 773, 774, 775] (by decide +kernel) (by decide +kernel)
set_option maxRecDepth 20000 in
theorem gL_law_X5_unlike : GoodIn wsL_law (wsV RL 78 RX5 yX5_unlike wsX5_unlike) := goodIn_app (goodIn_of _ (by decide +kernel)) ggL_law_X5_unlike
set_option maxRecDepth 20000 in
theorem ggL_law_X4_across : GoodIn wsL_law wsX4_across := goodIn_r _ [392, 289, 234, 22, 131, 132, 133, 2, 134, 18, 15, 102, 103, 104, 393, 394, 395, 396, 397, 398, 399, 400, 175, 401, 402, 403, 404, 405, 406, 407, 408, 166, 167, 168, 21, 169, 44, 47, 170, 171, 172, 48, 173, 174, 176, 177, 136, 137, 17, 138, 36, 37, 38, 139, 140, 141, 142, 143, 106, 107, 108, 109, 110, 111, 112, 409, 410, 411, 412, 413, 414, 235, 776, 777, 778, 744, 745, 746, 747, 748, 749, 750, 751, 779, 780, 781, 792, 793, 794] (by decide +kernel) (by decide +kernel)
set_option maxRecDepth 20000 in
theorem gL_law_X4_across : GoodIn wsL_law (wsV RL 79 RX4 yX4_across wsX4_across) := goodIn_app (goodIn_of _ (by decide +kernel)) ggL_law_X4_across
set_option maxRecDepth 20000 in
theorem ggL_law_X5_across : GoodIn wsL_law wsX5_across := goodIn_r _ [418, 117, 78, 79, 148, 149, 150, 5, 151, 119, 120, 121, 122, 419, 420, 421, 422, 423, 424, 425, 426, 357, 331, 175, 332, 427, 406, 407, 408, 428, 429, 430, 192, 174, 176, 186, 187, 188, 189, 190, 191, 84, 85, 86, 87, 89, 82, 431, 432, 433, 434, 83, 435, 436, 437, 438, 226, 227, 228, 229, 439, 440, 441, 442, 752, 753, 754, 755, 756, 757, 758, 759, 760, 761, 762, 763, 764, 765, 766, 767, 768, 769, 770, 771, 772, 773, 774, 775] (by decide +kernel) (by decide +kernel)
set_option maxRecDepth 20000 in
theorem gL_law_X5_across : GoodIn wsL_law (wsV RL 82 RX5 yX5_across wsX5_across) := goodIn_app (goodIn_of _ (by decide +kernel)) ggL_law_X5_across
set_option maxRecDepth 20000 in
theorem ggL_law_X4_upright : GoodIn wsL_law wsX4_upright := goodIn_r _ [446, 234, 289, 22, 131, 132, 133, 2, 134, 18, 15, 102, 103, 104, 393, 394, 395, 396, 397, 398, 399, 400, 175, 401, 402, 403, 404, 405, 406, 407, 408, 166, 167, 168, 21, 169, 44, 47, 170, 171, 172, 48, 173, 174, 176, 177, 136, 137, 17, 138, 36, 37, 38, 139, 140, 141, 142, 143, 106, 107, 108, 109, 110, 111, 112, 447, 448, 449, 450, 28, 451, 452, 453, 454, 413, 414, 235, 455, 456, 457, 458, 135, 776, 777, 778, 744, 745, 746, 747, 748, 749, 750, 751, 779, 780, 781, 792, 793, 794] (by decide +kernel) (by decide +kernel)
set_option maxRecDepth 20000 in
theorem gL_law_X4_upright : GoodIn wsL_law (wsV RL 83 RX4 yX4_upright wsX4_upright) := goodIn_app (goodIn_of _ (by decide +kernel)) ggL_law_X4_upright
set_option maxRecDepth 20000 in
theorem ggL_law_X5_upright : GoodIn wsL_law wsX5_upright := goodIn_r _ [462, 117, 79, 78, 148, 149, 150, 5, 151, 119, 120, 121, 122, 419, 420, 421, 422, 423, 424, 425, 426, 357, 331, 175, 332, 427, 406, 407, 408, 428, 429, 430, 192, 174, 176, 186, 187, 188, 189, 190, 191, 84, 85, 86, 87, 89, 82, 463, 464, 465, 466, 83, 435, 436, 437, 438, 226, 227, 228, 229, 439, 440, 441, 442, 752, 753, 754, 755, 756, 757, 758, 759, 760, 761, 762, 763, 764, 765, 766, 767, 768, 769, 770, 771, 772, 773, 774, 775] (by decide +kernel) (by decide +kernel)
set_option maxRecDepth 20000 in
theorem gL_law_X5_upright : GoodIn wsL_law (wsV RL 86 RX5 yX5_upright wsX5_upright) := goodIn_app (goodIn_of _ (by decide +kernel)) ggL_law_X5_upright
set_option maxRecDepth 20000 in
theorem ggL_law_X4_turn : GoodIn wsL_law wsX4_turn := goodIn_r _ [470, 22, 131, 132, 133, 2, 134, 18, 15, 102, 103, 104, 393, 394, 395, 471, 472, 473, 289, 234, 396, 397, 398, 399, 400, 175, 401, 402, 403, 404, 405, 406, 407, 408, 166, 167, 168, 21, 169, 44, 47, 170, 171, 172, 48, 173, 174, 176, 177, 136, 137, 17, 138, 36, 37, 38, 139, 140, 141, 142, 143, 106, 107, 108, 109, 110, 111, 112, 409, 410, 411, 412, 413, 414, 235, 447, 448, 449, 450, 28, 451, 452, 453, 454, 455, 456, 457, 458, 135, 744, 745, 746, 747, 748, 749, 750, 751, 776, 777, 778, 779, 780, 781, 792, 793, 794] (by decide +kernel) (by decide +kernel)
set_option maxRecDepth 20000 in
theorem gL_law_X4_turn : GoodIn wsL_law (wsV RL 87 RX4 yX4_turn wsX4_turn) := goodIn_app (goodIn_of _ (by decide +kernel)) ggL_law_X4_turn
set_option maxRecDepth 20000 in
theorem ggL_law_X5_turn : GoodIn wsL_law wsX5_turn := goodIn_r _ [477, 117, 78, 79, 148, 149, 150, 5, 151, 119, 120, 121, 122, 419, 420, 421, 422, 423, 424, 425, 426, 357, 331, 175, 332, 427, 406, 407, 408, 428, 429, 430, 192, 174, 176, 186, 187, 188, 189, 190, 191, 84, 85, 86, 87, 89, 82, 431, 432, 433, 434, 83, 435, 436, 437, 438, 226, 227, 228, 229, 439, 440, 441, 442, 463, 464, 465, 466, 752, 753, 754, 755, 756, 757, 758, 759, 760, 761, 762, 763, 764, 765, 766, 767, 768, 769, 770, 771, 772, 773, 774, 775] (by decide +kernel) (by decide +kernel)
set_option maxRecDepth 20000 in
theorem gL_law_X5_turn : GoodIn wsL_law (wsV RL 91 RX5 yX5_turn wsX5_turn) := goodIn_app (goodIn_of _ (by decide +kernel)) ggL_law_X5_turn
set_option maxRecDepth 20000 in
theorem ggL_law_X4_sharp : GoodIn wsL_law wsX4_sharp := goodIn_r _ [481, 131, 132, 133, 2, 134, 18, 15, 102, 103, 104, 482, 483, 484, 485, 28, 234, 156, 451, 452, 453, 17, 454, 36, 37, 397, 398, 399, 400, 175, 401, 402, 403, 404, 405, 406, 407, 408, 143, 106, 107, 108, 38, 109, 110, 111, 112, 413, 414, 235, 174, 176, 455, 456, 457, 458, 207, 208, 209, 210, 211, 212, 213, 744, 745, 746, 747, 748, 749, 750, 751, 776, 777, 778] (by decide +kernel) (by decide +kernel)
set_option maxRecDepth 20000 in
theorem gL_law_X4_sharp : GoodIn wsL_law (wsV RL 92 RX4 yX4_sharp wsX4_sharp) := goodIn_app (goodIn_of _ (by decide +kernel)) ggL_law_X4_sharp
set_option maxRecDepth 20000 in
theorem ggL_law_X5_sharp : GoodIn wsL_law wsX5_sharp := goodIn_r _ [489, 117, 490, 491, 148, 149, 150, 5, 151, 119, 120, 121, 122, 492, 493, 494, 495, 93, 78, 79, 427, 406, 407, 408, 428, 429, 430, 192, 174, 175, 176, 226, 227, 228, 229, 82, 752, 753, 754, 755, 756, 757, 758, 759, 760, 761, 762, 763, 764, 765, 766, 767, 768, 769, 770, 771, 772, 773, 774, 775] (by decide +kernel) (by decide +kernel)
set_option maxRecDepth 20000 in
theorem gL_law_X5_sharp : GoodIn wsL_law (wsV RL 95 RX5 yX5_sharp wsX5_sharp) := goodIn_app (goodIn_of _ (by decide +kernel)) ggL_law_X5_sharp
set_option maxRecDepth 20000 in
theorem ggL_law_X4_angle : GoodIn wsL_law wsX4_angle := goodIn_r _ [499, 131, 132, 133, 2, 134, 18, 15, 102, 103, 104, 295, 296, 297, 17, 298, 37, 38, 207, 208, 209, 210, 211, 212, 213, 482, 483, 484, 485, 28, 234, 156, 451, 452, 453, 454, 36, 397, 398, 399, 400, 175, 401, 402, 403, 404, 405, 406, 407, 408, 143, 106, 107, 108, 109, 110, 111, 112, 413, 414, 235, 174, 176, 455, 456, 457, 458, 744, 745, 746, 747, 748, 749, 750, 751, 776, 777, 778] (by decide +kernel) (by decide +kernel)
set_option maxRecDepth 20000 in
theorem gL_law_X4_angle : GoodIn wsL_law (wsV RL 96 RX4 yX4_angle wsX4_angle) := goodIn_app (goodIn_of _ (by decide +kernel)) ggL_law_X4_angle
set_option maxRecDepth 20000 in
theorem ggL_law_X5_angle : GoodIn wsL_law wsX5_angle := goodIn_r _ [503, 117, 79, 148, 149, 150, 5, 151, 119, 120, 121, 122, 222, 223, 224, 225, 78, 226, 227, 228, 229, 82, 492, 493, 494, 495, 93, 427, 406, 407, 408, 428, 429, 430, 192, 174, 175, 176, 752, 753, 754, 755, 756, 757, 758, 759, 760, 761, 762, 763, 764, 765, 766, 767, 768, 769, 770, 771, 772, 773, 774, 775] (by decide +kernel) (by decide +kernel)
set_option maxRecDepth 20000 in
theorem gL_law_X5_angle : GoodIn wsL_law (wsV RL 99 RX5 yX5_angle wsX5_angle) := goodIn_app (goodIn_of _ (by decide +kernel)) ggL_law_X5_angle
set_option maxRecDepth 20000 in
theorem ggL_law_X4_bend : GoodIn wsL_law wsX4_bend := goodIn_r _ [507, 22, 28, 289, 234, 131, 132, 133, 2, 134, 18, 15, 102, 103, 104, 166, 167, 168, 21, 169, 44, 47, 170, 171, 172, 48, 173, 174, 175, 176, 177, 136, 137, 17, 138, 36, 37, 38, 139, 140, 141, 142, 143, 106, 107, 108, 109, 110, 111, 112, 295, 296, 297, 298, 508, 509, 510, 105, 511, 512, 513, 514, 515, 516, 517, 518, 519, 520, 243, 521, 522, 456, 457, 458, 135, 744, 745, 746, 747, 748, 749, 750, 751, 776, 777, 778, 779, 780, 781, 792, 793, 794] (by decide +kernel) (by decide +kernel)
set_option maxRecDepth 20000 in
theorem gL_law_X4_bend : GoodIn wsL_law (wsV RL 100 RX4 yX4_bend wsX4_bend) := goodIn_app (goodIn_of _ (by decide +kernel)) ggL_law_X4_bend
set_option maxRecDepth 20000 in
theorem ggL_law_X5_bend : GoodIn wsL_law wsX5_bend := goodIn_r _ [526, 117, 357, 331, 175, 332, 78, 83, 79, 148, 149, 150, 5, 151, 119, 120, 121, 122, 186, 187, 188, 189, 190, 191, 192, 174, 176, 84, 85, 86, 87, 89, 82, 527, 528, 529, 530, 531, 532, 533, 534, 226, 227, 228, 229, 435, 436, 437, 438, 439, 440, 441, 442, 752, 753, 754, 755, 756, 757, 758, 759, 760, 761, 762, 763, 764, 765, 766, 767, 768, 769, 770, 771, 772, 773, 774, 775] (by decide +kernel) (by decide +kernel)
set_option maxRecDepth 20000 in
theorem gL_law_X5_bend : GoodIn wsL_law (wsV RL 103 RX5 yX5_bend wsX5_bend) := goodIn_app (goodIn_of _ (by decide +kernel)) ggL_law_X5_bend
set_option maxRecDepth 20000 in
theorem ggL_law_X4_foot : GoodIn wsL_law wsX4_foot := goodIn_r _ [538, 131, 132, 133, 2, 134, 18, 15, 102, 103, 104, 511, 512, 513, 17, 514, 36, 515, 516, 517, 518, 37, 38, 519, 520, 243, 744, 745, 746, 747, 748, 749, 750, 751, 776, 777, 778] (by decide +kernel) (by decide +kernel)
set_option maxRecDepth 20000 in
theorem gL_law_X4_foot : GoodIn wsL_law (wsV RL 104 RX4 yX4_foot wsX4_foot) := goodIn_app (goodIn_of _ (by decide +kernel)) ggL_law_X4_foot
set_option maxRecDepth 20000 in
theorem ggL_law_X5_foot : GoodIn wsL_law wsX5_foot := goodIn_r _ [542, 117, 148, 149, 150, 5, 151, 119, 120, 121, 122, 527, 528, 529, 530, 78, 531, 532, 533, 534, 79, 226, 227, 228, 229, 82, 752, 753, 754, 755, 756, 757, 758, 759, 760, 761, 762, 763, 764, 765, 766, 767, 768, 769, 770, 771, 772, 773, 774, 775] (by decide +kernel) (by decide +kernel)
set_option maxRecDepth 20000 in
theorem gL_law_X5_foot : GoodIn wsL_law (wsV RL 107 RX5 yX5_foot wsX5_foot) := goodIn_app (goodIn_of _ (by decide +kernel)) ggL_law_X5_foot
set_option maxRecDepth 20000 in
theorem ggL_law_X4_specks : GoodIn wsL_law wsX4_specks := goodIn_r _ [546, 26, 131, 132, 133, 2, 134, 18, 15, 102, 103, 104, 547, 548, 549, 550, 551, 552, 25, 553, 63, 311, 312, 554, 555, 556, 557, 66, 69, 314, 106, 107, 17, 108, 36, 37, 38, 109, 110, 111, 112, 307, 308, 309, 310, 64, 65, 70, 71, 72, 313, 136, 137, 138, 139, 140, 141, 142, 143, 315, 316, 317, 318, 319, 68, 320, 321, 322, 323, 324, 325, 326, 327, 328, 67, 329, 174, 175, 176, 330, 331, 332, 333, 163, 164, 165, 334, 335, 336, 337, 208, 209, 210, 211, 212, 213, 338, 339, 207, 340, 341, 342, 343, 344, 345, 346, 558, 559, 560, 561, 562, 563, 564, 565, 566, 203, 204, 205, 206, 567, 568, 569, 570, 744, 745, 746, 747, 748, 749, 750, 751, 782, 783, 784, 785, 786, 787, 788, 789, 790, 791, 776, 777, 778] (by decide +kernel) (by decide +kernel)
set_option maxRecDepth 20000 in
theorem gL_law_X4_specks : GoodIn wsL_law (wsV RL 108 RX4 yX4_specks wsX4_specks) := goodIn_app (goodIn_of _ (by decide +kernel)) ggL_law_X4_specks
set_option maxRecDepth 20000 in
theorem ggL_law_X5_specks : GoodIn wsL_law wsX5_specks := goodIn_r _ [574, 117, 148, 149, 150, 5, 151, 119, 120, 121, 122, 575, 576, 577, 578, 579, 580, 581, 582, 583, 356, 94, 91, 79, 78, 90, 362, 363, 364, 365, 226, 227, 228, 229, 82, 366, 367, 368, 369, 92, 182, 183, 184, 185, 584, 585, 586, 587, 357, 331, 175, 332, 192, 174, 176, 752, 753, 754, 755, 756, 757, 758, 759, 760, 761, 762, 763, 764, 765, 766, 767, 768, 769, 770, 771, 772, 773, 774, 775] (by decide +kernel) (by decide +kernel)
set_option maxRecDepth 20000 in
theorem gL_law_X5_specks : GoodIn wsL_law (wsV RL 111 RX5 yX5_specks wsX5_specks) := goodIn_app (goodIn_of _ (by decide +kernel)) ggL_law_X5_specks
set_option maxRecDepth 20000 in
theorem ggL_law_X4_take : GoodIn wsL_law wsX4_take := goodIn_r _ [591, 26, 27, 592, 131, 132, 133, 2, 134, 18, 15, 102, 103, 104, 547, 548, 549, 550, 551, 552, 25, 553, 63, 311, 312, 554, 555, 556, 557, 66, 69, 314, 106, 107, 17, 108, 36, 37, 38, 109, 110, 111, 112, 307, 308, 309, 310, 64, 65, 70, 71, 72, 313, 136, 137, 138, 139, 140, 141, 142, 143, 315, 316, 317, 318, 319, 68, 320, 321, 322, 323, 324, 325, 326, 327, 328, 67, 329, 174, 175, 176, 330, 331, 332, 333, 163, 164, 165, 334, 335, 336, 337, 208, 209, 210, 211, 212, 213, 338, 339, 207, 340, 341, 342, 343, 344, 345, 346, 558, 559, 560, 561, 562, 563, 564, 565, 566, 203, 204, 205, 206, 567, 568, 569, 570, 135, 593, 594, 595, 596, 22, 234, 156, 157, 166, 167, 168, 21, 169, 44, 47, 170, 171, 172, 48, 173, 177, 290, 291, 292, 293, 294, 744, 745, 746, 747, 748, 749, 750, 751, 782, 783, 784, 785, 786, 787, 788, 789, 790, 791, 776, 777, 778, 779, 780, 781, 792, 793, 794] (by decide +kernel) (by decide +kernel)
set_option maxRecDepth 20000 in
theorem gL_law_X4_take : GoodIn wsL_law (wsV RL 112 RX4 yX4_take wsX4_take) := goodIn_app (goodIn_of _ (by decide +kernel)) ggL_law_X4_take
set_option maxRecDepth 20000 in
theorem ggL_law_X5_take : GoodIn wsL_law wsX5_take := goodIn_r _ [600, 117, 379, 79, 78, 90, 94, 148, 149, 150, 5, 151, 119, 120, 121, 122, 575, 576, 577, 578, 579, 186, 187, 188, 189, 190, 191, 192, 174, 175, 176, 84, 85, 86, 87, 89, 82, 580, 581, 582, 583, 356, 91, 362, 363, 364, 365, 226, 227, 228, 229, 366, 367, 368, 369, 92, 182, 183, 184, 185, 584, 585, 586, 587, 357, 331, 332, 601, 602, 603, 604, 95, 96, 193, 194, 195, 196, 752, 753, 754, 755, 756, 757, 758, 759, 760, 761, 762, 763, 764, 765, 766, 767, 768, 769, 770, 771, 772, 773, 774, 775] (by decide +kernel) (by decide +kernel)
set_option maxRecDepth 20000 in
theorem gL_law_X5_take : GoodIn wsL_law (wsV RL 115 RX5 yX5_take wsX5_take) := goodIn_app (goodIn_of _ (by decide +kernel)) ggL_law_X5_take
set_option maxRecDepth 20000 in
theorem ggL_law_X4_shadow : GoodIn wsL_law wsX4_shadow := goodIn_r _ [608, 27, 289, 234, 131, 132, 133, 2, 134, 18, 15, 102, 103, 104, 609, 610, 611, 17, 612, 36, 613, 614, 615, 616, 37, 617, 618, 619, 620, 38, 621, 203, 204, 205, 206, 105, 106, 107, 108, 109, 110, 111, 112, 522, 456, 457, 458, 593, 594, 595, 596, 22, 156, 157, 166, 167, 168, 21, 169, 44, 47, 170, 171, 172, 48, 173, 174, 175, 176, 177, 136, 137, 138, 139, 140, 141, 142, 143, 207, 208, 209, 210, 211, 212, 213, 744, 745, 746, 747, 748, 749, 750, 751, 776, 777, 778, 779, 780, 781, 792, 793, 794] (by decide +kernel) (by decide +kernel)
set_option maxRecDepth 20000 in
theorem gL_law_X4_shadow : GoodIn wsL_law (wsV RL 116 RX4 yX4_shadow wsX4_shadow) := goodIn_app (goodIn_of _ (by decide +kernel)) ggL_law_X4_shadow
set_option maxRecDepth 20000 in
theorem ggL_law_X5_shadow : GoodIn wsL_law wsX5_shadow := goodIn_r _ [625, 117, 578, 78, 379, 79, 148, 149, 150, 5, 151, 119, 120, 121, 122, 186, 187, 188, 189, 190, 191, 192, 174, 175, 176, 84, 85, 86, 87, 89, 82, 626, 627, 628, 629, 358, 359, 360, 361, 226, 227, 228, 229, 601, 602, 603, 604, 95, 96, 193, 194, 195, 196, 752, 753, 754, 755, 756, 757, 758, 759, 760, 761, 762, 763, 764, 765, 766, 767, 768, 769, 770, 771, 772, 773, 774, 775] (by decide +kernel) (by decide +kernel)
set_option maxRecDepth 20000 in
theorem gL_law_X5_shadow : GoodIn wsL_law (wsV RL 119 RX5 yX5_shadow wsX5_shadow) := goodIn_app (goodIn_of _ (by decide +kernel)) ggL_law_X5_shadow
set_option maxRecDepth 20000 in
theorem ggL_law_L_listed : GoodIn wsL_law wsL_listed := goodIn_ca (goodIn_r _ [632, 266, 633, 634, 635, 2, 636, 271, 272, 27, 234, 156, 102, 103, 104, 290, 291, 292, 17, 293, 37, 38, 294, 208, 209, 210, 211, 212, 213, 207, 637, 638, 639, 640, 338, 339, 744, 745, 746, 747, 748, 749, 750, 751, 776, 777, 778] (by decide +kernel) (by decide +kernel)) (goodIn_sub (fun _ h => List.mem_append_right _ h) (by decide +kernel))
set_option maxRecDepth 20000 in
theorem gL_law_L_listed : GoodIn wsL_law (va_wsS RL 120 yL_listed wsL_listed) := goodIn_app (goodIn_of _ (by decide +kernel)) ggL_law_L_listed
set_option maxRecDepth 20000 in
theorem ggL_law_X5_listed : GoodIn wsL_law wsX5_listed := goodIn_r _ [644, 117, 379, 95, 96, 120, 121, 5, 122, 277, 278, 279, 280, 752, 753, 754, 755, 756, 757, 758, 759, 760, 761, 762, 763, 764, 765, 766, 767, 768, 769, 770, 771, 772, 773, 774, 775] (by decide +kernel) (by decide +kernel)
set_option maxRecDepth 20000 in
theorem gL_law_X5_listed : GoodIn wsL_law (wsV RL 122 RX5 yX5_listed wsX5_listed) := goodIn_app (goodIn_of _ (by decide +kernel)) ggL_law_X5_listed
set_option maxRecDepth 20000 in
theorem ggL_law_X4_box : GoodIn wsL_law wsX4_box := goodIn_r _ [648, 131, 132, 133, 2, 134, 18, 15, 102, 103, 104, 649, 650, 651, 17, 652, 653, 300, 301, 302, 37, 38, 299, 640, 338, 339, 207, 208, 209, 210, 211, 212, 213, 295, 296, 297, 298, 508, 509, 510, 744, 745, 746, 747, 748, 749, 750, 751, 776, 777, 778] (by decide +kernel) (by decide +kernel)
set_option maxRecDepth 20000 in
theorem gL_law_X4_box : GoodIn wsL_law (wsV RL 123 RX4 yX4_box wsX4_box) := goodIn_app (goodIn_of _ (by decide +kernel)) ggL_law_X4_box
set_option maxRecDepth 20000 in
theorem ggL_law_X5_box : GoodIn wsL_law wsX5_box := goodIn_r _ [657, 117, 658, 148, 149, 150, 5, 151, 119, 120, 121, 122, 659, 660, 661, 662, 79, 663, 664, 665, 666, 222, 223, 224, 225, 78, 226, 227, 228, 229, 82, 667, 668, 669, 670, 358, 359, 360, 361, 671, 672, 673, 674, 675, 676, 677, 678, 752, 753, 754, 755, 756, 757, 758, 759, 760, 761, 762, 763, 764, 765, 766, 767, 768, 769, 770, 771, 772, 773, 774, 775] (by decide +kernel) (by decide +kernel)
set_option maxRecDepth 20000 in
theorem gL_law_X5_box : GoodIn wsL_law (wsV RL 126 RX5 yX5_box wsX5_box) := goodIn_app (goodIn_of _ (by decide +kernel)) ggL_law_X5_box
set_option maxRecDepth 20000 in
theorem ggL_law_X4_cut : GoodIn wsL_law wsX4_cut := goodIn_r _ [682, 22, 28, 156, 131, 132, 133, 2, 134, 18, 15, 102, 103, 104, 649, 650, 651, 17, 652, 653, 300, 301, 302, 37, 38, 299, 640, 338, 339, 207, 208, 209, 210, 211, 212, 213, 295, 296, 297, 298, 508, 509, 510, 166, 167, 168, 21, 169, 44, 47, 170, 171, 172, 48, 173, 174, 175, 176, 177, 136, 137, 138, 36, 139, 140, 141, 142, 143, 106, 107, 108, 109, 110, 111, 112, 105, 135, 744, 745, 746, 747, 748, 749, 750, 751, 776, 777, 778, 779, 780, 781, 792, 793, 794] (by decide +kernel) (by decide +kernel)
set_option maxRecDepth 20000 in
theorem gL_law_X4_cut : GoodIn wsL_law (wsV RL 127 RX4 yX4_cut wsX4_cut) := goodIn_app (goodIn_of _ (by decide +kernel)) ggL_law_X4_cut
set_option maxRecDepth 20000 in
theorem ggL_law_X5_cut : GoodIn wsL_law wsX5_cut := goodIn_r _ [686, 117, 579, 83, 148, 149, 150, 5, 151, 119, 120, 121, 122, 659, 660, 661, 662, 79, 663, 664, 665, 666, 222, 223, 224, 225, 78, 226, 227, 228, 229, 82, 667, 668, 669, 670, 358, 359, 360, 361, 671, 672, 673, 674, 675, 676, 677, 678, 186, 187, 188, 189, 190, 191, 192, 174, 175, 176, 84, 85, 86, 87, 89, 435, 436, 437, 438, 439, 440, 441, 442, 752, 753, 754, 755, 756, 757, 758, 759, 760, 761, 762, 763, 764, 765, 766, 767, 768, 769, 770, 771, 772, 773, 774, 775] (by decide +kernel) (by decide +kernel)
set_option maxRecDepth 20000 in
theorem gL_law_X5_cut : GoodIn wsL_law (wsV RL 131 RX5 yX5_cut wsX5_cut) := goodIn_app (goodIn_of _ (by decide +kernel)) ggL_law_X5_cut
set_option maxRecDepth 20000 in
theorem ggL_law_X4_spans : GoodIn wsL_law wsX4_spans := goodIn_r _ [690, 31, 131, 132, 133, 2, 134, 18, 15, 102, 103, 104, 299, 300, 301, 17, 302, 37, 38, 295, 296, 297, 298, 691, 692, 693, 694, 30, 744, 745, 746, 747, 748, 749, 750, 751, 776, 777, 778] (by decide +kernel) (by decide +kernel)
set_option maxRecDepth 20000 in
theorem gL_law_X4_spans : GoodIn wsL_law (wsV RL 132 RX4 yX4_spans wsX4_spans) := goodIn_app (goodIn_of _ (by decide +kernel)) ggL_law_X4_spans
set_option maxRecDepth 20000 in
theorem ggL_law_X5_spans : GoodIn wsL_law wsX5_spans := goodIn_r _ [698, 117, 118, 380, 78, 79, 97, 148, 149, 150, 5, 151, 119, 120, 121, 122, 358, 359, 360, 361, 226, 227, 228, 229, 82, 222, 223, 224, 225, 752, 753, 754, 755, 756, 757, 758, 759, 760, 761, 762, 763, 764, 765, 766, 767, 768, 769, 770, 771, 772, 773, 774, 775] (by decide +kernel) (by decide +kernel)
set_option maxRecDepth 20000 in
theorem gL_law_X5_spans : GoodIn wsL_law (wsV RL 135 RX5 yX5_spans wsX5_spans) := goodIn_app (goodIn_of _ (by decide +kernel)) ggL_law_X5_spans
set_option maxRecDepth 20000 in
theorem ggL_law_X4_part : GoodIn wsL_law wsX4_part := goodIn_r _ [702, 289, 18, 22, 15, 131, 132, 133, 2, 134, 102, 103, 104, 703, 704, 705, 17, 706, 707, 400, 175, 401, 617, 618, 619, 620, 37, 38, 708, 166, 167, 168, 21, 169, 44, 47, 170, 171, 172, 48, 173, 174, 176, 177, 136, 137, 138, 36, 139, 140, 141, 142, 143, 106, 107, 108, 109, 110, 111, 112, 709, 710, 711, 712, 621, 203, 204, 205, 206, 776, 777, 778, 744, 745, 746, 747, 748, 749, 750, 751, 779, 780, 781, 792, 793, 794] (by decide +kernel) (by decide +kernel)
set_option maxRecDepth 20000 in
theorem gL_law_X4_part : GoodIn wsL_law (wsV RL 136 RX4 yX4_part wsX4_part) := goodIn_app (goodIn_of _ (by decide +kernel)) ggL_law_X4_part
set_option maxRecDepth 20000 in
theorem ggL_law_X5_part : GoodIn wsL_law wsX5_part := goodIn_r _ [716, 117, 78, 119, 717, 400, 175, 401, 87, 190, 79, 148, 149, 150, 5, 151, 120, 121, 122, 358, 359, 360, 361, 226, 227, 228, 229, 82, 186, 187, 188, 189, 191, 192, 174, 176, 84, 85, 86, 89, 123, 124, 125, 126, 193, 194, 195, 196, 752, 753, 754, 755, 756, 757, 758, 759, 760, 761, 762, 763, 764, 765, 766, 767, 768, 769, 770, 771, 772, 773, 774, 775] (by decide +kernel) (by decide +kernel)
set_option maxRecDepth 20000 in
theorem gL_law_X5_part : GoodIn wsL_law (wsV RL 140 RX5 yX5_part wsX5_part) := goodIn_app (goodIn_of _ (by decide +kernel)) ggL_law_X5_part
set_option maxRecDepth 20000 in
theorem ggL_law_X4_back : GoodIn wsL_law wsX4_back := goodIn_r _ [721, 22, 722, 723, 724, 18, 725, 726, 727, 21, 728, 48, 47, 44, 131, 132, 133, 2, 134, 15, 102, 103, 104, 135, 136, 137, 17, 138, 36, 37, 38, 139, 140, 141, 142, 143, 106, 107, 108, 109, 110, 111, 112, 744, 745, 746, 747, 748, 749, 750, 751, 792, 793, 794, 779, 780, 781, 776, 777, 778] (by decide +kernel) (by decide +kernel)
set_option maxRecDepth 20000 in
theorem gL_law_X4_back : GoodIn wsL_law (wsV RL 141 RX4 yX4_back wsX4_back) := goodIn_app (goodIn_of _ (by decide +kernel)) ggL_law_X4_back
set_option maxRecDepth 20000 in
theorem ggL_law_X5_back : GoodIn wsL_law wsX5_back := goodIn_r _ [732, 117, 191, 84, 190, 78, 85, 79, 86, 82, 89, 87, 119, 752, 753, 754, 755, 756, 757, 758, 759, 760, 761, 762, 763, 764, 765, 766, 767, 768, 769, 770, 771, 772, 773, 774, 775] (by decide +kernel) (by decide +kernel)
set_option maxRecDepth 20000 in
theorem gL_law_X5_back : GoodIn wsL_law (wsV RL 144 RX5 yX5_back wsX5_back) := goodIn_app (goodIn_of _ (by decide +kernel)) ggL_law_X5_back
set_option maxRecDepth 20000 in
theorem ggL_law_L_told : GoodIn wsL_law wsL_told := goodIn_ca (goodIn_r _ [735, 266, 736, 737, 738, 2, 739, 271, 272, 31, 30, 102, 103, 104, 744, 745, 746, 747, 748, 749, 750, 751] (by decide +kernel) (by decide +kernel)) (goodIn_sub (fun _ h => List.mem_append_right _ h) (by decide +kernel))
set_option maxRecDepth 20000 in
theorem gL_law_L_told : GoodIn wsL_law (va_wsS RL 145 yL_told wsL_told) := goodIn_app (goodIn_of _ (by decide +kernel)) ggL_law_L_told
set_option maxRecDepth 20000 in
theorem ggL_law_X5_told : GoodIn wsL_law wsX5_told := goodIn_r _ [743, 117, 380, 97, 120, 121, 5, 122, 277, 278, 279, 280, 752, 753, 754, 755, 756, 757, 758, 759, 760, 761, 762, 763, 764, 765, 766, 767, 768, 769, 770, 771, 772, 773, 774, 775] (by decide +kernel) (by decide +kernel)
set_option maxRecDepth 20000 in
theorem gL_law_X5_told : GoodIn wsL_law (wsV RL 148 RX5 yX5_told wsX5_told) := goodIn_app (goodIn_of _ (by decide +kernel)) ggL_law_X5_told
