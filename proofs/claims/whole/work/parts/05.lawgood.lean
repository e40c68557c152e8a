set_option maxRecDepth 20000 in
theorem ggL_law_X5_init : GoodIn wsL_law wsX5_init := goodIn_r _ [9, 10, 11, 12, 13, 14, 15, 16, 17, 18, 19, 20, 21, 22, 23, 24, 25, 26, 27, 28, 29, 30, 31, 32, 33, 34, 35, 36, 37, 38, 39, 40, 41, 42, 43, 44, 45, 46, 47, 48, 49, 50, 51, 52, 53, 54, 55, 56, 773, 774, 745, 746, 747, 748, 749, 750, 751, 752, 753, 775, 776, 777, 778, 779, 780, 781, 782, 783, 784] (by decide +kernel) (by decide +kernel)
set_option maxRecDepth 20000 in
theorem gL_law_X5_init : GoodIn wsL_law (wsX5_init) := ggL_law_X5_init
set_option maxRecDepth 20000 in
theorem ggL_law_X6_init : GoodIn wsL_law wsX6_init := goodIn_r _ [59, 60, 11, 12, 29, 61, 62, 63, 64, 65, 66, 67, 68, 69, 70, 71, 72, 73, 74, 754, 755, 756, 757, 758, 759, 760, 761, 762, 763, 764, 765, 766, 767, 768, 769, 770, 771, 772] (by decide +kernel) (by decide +kernel)
set_option maxRecDepth 20000 in
theorem gL_law_X6_init : GoodIn wsL_law (wsX6_init) := ggL_law_X6_init
set_option maxRecDepth 20000 in
theorem ggL_law_X5_write : GoodIn wsL_law wsX5_write := goodIn_r _ [78, 16, 79, 80, 81, 82, 15, 83, 84, 39, 745, 746, 747, 748, 749, 750, 751, 752, 753, 773, 774] (by decide +kernel) (by decide +kernel)
set_option maxRecDepth 20000 in
theorem gL_law_X5_write : GoodIn wsL_law (wsV RL 13 RX5 yX5_write wsX5_write) := goodIn_app (goodIn_of _ (by decide +kernel)) ggL_law_X5_write
set_option maxRecDepth 20000 in
theorem ggL_law_X6_write : GoodIn wsL_law wsX6_write := goodIn_r _ [88, 89, 90, 65, 91, 92, 5, 93, 754, 755, 756, 757, 758, 759, 760, 761, 762, 763, 764, 765, 766, 767, 768, 769, 770, 771, 772] (by decide +kernel) (by decide +kernel)
set_option maxRecDepth 20000 in
theorem gL_law_X6_write : GoodIn wsL_law (wsV RL 17 RX6 yX6_write wsX6_write) := goodIn_app (goodIn_of _ (by decide +kernel)) ggL_law_X6_write
set_option maxRecDepth 20000 in
theorem ggL_law_X5_wipe : GoodIn wsL_law wsX5_wipe := goodIn_r _ [97, 16, 79, 745, 746, 747, 748, 749, 750, 751, 752, 753, 773, 774] (by decide +kernel) (by decide +kernel)
set_option maxRecDepth 20000 in
theorem gL_law_X5_wipe : GoodIn wsL_law (wsV RL 18 RX5 yX5_wipe wsX5_wipe) := goodIn_app (goodIn_of _ (by decide +kernel)) ggL_law_X5_wipe
set_option maxRecDepth 20000 in
theorem ggL_law_X6_wipe : GoodIn wsL_law wsX6_wipe := goodIn_r _ [101, 90, 754, 755, 756, 757, 758, 759, 760, 761, 762, 763, 764, 765, 766, 767, 768, 769, 770, 771, 772] (by decide +kernel) (by decide +kernel)
set_option maxRecDepth 20000 in
theorem gL_law_X6_wipe : GoodIn wsL_law (wsV RL 22 RX6 yX6_wipe wsX6_wipe) := goodIn_app (goodIn_of _ (by decide +kernel)) ggL_law_X6_wipe
set_option maxRecDepth 20000 in
theorem ggL_law_X5_fault : GoodIn wsL_law wsX5_fault := goodIn_r _ [105, 16, 106, 107, 108, 15, 109, 84, 110, 111, 112, 113, 39, 114, 115, 116, 117, 118, 119, 745, 746, 747, 748, 749, 750, 751, 752, 753, 773, 774] (by decide +kernel) (by decide +kernel)
set_option maxRecDepth 20000 in
theorem gL_law_X5_fault : GoodIn wsL_law (wsV RL 23 RX5 yX5_fault wsX5_fault) := goodIn_app (goodIn_of _ (by decide +kernel)) ggL_law_X5_fault
set_option maxRecDepth 20000 in
theorem ggL_law_X6_fault : GoodIn wsL_law wsX6_fault := goodIn_r _ [123, 90, 124, 125, 126, 5, 127, 65, 128, 129, 130, 131, 132, 133, 134, 91, 92, 93, 754, 755, 756, 757, 758, 759, 760, 761, 762, 763, 764, 765, 766, 767, 768, 769, 770, 771, 772] (by decide +kernel) (by decide +kernel)
set_option maxRecDepth 20000 in
theorem gL_law_X6_fault : GoodIn wsL_law (wsV RL 26 RX6 yX6_fault wsX6_fault) := goodIn_app (goodIn_of _ (by decide +kernel)) ggL_law_X6_fault
set_option maxRecDepth 20000 in
theorem ggL_law_X5_court : GoodIn wsL_law wsX5_court := goodIn_r _ [138, 16, 20, 34, 24, 139, 30, 33, 140, 106, 107, 108, 15, 109, 84, 110, 111, 112, 113, 39, 114, 115, 116, 117, 118, 119, 141, 142, 143, 19, 144, 145, 146, 147, 148, 149, 43, 44, 45, 46, 47, 150, 151, 152, 153, 154, 155, 156, 157, 158, 159, 160, 161, 162, 163, 164, 165, 166, 167, 745, 746, 747, 748, 749, 750, 751, 752, 753, 782, 783, 775, 776, 777, 778, 779, 780, 781, 773, 774] (by decide +kernel) (by decide +kernel)
set_option maxRecDepth 20000 in
theorem gL_law_X5_court : GoodIn wsL_law (wsV RL 27 RX5 yX5_court wsX5_court) := goodIn_app (goodIn_of _ (by decide +kernel)) ggL_law_X5_court
set_option maxRecDepth 20000 in
theorem ggL_law_X6_court : GoodIn wsL_law wsX6_court := goodIn_r _ [171, 90, 172, 63, 61, 62, 65, 64, 173, 73, 174, 121, 122, 5, 123, 124, 125, 126, 127, 128, 129, 130, 131, 132, 133, 134, 91, 92, 93, 175, 176, 177, 178, 754, 755, 756, 757, 758, 759, 760, 761, 762, 763, 764, 765, 766, 767, 768, 769, 770, 771, 772] (by decide +kernel) (by decide +kernel)
set_option maxRecDepth 20000 in
theorem gL_law_X6_court : GoodIn wsL_law (wsV RL 30 RX6 yX6_court wsX6_court) := goodIn_app (goodIn_of _ (by decide +kernel)) ggL_law_X6_court
set_option maxRecDepth 20000 in
theorem ggL_law_X5_clerk : GoodIn wsL_law wsX5_clerk := goodIn_r _ [182, 20, 183, 184, 185, 186, 187, 188, 189, 190, 19, 191, 149, 192, 193, 2, 194, 195, 196, 197, 198, 34, 199, 200, 201, 202, 203, 204, 205, 206, 207, 47, 48, 208, 209, 210, 211, 43, 44, 45, 46, 212, 213, 214, 215, 216, 217, 218, 219, 220, 221, 222, 223, 224, 225, 226, 227, 228, 229, 230, 231, 232, 30, 745, 746, 747, 748, 749, 750, 751, 752, 753, 775, 776, 777, 778, 779, 780, 781] (by decide +kernel) (by decide +kernel)
set_option maxRecDepth 20000 in
theorem gL_law_X5_clerk : GoodIn wsL_law (wsV RL 31 RX5 yX5_clerk wsX5_clerk) := goodIn_app (goodIn_of _ (by decide +kernel)) ggL_law_X5_clerk
set_option maxRecDepth 20000 in
theorem ggL_law_X6_clerk : GoodIn wsL_law wsX6_clerk := goodIn_r _ [236, 63, 61, 62, 66, 64, 237, 238, 239, 5, 240, 172, 91, 92, 93, 241, 242, 243, 244, 245, 246, 247, 248, 249, 250, 251, 252, 253, 254, 255, 256, 257, 258, 259, 754, 755, 756, 757, 758, 759, 760, 761, 762, 763, 764, 765, 766, 767, 768, 769, 770, 771, 772] (by decide +kernel) (by decide +kernel)
set_option maxRecDepth 20000 in
theorem gL_law_X6_clerk : GoodIn wsL_law (wsV RL 35 RX6 yX6_clerk wsX6_clerk) := goodIn_app (goodIn_of _ (by decide +kernel)) ggL_law_X6_clerk
set_option maxRecDepth 20000 in
theorem ggL_law_X5_page : GoodIn wsL_law wsX5_page := goodIn_r _ [263, 20, 188, 189, 190, 19, 191, 149, 195, 196, 197, 2, 198, 34, 199, 200, 201, 202, 203, 204, 205, 206, 207, 47, 48, 208, 209, 210, 211, 43, 44, 45, 46, 212, 213, 214, 215, 216, 217, 218, 219, 220, 221, 222, 223, 224, 225, 226, 227, 264, 265, 266, 267, 268, 745, 746, 747, 748, 749, 750, 751, 752, 753, 775, 776, 777, 778, 779, 780, 781] (by decide +kernel) (by decide +kernel)
set_option maxRecDepth 20000 in
theorem gL_law_X5_page : GoodIn wsL_law (wsV RL 36 RX5 yX5_page wsX5_page) := goodIn_app (goodIn_of _ (by decide +kernel)) ggL_law_X5_page
set_option maxRecDepth 20000 in
theorem ggL_law_X6_page : GoodIn wsL_law wsX6_page := goodIn_r _ [272, 63, 66, 237, 238, 239, 5, 240, 172, 91, 92, 93, 241, 242, 243, 244, 61, 62, 245, 246, 247, 248, 249, 250, 251, 252, 253, 254, 255, 256, 257, 258, 259, 754, 755, 756, 757, 758, 759, 760, 761, 762, 763, 764, 765, 766, 767, 768, 769, 770, 771, 772] (by decide +kernel) (by decide +kernel)
set_option maxRecDepth 20000 in
theorem gL_law_X6_page : GoodIn wsL_law (wsV RL 39 RX6 yX6_page wsX6_page) := goodIn_app (goodIn_of _ (by decide +kernel)) ggL_law_X6_page
set_option maxRecDepth 20000 in
theorem ggL_law_X5_trial : GoodIn wsL_law wsX5_trial := goodIn_r _ [276, 34, 264, 265, 217, 266, 267, 216, 218, 268, 220, 221, 745, 746, 747, 748, 749, 750, 751, 752, 753] (by decide +kernel) (by decide +kernel)
set_option maxRecDepth 20000 in
theorem gL_law_X5_trial : GoodIn wsL_law (wsV RL 40 RX5 yX5_trial wsX5_trial) := goodIn_app (goodIn_of _ (by decide +kernel)) ggL_law_X5_trial
set_option maxRecDepth 20000 in
theorem ggL_law_X6_trial : GoodIn wsL_law wsX6_trial := goodIn_r _ [280, 63, 248, 249, 5, 250, 91, 92, 93, 251, 252, 253, 254, 255, 256, 754, 755, 756, 757, 758, 759, 760, 761, 762, 763, 764, 765, 766, 767, 768, 769, 770, 771, 772] (by decide +kernel) (by decide +kernel)
set_option maxRecDepth 20000 in
theorem gL_law_X6_trial : GoodIn wsL_law (wsV RL 43 RX6 yX6_trial wsX6_trial) := goodIn_app (goodIn_of _ (by decide +kernel)) ggL_law_X6_trial
set_option maxRecDepth 20000 in
theorem ggL_law_X5_speak : GoodIn wsL_law wsX5_speak := goodIn_r _ [284, 34, 24, 285, 286, 2, 287, 228, 216, 217, 218, 288, 289, 290, 291, 20, 292, 293, 294, 19, 295, 44, 45, 47, 296, 297, 298, 23, 299, 300, 52, 301, 302, 303, 304, 305, 226, 227, 745, 746, 747, 748, 749, 750, 751, 752, 753, 775, 776, 777, 778, 779, 780, 781, 782, 783] (by decide +kernel) (by decide +kernel)
set_option maxRecDepth 20000 in
theorem gL_law_X5_speak : GoodIn wsL_law (wsV RL 44 RX5 yX5_speak wsX5_speak) := goodIn_app (goodIn_of _ (by decide +kernel)) ggL_law_X5_speak
set_option maxRecDepth 20000 in
theorem ggL_law_X6_speak : GoodIn wsL_law wsX6_speak := goodIn_r _ [309, 310, 63, 91, 92, 5, 93, 248, 249, 250, 311, 312, 313, 314, 67, 315, 173, 257, 258, 259, 754, 755, 756, 757, 758, 759, 760, 761, 762, 763, 764, 765, 766, 767, 768, 769, 770, 771, 772] (by decide +kernel) (by decide +kernel)
set_option maxRecDepth 20000 in
theorem gL_law_X6_speak : GoodIn wsL_law (wsV RL 47 RX6 yX6_speak wsX6_speak) := goodIn_app (goodIn_of _ (by decide +kernel)) ggL_law_X6_speak
set_option maxRecDepth 20000 in
theorem ggL_law_X5_strike : GoodIn wsL_law wsX5_strike := goodIn_r _ [319, 34, 24, 288, 289, 290, 2, 291, 20, 292, 293, 294, 19, 295, 44, 45, 47, 296, 297, 298, 23, 299, 300, 52, 301, 302, 303, 304, 320, 321, 217, 322, 323, 324, 325, 745, 746, 747, 748, 749, 750, 751, 752, 753, 775, 776, 777, 778, 779, 780, 781, 782, 783] (by decide +kernel) (by decide +kernel)
set_option maxRecDepth 20000 in
theorem gL_law_X5_strike : GoodIn wsL_law (wsV RL 48 RX5 yX5_strike wsX5_strike) := goodIn_app (goodIn_of _ (by decide +kernel)) ggL_law_X5_strike
set_option maxRecDepth 20000 in
theorem ggL_law_X6_strike : GoodIn wsL_law wsX6_strike := goodIn_r _ [329, 63, 311, 312, 313, 5, 314, 67, 315, 173, 754, 755, 756, 757, 758, 759, 760, 761, 762, 763, 764, 765, 766, 767, 768, 769, 770, 771, 772] (by decide +kernel) (by decide +kernel)
set_option maxRecDepth 20000 in
theorem gL_law_X6_strike : GoodIn wsL_law (wsV RL 51 RX6 yX6_strike wsX6_strike) := goodIn_app (goodIn_of _ (by decide +kernel)) ggL_law_X6_strike
set_option maxRecDepth 20000 in
theorem ggL_law_X5_reform : GoodIn wsL_law wsX5_reform := goodIn_r _ [333, 20, 184, 24, 185, 188, 189, 190, 19, 191, 149, 288, 289, 290, 2, 291, 34, 292, 293, 294, 295, 44, 45, 47, 296, 297, 298, 23, 299, 300, 52, 301, 302, 303, 304, 192, 193, 194, 745, 746, 747, 748, 749, 750, 751, 752, 753, 775, 776, 777, 778, 779, 780, 781, 782, 783] (by decide +kernel) (by decide +kernel)
set_option maxRecDepth 20000 in
theorem gL_law_X5_reform : GoodIn wsL_law (wsV RL 52 RX5 yX5_reform wsX5_reform) := goodIn_app (goodIn_of _ (by decide +kernel)) ggL_law_X5_reform
set_option maxRecDepth 20000 in
theorem ggL_law_X6_reform : GoodIn wsL_law wsX6_reform := goodIn_r _ [337, 63, 237, 238, 239, 5, 240, 172, 91, 92, 93, 311, 312, 313, 314, 67, 315, 173, 754, 755, 756, 757, 758, 759, 760, 761, 762, 763, 764, 765, 766, 767, 768, 769, 770, 771, 772] (by decide +kernel) (by decide +kernel)
set_option maxRecDepth 20000 in
theorem gL_law_X6_reform : GoodIn wsL_law (wsV RL 55 RX6 yX6_reform wsX6_reform) := goodIn_app (goodIn_of _ (by decide +kernel)) ggL_law_X6_reform
set_option maxRecDepth 20000 in
theorem ggL_law_X5_seat : GoodIn wsL_law wsX5_seat := goodIn_r _ [341, 20, 187, 24, 188, 189, 190, 19, 191, 149, 192, 193, 2, 194, 288, 289, 290, 291, 34, 292, 293, 294, 295, 44, 45, 47, 296, 297, 298, 23, 299, 300, 52, 301, 302, 303, 304, 745, 746, 747, 748, 749, 750, 751, 752, 753, 775, 776, 777, 778, 779, 780, 781, 782, 783] (by decide +kernel) (by decide +kernel)
set_option maxRecDepth 20000 in
theorem gL_law_X5_seat : GoodIn wsL_law (wsV RL 56 RX5 yX5_seat wsX5_seat) := goodIn_app (goodIn_of _ (by decide +kernel)) ggL_law_X5_seat
set_option maxRecDepth 20000 in
theorem ggL_law_X6_seat : GoodIn wsL_law wsX6_seat := goodIn_r _ [345, 63, 237, 238, 239, 5, 240, 172, 91, 92, 93, 311, 312, 313, 314, 67, 315, 173, 754, 755, 756, 757, 758, 759, 760, 761, 762, 763, 764, 765, 766, 767, 768, 769, 770, 771, 772] (by decide +kernel) (by decide +kernel)
set_option maxRecDepth 20000 in
theorem gL_law_X6_seat : GoodIn wsL_law (wsV RL 59 RX6 yX6_seat wsX6_seat) := goodIn_app (goodIn_of _ (by decide +kernel)) ggL_law_X6_seat
set_option maxRecDepth 20000 in
theorem ggL_law_X5_undo : GoodIn wsL_law wsX5_undo := goodIn_r _ [349, 24, 139, 350, 351, 352, 23, 353, 300, 52, 354, 355, 356, 2, 357, 34, 20, 358, 359, 360, 19, 361, 44, 45, 47, 745, 746, 747, 748, 749, 750, 751, 752, 753, 782, 783, 775, 776, 777, 778, 779, 780, 781] (by decide +kernel) (by decide +kernel)
set_option maxRecDepth 20000 in
theorem gL_law_X5_undo : GoodIn wsL_law (wsV RL 60 RX5 yX5_undo wsX5_undo) := goodIn_app (goodIn_of _ (by decide +kernel)) ggL_law_X5_undo
set_option maxRecDepth 20000 in
theorem ggL_law_X6_undo : GoodIn wsL_law wsX6_undo := goodIn_r _ [365, 173, 315, 63, 67, 754, 755, 756, 757, 758, 759, 760, 761, 762, 763, 764, 765, 766, 767, 768, 769, 770, 771, 772] (by decide +kernel) (by decide +kernel)
set_option maxRecDepth 20000 in
theorem gL_law_X6_undo : GoodIn wsL_law (wsV RL 63 RX6 yX6_undo wsX6_undo) := goodIn_app (goodIn_of _ (by decide +kernel)) ggL_law_X6_undo
set_option maxRecDepth 20000 in
theorem ggL_law_X5_open : GoodIn wsL_law wsX5_open := goodIn_r _ [369, 20, 30, 188, 189, 190, 19, 191, 149, 229, 230, 231, 2, 232, 228, 216, 217, 218, 745, 746, 747, 748, 749, 750, 751, 752, 753, 775, 776, 777, 778, 779, 780, 781] (by decide +kernel) (by decide +kernel)
set_option maxRecDepth 20000 in
theorem gL_law_X5_open : GoodIn wsL_law (wsV RL 64 RX5 yX5_open wsX5_open) := goodIn_app (goodIn_of _ (by decide +kernel)) ggL_law_X5_open
set_option maxRecDepth 20000 in
theorem ggL_law_X6_open : GoodIn wsL_law wsX6_open := goodIn_r _ [373, 64, 237, 238, 239, 5, 240, 172, 91, 92, 93, 374, 375, 376, 377, 248, 249, 250, 754, 755, 756, 757, 758, 759, 760, 761, 762, 763, 764, 765, 766, 767, 768, 769, 770, 771, 772] (by decide +kernel) (by decide +kernel)
set_option maxRecDepth 20000 in
theorem gL_law_X6_open : GoodIn wsL_law (wsV RL 67 RX6 yX6_open wsX6_open) := goodIn_app (goodIn_of _ (by decide +kernel)) ggL_law_X6_open
set_option maxRecDepth 20000 in
theorem ggL_law_X5_tell : GoodIn wsL_law wsX5_tell := goodIn_r _ [381, 20, 30, 188, 189, 190, 19, 191, 149, 285, 286, 2, 287, 228, 216, 217, 218, 305, 226, 227, 745, 746, 747, 748, 749, 750, 751, 752, 753, 775, 776, 777, 778, 779, 780, 781] (by decide +kernel) (by decide +kernel)
set_option maxRecDepth 20000 in
theorem gL_law_X5_tell : GoodIn wsL_law (wsV RL 68 RX5 yX5_tell wsX5_tell) := goodIn_app (goodIn_of _ (by decide +kernel)) ggL_law_X5_tell
set_option maxRecDepth 20000 in
theorem ggL_law_X6_tell : GoodIn wsL_law wsX6_tell := goodIn_r _ [385, 310, 64, 237, 238, 239, 5, 240, 172, 91, 92, 93, 248, 249, 250, 257, 258, 259, 754, 755, 756, 757, 758, 759, 760, 761, 762, 763, 764, 765, 766, 767, 768, 769, 770, 771, 772] (by decide +kernel) (by decide +kernel)
set_option maxRecDepth 20000 in
theorem gL_law_X6_tell : GoodIn wsL_law (wsV RL 71 RX6 yX6_tell wsX6_tell) := goodIn_app (goodIn_of _ (by decide +kernel)) ggL_law_X6_tell
set_option maxRecDepth 20000 in
theorem ggL_law_X5_untell : GoodIn wsL_law wsX5_untell := goodIn_r _ [389, 20, 30, 188, 189, 190, 19, 191, 149, 229, 230, 231, 2, 232, 228, 216, 217, 218, 745, 746, 747, 748, 749, 750, 751, 752, 753, 775, 776, 777, 778, 779, 780, 781] (by decide +kernel) (by decide +kernel)
set_option maxRecDepth 20000 in
theorem gL_law_X5_untell : GoodIn wsL_law (wsV RL 72 RX5 yX5_untell wsX5_untell) := goodIn_app (goodIn_of _ (by decide +kernel)) ggL_law_X5_untell
set_option maxRecDepth 20000 in
theorem ggL_law_X6_untell : GoodIn wsL_law wsX6_untell := goodIn_r _ [393, 64, 237, 238, 239, 5, 240, 172, 91, 92, 93, 374, 375, 376, 377, 248, 249, 250, 754, 755, 756, 757, 758, 759, 760, 761, 762, 763, 764, 765, 766, 767, 768, 769, 770, 771, 772] (by decide +kernel) (by decide +kernel)
set_option maxRecDepth 20000 in
theorem gL_law_X6_untell : GoodIn wsL_law (wsV RL 75 RX6 yX6_untell wsX6_untell) := goodIn_app (goodIn_of _ (by decide +kernel)) ggL_law_X6_untell
set_option maxRecDepth 20000 in
theorem ggL_law_X5_fits : GoodIn wsL_law wsX5_fits := goodIn_r _ [397, 398, 399, 2, 400, 401, 402, 217, 403, 404, 405, 406, 407, 408, 409, 410, 20, 140, 30, 199, 411, 205, 206, 19, 207, 47, 48, 208, 209, 210, 211, 43, 44, 45, 46, 212, 213, 214, 215, 216, 218, 219, 220, 221, 222, 223, 224, 225, 226, 227, 745, 746, 747, 748, 749, 750, 751, 752, 753, 775, 776, 777, 778, 779, 780, 781] (by decide +kernel) (by decide +kernel)
set_option maxRecDepth 20000 in
theorem gL_law_X5_fits : GoodIn wsL_law (wsV RL 76 RX5 yX5_fits wsX5_fits) := goodIn_app (goodIn_of _ (by decide +kernel)) ggL_law_X5_fits
set_option maxRecDepth 20000 in
theorem ggL_law_X6_fits : GoodIn wsL_law wsX6_fits := goodIn_r _ [415, 416, 91, 92, 5, 93, 254, 255, 256, 417, 418, 419, 420, 172, 64, 66, 241, 242, 243, 244, 63, 61, 62, 245, 246, 247, 248, 249, 250, 251, 252, 253, 257, 258, 259, 754, 755, 756, 757, 758, 759, 760, 761, 762, 763, 764, 765, 766, 767, 768, 769, 770, 771, 772] (by decide +kernel) (by decide +kernel)
set_option maxRecDepth 20000 in
theorem gL_law_X6_fits : GoodIn wsL_law (wsV RL 79 RX6 yX6_fits wsX6_fits) := goodIn_app (goodIn_of _ (by decide +kernel)) ggL_law_X6_fits
set_option maxRecDepth 20000 in
theorem ggL_law_X5_least : GoodIn wsL_law wsX5_least := goodIn_r _ [424, 398, 399, 2, 400, 401, 402, 217, 403, 404, 405, 406, 407, 408, 409, 410, 20, 140, 30, 199, 411, 205, 206, 19, 207, 47, 48, 208, 209, 210, 211, 43, 44, 45, 46, 212, 213, 214, 215, 216, 218, 219, 220, 221, 222, 223, 224, 225, 226, 227, 425, 426, 427, 267, 268, 745, 746, 747, 748, 749, 750, 751, 752, 753, 775, 776, 777, 778, 779, 780, 781] (by decide +kernel) (by decide +kernel)
set_option maxRecDepth 20000 in
theorem gL_law_X5_least : GoodIn wsL_law (wsV RL 80 RX5 yX5_least wsX5_least) := goodIn_app (goodIn_of _ (by decide +kernel)) ggL_law_X5_least
set_option maxRecDepth 20000 in
theorem ggL_law_X6_least : GoodIn wsL_law wsX6_least := goodIn_r _ [431, 416, 432, 91, 92, 5, 93, 433, 434, 435, 436, 254, 255, 256, 417, 418, 419, 420, 172, 64, 66, 241, 242, 243, 244, 63, 61, 62, 245, 246, 247, 248, 249, 250, 251, 252, 253, 257, 258, 259, 754, 755, 756, 757, 758, 759, 760, 761, 762, 763, 764, 765, 766, 767, 768, 769, 770, 771, 772] (by decide +kernel) (by decide +kernel)
set_option maxRecDepth 20000 in
theorem gL_law_X6_least : GoodIn wsL_law (wsV RL 83 RX6 yX6_least wsX6_least) := goodIn_app (goodIn_of _ (by decide +kernel)) ggL_law_X6_least
set_option maxRecDepth 20000 in
theorem ggL_law_X5_sure : GoodIn wsL_law wsX5_sure := goodIn_r _ [440, 398, 399, 2, 400, 401, 402, 217, 403, 404, 405, 406, 407, 408, 409, 410, 20, 140, 30, 199, 411, 205, 206, 19, 207, 47, 48, 208, 209, 210, 211, 43, 44, 45, 46, 212, 213, 214, 215, 216, 218, 219, 220, 221, 222, 223, 224, 225, 226, 227, 264, 265, 266, 267, 268, 745, 746, 747, 748, 749, 750, 751, 752, 753, 775, 776, 777, 778, 779, 780, 781] (by decide +kernel) (by decide +kernel)
set_option maxRecDepth 20000 in
theorem gL_law_X5_sure : GoodIn wsL_law (wsV RL 84 RX5 yX5_sure wsX5_sure) := goodIn_app (goodIn_of _ (by decide +kernel)) ggL_law_X5_sure
set_option maxRecDepth 20000 in
theorem ggL_law_X6_sure : GoodIn wsL_law wsX6_sure := goodIn_r _ [444, 416, 91, 92, 5, 93, 445, 413, 414, 415, 254, 255, 256, 417, 418, 419, 420, 172, 64, 66, 241, 242, 243, 244, 63, 61, 62, 245, 246, 247, 248, 249, 250, 251, 252, 253, 257, 258, 259, 446, 447, 448, 449, 754, 755, 756, 757, 758, 759, 760, 761, 762, 763, 764, 765, 766, 767, 768, 769, 770, 771, 772] (by decide +kernel) (by decide +kernel)
set_option maxRecDepth 20000 in
theorem gL_law_X6_sure : GoodIn wsL_law (wsV RL 87 RX6 yX6_sure wsX6_sure) := goodIn_app (goodIn_of _ (by decide +kernel)) ggL_law_X6_sure
set_option maxRecDepth 20000 in
theorem ggL_law_X5_likely : GoodIn wsL_law wsX5_likely := goodIn_r _ [453, 398, 399, 2, 400, 285, 286, 287, 401, 402, 217, 403, 404, 405, 406, 407, 408, 409, 410, 20, 140, 30, 199, 411, 205, 206, 19, 207, 47, 48, 208, 209, 210, 211, 43, 44, 45, 46, 212, 213, 214, 215, 216, 218, 219, 220, 221, 222, 223, 224, 225, 226, 227, 264, 265, 266, 267, 268, 454, 455, 456, 457, 458, 147, 459, 460, 461, 462, 745, 746, 747, 748, 749, 750, 751, 752, 753, 775, 776, 777, 778, 779, 780, 781] (by decide +kernel) (by decide +kernel)
set_option maxRecDepth 20000 in
theorem gL_law_X5_likely : GoodIn wsL_law (wsV RL 88 RX5 yX5_likely wsX5_likely) := goodIn_app (goodIn_of _ (by decide +kernel)) ggL_law_X5_likely
set_option maxRecDepth 20000 in
theorem ggL_law_X6_likely : GoodIn wsL_law wsX6_likely := goodIn_r _ [466, 416, 310, 91, 92, 5, 93, 445, 413, 414, 415, 254, 255, 256, 417, 418, 419, 420, 172, 64, 66, 241, 242, 243, 244, 63, 61, 62, 245, 246, 247, 248, 249, 250, 251, 252, 253, 257, 258, 259, 446, 447, 448, 449, 467, 468, 469, 754, 755, 756, 757, 758, 759, 760, 761, 762, 763, 764, 765, 766, 767, 768, 769, 770, 771, 772] (by decide +kernel) (by decide +kernel)
set_option maxRecDepth 20000 in
theorem gL_law_X6_likely : GoodIn wsL_law (wsV RL 92 RX6 yX6_likely wsX6_likely) := goodIn_app (goodIn_of _ (by decide +kernel)) ggL_law_X6_likely
set_option maxRecDepth 20000 in
theorem ggL_law_X5_toRead : GoodIn wsL_law wsX5_toRead := goodIn_r _ [473, 20, 140, 30, 398, 399, 2, 400, 474, 475, 476, 477, 28, 199, 457, 458, 147, 459, 478, 479, 480, 27, 481, 56, 482, 166, 163, 167, 401, 402, 217, 403, 404, 405, 406, 407, 408, 409, 410, 411, 205, 206, 19, 207, 47, 48, 208, 209, 210, 211, 43, 44, 45, 46, 212, 213, 214, 215, 216, 218, 219, 220, 221, 222, 223, 224, 225, 226, 227, 483, 484, 485, 486, 745, 746, 747, 748, 749, 750, 751, 752, 753, 775, 776, 777, 778, 779, 780, 781, 784] (by decide +kernel) (by decide +kernel)
set_option maxRecDepth 20000 in
theorem gL_law_X5_toRead : GoodIn wsL_law (wsV RL 93 RX5 yX5_toRead wsX5_toRead) := goodIn_app (goodIn_of _ (by decide +kernel)) ggL_law_X5_toRead
set_option maxRecDepth 20000 in
theorem ggL_law_X6_toRead : GoodIn wsL_law wsX6_toRead := goodIn_r _ [490, 416, 172, 64, 91, 92, 5, 93, 433, 434, 435, 436, 254, 255, 256, 417, 418, 419, 420, 66, 241, 242, 243, 244, 63, 61, 62, 245, 246, 247, 248, 249, 250, 251, 252, 253, 257, 258, 259, 491, 492, 493, 494, 68, 754, 755, 756, 757, 758, 759, 760, 761, 762, 763, 764, 765, 766, 767, 768, 769, 770, 771, 772] (by decide +kernel) (by decide +kernel)
set_option maxRecDepth 20000 in
theorem gL_law_X6_toRead : GoodIn wsL_law (wsV RL 96 RX6 yX6_toRead wsX6_toRead) := goodIn_app (goodIn_of _ (by decide +kernel)) ggL_law_X6_toRead
set_option maxRecDepth 20000 in
theorem ggL_law_X5_habits : GoodIn wsL_law wsX5_habits := goodIn_r _ [498, 20, 30, 188, 189, 190, 19, 191, 149, 499, 500, 501, 2, 502, 34, 503, 504, 505, 506, 507, 508, 509, 510, 511, 512, 513, 514, 515, 213, 214, 215, 216, 217, 218, 219, 220, 221, 222, 223, 224, 225, 226, 227, 745, 746, 747, 748, 749, 750, 751, 752, 753, 775, 776, 777, 778, 779, 780, 781] (by decide +kernel) (by decide +kernel)
set_option maxRecDepth 20000 in
theorem gL_law_X5_habits : GoodIn wsL_law (wsV RL 97 RX5 yX5_habits wsX5_habits) := goodIn_app (goodIn_of _ (by decide +kernel)) ggL_law_X5_habits
set_option maxRecDepth 20000 in
theorem ggL_law_X6_habits : GoodIn wsL_law wsX6_habits := goodIn_r _ [519, 64, 237, 238, 239, 5, 240, 172, 91, 92, 93, 520, 521, 522, 523, 63, 524, 525, 526, 527, 528, 529, 245, 246, 247, 248, 249, 250, 251, 252, 253, 254, 255, 256, 257, 258, 259, 754, 755, 756, 757, 758, 759, 760, 761, 762, 763, 764, 765, 766, 767, 768, 769, 770, 771, 772] (by decide +kernel) (by decide +kernel)
set_option maxRecDepth 20000 in
theorem gL_law_X6_habits : GoodIn wsL_law (wsV RL 100 RX6 yX6_habits wsX6_habits) := goodIn_app (goodIn_of _ (by decide +kernel)) ggL_law_X6_habits
set_option maxRecDepth 20000 in
theorem ggL_law_X5_habit : GoodIn wsL_law wsX5_habit := goodIn_r _ [533, 20, 30, 188, 189, 190, 19, 191, 149, 499, 500, 501, 2, 502, 34, 503, 504, 505, 506, 507, 508, 509, 510, 511, 512, 513, 514, 515, 213, 214, 215, 216, 217, 218, 219, 220, 221, 222, 223, 224, 225, 226, 227, 745, 746, 747, 748, 749, 750, 751, 752, 753, 775, 776, 777, 778, 779, 780, 781] (by decide +kernel) (by decide +kernel)
set_option maxRecDepth 20000 in
theorem gL_law_X5_habit : GoodIn wsL_law (wsV RL 101 RX5 yX5_habit wsX5_habit) := goodIn_app (goodIn_of _ (by decide +kernel)) ggL_law_X5_habit
set_option maxRecDepth 20000 in
theorem ggL_law_X6_habit : GoodIn wsL_law wsX6_habit := goodIn_r _ [537, 64, 237, 238, 239, 5, 240, 172, 91, 92, 93, 520, 521, 522, 523, 63, 524, 525, 526, 527, 528, 529, 245, 246, 247, 248, 249, 250, 251, 252, 253, 254, 255, 256, 257, 258, 259, 754, 755, 756, 757, 758, 759, 760, 761, 762, 763, 764, 765, 766, 767, 768, 769, 770, 771, 772] (by decide +kernel) (by decide +kernel)
set_option maxRecDepth 20000 in
theorem gL_law_X6_habit : GoodIn wsL_law (wsV RL 104 RX6 yX6_habit wsX6_habit) := goodIn_app (goodIn_of _ (by decide +kernel)) ggL_law_X6_habit
set_option maxRecDepth 20000 in
theorem ggL_law_X5_copied : GoodIn wsL_law wsX5_copied := goodIn_r _ [541, 20, 30, 34, 140, 199, 188, 189, 190, 19, 191, 149, 200, 201, 202, 203, 204, 205, 206, 207, 47, 48, 208, 209, 210, 211, 43, 44, 45, 46, 212, 213, 214, 215, 216, 217, 218, 219, 220, 221, 222, 223, 224, 225, 226, 227, 542, 543, 544, 545, 546, 547, 745, 746, 747, 748, 749, 750, 751, 752, 753, 775, 776, 777, 778, 779, 780, 781] (by decide +kernel) (by decide +kernel)
set_option maxRecDepth 20000 in
theorem gL_law_X5_copied : GoodIn wsL_law (wsV RL 105 RX5 yX5_copied wsX5_copied) := goodIn_app (goodIn_of _ (by decide +kernel)) ggL_law_X5_copied
set_option maxRecDepth 20000 in
theorem ggL_law_X6_copied : GoodIn wsL_law wsX6_copied := goodIn_r _ [551, 64, 63, 172, 66, 61, 62, 237, 238, 239, 5, 240, 91, 92, 93, 241, 242, 243, 244, 245, 246, 247, 248, 249, 250, 251, 252, 253, 254, 255, 256, 257, 258, 259, 552, 553, 554, 555, 754, 755, 756, 757, 758, 759, 760, 761, 762, 763, 764, 765, 766, 767, 768, 769, 770, 771, 772] (by decide +kernel) (by decide +kernel)
set_option maxRecDepth 20000 in
theorem gL_law_X6_copied : GoodIn wsL_law (wsV RL 108 RX6 yX6_copied wsX6_copied) := goodIn_app (goodIn_of _ (by decide +kernel)) ggL_law_X6_copied
set_option maxRecDepth 20000 in
theorem ggL_law_X5_leaves : GoodIn wsL_law wsX5_leaves := goodIn_r _ [559, 20, 30, 188, 189, 190, 19, 191, 149, 195, 196, 197, 2, 198, 34, 199, 200, 201, 202, 203, 204, 205, 206, 207, 47, 48, 208, 209, 210, 211, 43, 44, 45, 46, 212, 213, 214, 215, 216, 217, 218, 219, 220, 221, 222, 223, 224, 225, 226, 227, 560, 561, 562, 563, 564, 565, 267, 566, 567, 568, 569, 146, 147, 148, 268, 570, 745, 746, 747, 748, 749, 750, 751, 752, 753, 775, 776, 777, 778, 779, 780, 781] (by decide +kernel) (by decide +kernel)
set_option maxRecDepth 20000 in
theorem gL_law_X5_leaves : GoodIn wsL_law (wsV RL 109 RX5 yX5_leaves wsX5_leaves) := goodIn_app (goodIn_of _ (by decide +kernel)) ggL_law_X5_leaves
set_option maxRecDepth 20000 in
theorem ggL_law_X6_leaves : GoodIn wsL_law wsX6_leaves := goodIn_r _ [574, 64, 63, 66, 237, 238, 239, 5, 240, 172, 91, 92, 93, 241, 242, 243, 244, 61, 62, 245, 246, 247, 248, 249, 250, 251, 252, 253, 254, 255, 256, 257, 258, 259, 575, 576, 577, 754, 755, 756, 757, 758, 759, 760, 761, 762, 763, 764, 765, 766, 767, 768, 769, 770, 771, 772] (by decide +kernel) (by decide +kernel)
set_option maxRecDepth 20000 in
theorem gL_law_X6_leaves : GoodIn wsL_law (wsV RL 112 RX6 yX6_leaves wsX6_leaves) := goodIn_app (goodIn_of _ (by decide +kernel)) ggL_law_X6_leaves
set_option maxRecDepth 20000 in
theorem ggL_law_X5_fewest : GoodIn wsL_law wsX5_fewest := goodIn_r _ [581, 20, 398, 399, 2, 400, 582, 583, 584, 19, 585, 149, 586, 587, 588, 589, 590, 591, 592, 593, 594, 595, 596, 28, 478, 479, 480, 27, 481, 56, 482, 166, 163, 167, 401, 402, 217, 403, 404, 405, 406, 200, 201, 202, 203, 204, 205, 206, 207, 47, 48, 208, 209, 210, 211, 43, 44, 45, 46, 212, 213, 214, 215, 216, 218, 219, 220, 221, 222, 223, 224, 225, 226, 227, 597, 598, 599, 600, 601, 602, 603, 604, 605, 745, 746, 747, 748, 749, 750, 751, 752, 753, 775, 776, 777, 778, 779, 780, 781, 784] (by decide +kernel) (by decide +kernel)
set_option maxRecDepth 20000 in
theorem gL_law_X5_fewest : GoodIn wsL_law (wsV RL 113 RX5 yX5_fewest wsX5_fewest) := goodIn_app (goodIn_of _ (by decide +kernel)) ggL_law_X5_fewest
set_option maxRecDepth 20000 in
theorem ggL_law_X6_fewest : GoodIn wsL_law wsX6_fewest := goodIn_r _ [609, 416, 172, 91, 92, 5, 93, 610, 611, 612, 613, 614, 615, 616, 69, 70, 66, 254, 255, 256, 241, 242, 243, 244, 63, 61, 62, 245, 246, 247, 248, 249, 250, 251, 252, 253, 257, 258, 259, 617, 618, 619, 620, 621, 622, 623, 754, 755, 756, 757, 758, 759, 760, 761, 762, 763, 764, 765, 766, 767, 768, 769, 770, 771, 772] (by decide +kernel) (by decide +kernel)
set_option maxRecDepth 20000 in
theorem gL_law_X6_fewest : GoodIn wsL_law (wsV RL 116 RX6 yX6_fewest wsX6_fewest) := goodIn_app (goodIn_of _ (by decide +kernel)) ggL_law_X6_fewest
set_option maxRecDepth 20000 in
theorem ggL_law_X5_blind : GoodIn wsL_law wsX5_blind := goodIn_r _ [627, 398, 399, 2, 400, 628, 629, 630, 631, 28, 20, 478, 479, 480, 27, 481, 56, 482, 166, 163, 167, 582, 583, 584, 19, 585, 149, 401, 402, 217, 403, 404, 405, 406, 200, 201, 202, 203, 204, 205, 206, 207, 47, 48, 208, 209, 210, 211, 43, 44, 45, 46, 212, 213, 214, 215, 216, 218, 219, 220, 221, 222, 223, 224, 225, 226, 227, 597, 598, 599, 600, 601, 602, 603, 604, 605, 745, 746, 747, 748, 749, 750, 751, 752, 753, 784, 775, 776, 777, 778, 779, 780, 781] (by decide +kernel) (by decide +kernel)
set_option maxRecDepth 20000 in
theorem gL_law_X5_blind : GoodIn wsL_law (wsV RL 117 RX5 yX5_blind wsX5_blind) := goodIn_app (goodIn_of _ (by decide +kernel)) ggL_law_X5_blind
set_option maxRecDepth 20000 in
theorem ggL_law_X6_blind : GoodIn wsL_law wsX6_blind := goodIn_r _ [635, 416, 91, 92, 5, 93, 636, 637, 638, 639, 254, 255, 256, 613, 614, 615, 616, 69, 70, 172, 66, 241, 242, 243, 244, 63, 61, 62, 245, 246, 247, 248, 249, 250, 251, 252, 253, 257, 258, 259, 617, 618, 619, 620, 621, 622, 623, 754, 755, 756, 757, 758, 759, 760, 761, 762, 763, 764, 765, 766, 767, 768, 769, 770, 771, 772] (by decide +kernel) (by decide +kernel)
set_option maxRecDepth 20000 in
theorem gL_law_X6_blind : GoodIn wsL_law (wsV RL 120 RX6 yX6_blind wsX6_blind) := goodIn_app (goodIn_of _ (by decide +kernel)) ggL_law_X6_blind
set_option maxRecDepth 20000 in
theorem ggL_law_X5_whom : GoodIn wsL_law wsX5_whom := goodIn_r _ [643, 20, 140, 184, 398, 399, 2, 400, 628, 629, 630, 631, 28, 478, 479, 480, 27, 481, 56, 482, 166, 163, 167, 582, 583, 584, 19, 585, 149, 401, 402, 217, 403, 404, 405, 406, 200, 201, 202, 203, 204, 205, 206, 207, 47, 48, 208, 209, 210, 211, 43, 44, 45, 46, 212, 213, 214, 215, 216, 218, 219, 220, 221, 222, 223, 224, 225, 226, 227, 597, 598, 599, 600, 601, 602, 603, 604, 605, 644, 645, 646, 647, 745, 746, 747, 748, 749, 750, 751, 752, 753, 775, 776, 777, 778, 779, 780, 781, 784] (by decide +kernel) (by decide +kernel)
set_option maxRecDepth 20000 in
theorem gL_law_X5_whom : GoodIn wsL_law (wsV RL 121 RX5 yX5_whom wsX5_whom) := goodIn_app (goodIn_of _ (by decide +kernel)) ggL_law_X5_whom
set_option maxRecDepth 20000 in
theorem ggL_law_X6_whom : GoodIn wsL_law wsX6_whom := goodIn_r _ [651, 416, 172, 91, 92, 5, 93, 636, 637, 638, 639, 254, 255, 256, 613, 614, 615, 616, 69, 70, 66, 241, 242, 243, 244, 63, 61, 62, 245, 246, 247, 248, 249, 250, 251, 252, 253, 257, 258, 259, 617, 618, 619, 620, 621, 622, 623, 754, 755, 756, 757, 758, 759, 760, 761, 762, 763, 764, 765, 766, 767, 768, 769, 770, 771, 772] (by decide +kernel) (by decide +kernel)
set_option maxRecDepth 20000 in
theorem gL_law_X6_whom : GoodIn wsL_law (wsV RL 124 RX6 yX6_whom wsX6_whom) := goodIn_app (goodIn_of _ (by decide +kernel)) ggL_law_X6_whom
set_option maxRecDepth 20000 in
theorem ggL_law_X5_lost : GoodIn wsL_law wsX5_lost := goodIn_r _ [655, 34, 20, 140, 228, 216, 217, 218, 656, 657, 658, 2, 659, 199, 31, 660, 302, 303, 304, 200, 201, 202, 19, 203, 149, 204, 205, 206, 207, 47, 48, 208, 209, 210, 211, 43, 44, 45, 46, 212, 213, 214, 215, 219, 220, 221, 222, 223, 224, 225, 226, 227, 401, 402, 403, 404, 405, 406, 661, 662, 663, 664, 582, 583, 584, 585, 665, 666, 667, 668, 586, 587, 588, 589, 590, 591, 592, 669, 670, 671, 454, 455, 456, 457, 458, 147, 459, 460, 461, 462, 745, 746, 747, 748, 749, 750, 751, 752, 753, 775, 776, 777, 778, 779, 780, 781] (by decide +kernel) (by decide +kernel)
set_option maxRecDepth 20000 in
theorem gL_law_X5_lost : GoodIn wsL_law (wsV RL 125 RX5 yX5_lost wsX5_lost) := goodIn_app (goodIn_of _ (by decide +kernel)) ggL_law_X5_lost
set_option maxRecDepth 20000 in
theorem ggL_law_X6_lost : GoodIn wsL_law wsX6_lost := goodIn_r _ [675, 676, 63, 172, 91, 92, 5, 93, 248, 249, 250, 617, 618, 619, 677, 678, 679, 680, 71, 66, 241, 242, 243, 244, 61, 62, 245, 246, 247, 251, 252, 253, 254, 255, 256, 257, 258, 259, 467, 468, 469, 754, 755, 756, 757, 758, 759, 760, 761, 762, 763, 764, 765, 766, 767, 768, 769, 770, 771, 772] (by decide +kernel) (by decide +kernel)
set_option maxRecDepth 20000 in
theorem gL_law_X6_lost : GoodIn wsL_law (wsV RL 129 RX6 yX6_lost wsX6_lost) := goodIn_app (goodIn_of _ (by decide +kernel)) ggL_law_X6_lost
set_option maxRecDepth 20000 in
theorem ggL_law_X5_seed : GoodIn wsL_law wsX5_seed := goodIn_r _ [684, 35, 745, 746, 747, 748, 749, 750, 751, 752, 753] (by decide +kernel) (by decide +kernel)
set_option maxRecDepth 20000 in
theorem gL_law_X5_seed : GoodIn wsL_law (wsV RL 132 RX5 yX5_seed wsX5_seed) := goodIn_app (goodIn_of _ (by decide +kernel)) ggL_law_X5_seed
set_option maxRecDepth 20000 in
theorem ggL_law_X6_seed : GoodIn wsL_law wsX6_seed := goodIn_r _ [688, 689, 754, 755, 756, 757, 758, 759, 760, 761, 762, 763, 764, 765, 766, 767, 768, 769, 770, 771, 772] (by decide +kernel) (by decide +kernel)
set_option maxRecDepth 20000 in
theorem gL_law_X6_seed : GoodIn wsL_law (wsV RL 136 RX6 yX6_seed wsX6_seed) := goodIn_app (goodIn_of _ (by decide +kernel)) ggL_law_X6_seed
set_option maxRecDepth 20000 in
theorem ggL_law_X5_days : GoodIn wsL_law wsX5_days := goodIn_r _ [693, 20, 694, 695, 696, 2, 697, 35, 698, 699, 305, 226, 217, 227, 200, 201, 202, 19, 203, 149, 204, 205, 206, 207, 47, 48, 208, 209, 210, 211, 43, 44, 45, 46, 212, 213, 214, 215, 216, 218, 219, 220, 221, 222, 223, 224, 225, 700, 701, 702, 703, 745, 746, 747, 748, 749, 750, 751, 752, 753, 775, 776, 777, 778, 779, 780, 781] (by decide +kernel) (by decide +kernel)
set_option maxRecDepth 20000 in
theorem gL_law_X5_days : GoodIn wsL_law (wsV RL 137 RX5 yX5_days wsX5_days) := goodIn_app (goodIn_of _ (by decide +kernel)) ggL_law_X5_days
set_option maxRecDepth 20000 in
theorem ggL_law_X6_days : GoodIn wsL_law wsX6_days := goodIn_r _ [707, 708, 709, 689, 710, 711, 712, 91, 92, 5, 93, 257, 258, 259, 241, 242, 243, 244, 172, 63, 66, 61, 62, 245, 246, 247, 248, 249, 250, 251, 252, 253, 254, 255, 256, 713, 714, 715, 716, 754, 755, 756, 757, 758, 759, 760, 761, 762, 763, 764, 765, 766, 767, 768, 769, 770, 771, 772] (by decide +kernel) (by decide +kernel)
set_option maxRecDepth 20000 in
theorem gL_law_X6_days : GoodIn wsL_law (wsV RL 140 RX6 yX6_days wsX6_days) := goodIn_app (goodIn_of _ (by decide +kernel)) ggL_law_X6_days
set_option maxRecDepth 20000 in
theorem ggL_law_X5_keep : GoodIn wsL_law wsX5_keep := goodIn_r _ [720, 33, 34, 288, 289, 290, 2, 291, 20, 292, 293, 294, 19, 295, 44, 45, 47, 228, 216, 217, 218, 745, 746, 747, 748, 749, 750, 751, 752, 753, 775, 776, 777, 778, 779, 780, 781] (by decide +kernel) (by decide +kernel)
set_option maxRecDepth 20000 in
theorem gL_law_X5_keep : GoodIn wsL_law (wsV RL 141 RX5 yX5_keep wsX5_keep) := goodIn_app (goodIn_of _ (by decide +kernel)) ggL_law_X5_keep
set_option maxRecDepth 20000 in
theorem ggL_law_X6_keep : GoodIn wsL_law wsX6_keep := goodIn_r _ [724, 73, 74, 63, 91, 92, 5, 93, 248, 249, 250, 754, 755, 756, 757, 758, 759, 760, 761, 762, 763, 764, 765, 766, 767, 768, 769, 770, 771, 772] (by decide +kernel) (by decide +kernel)
set_option maxRecDepth 20000 in
theorem gL_law_X6_keep : GoodIn wsL_law (wsV RL 144 RX6 yX6_keep wsX6_keep) := goodIn_app (goodIn_of _ (by decide +kernel)) ggL_law_X6_keep
set_option maxRecDepth 20000 in
theorem ggL_law_X5_again : GoodIn wsL_law wsX5_again := goodIn_r _ [728, 33, 24, 139, 34, 354, 355, 356, 2, 357, 20, 358, 359, 360, 19, 361, 44, 45, 47, 228, 216, 217, 218, 745, 746, 747, 748, 749, 750, 751, 752, 753, 782, 783, 775, 776, 777, 778, 779, 780, 781] (by decide +kernel) (by decide +kernel)
set_option maxRecDepth 20000 in
theorem gL_law_X5_again : GoodIn wsL_law (wsV RL 145 RX5 yX5_again wsX5_again) := goodIn_app (goodIn_of _ (by decide +kernel)) ggL_law_X5_again
set_option maxRecDepth 20000 in
theorem ggL_law_X6_again : GoodIn wsL_law wsX6_again := goodIn_r _ [732, 73, 63, 74, 173, 91, 92, 5, 93, 248, 249, 250, 754, 755, 756, 757, 758, 759, 760, 761, 762, 763, 764, 765, 766, 767, 768, 769, 770, 771, 772] (by decide +kernel) (by decide +kernel)
set_option maxRecDepth 20000 in
theorem gL_law_X6_again : GoodIn wsL_law (wsV RL 148 RX6 yX6_again wsX6_again) := goodIn_app (goodIn_of _ (by decide +kernel)) ggL_law_X6_again
set_option maxRecDepth 20000 in
theorem ggL_law_X5_count : GoodIn wsL_law wsX5_count := goodIn_r _ [736, 16, 79, 20, 140, 34, 24, 139, 228, 216, 217, 218, 737, 738, 739, 2, 740, 30, 200, 201, 202, 19, 203, 149, 204, 205, 206, 207, 47, 48, 208, 209, 210, 211, 43, 44, 45, 46, 212, 213, 214, 215, 219, 220, 221, 222, 223, 224, 225, 226, 227, 700, 701, 702, 703, 745, 746, 747, 748, 749, 750, 751, 752, 753, 773, 774, 775, 776, 777, 778, 779, 780, 781, 782, 783] (by decide +kernel) (by decide +kernel)
set_option maxRecDepth 20000 in
theorem gL_law_X5_count : GoodIn wsL_law (wsV RL 149 RX5 yX5_count wsX5_count) := goodIn_app (goodIn_of _ (by decide +kernel)) ggL_law_X5_count
set_option maxRecDepth 20000 in
theorem ggL_law_X6_count : GoodIn wsL_law wsX6_count := goodIn_r _ [744, 172, 64, 63, 90, 173, 241, 242, 243, 5, 244, 66, 61, 62, 245, 246, 247, 248, 249, 250, 251, 252, 253, 254, 255, 256, 257, 258, 259, 713, 714, 715, 716, 754, 755, 756, 757, 758, 759, 760, 761, 762, 763, 764, 765, 766, 767, 768, 769, 770, 771, 772] (by decide +kernel) (by decide +kernel)
set_option maxRecDepth 20000 in
theorem gL_law_X6_count : GoodIn wsL_law (wsV RL 152 RX6 yX6_count wsX6_count) := goodIn_app (goodIn_of _ (by decide +kernel)) ggL_law_X6_count
