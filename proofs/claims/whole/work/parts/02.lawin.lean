set_option maxRecDepth 20000 in
theorem lin_r1 : ∀ w ∈ wsL_law_r1, w ∈ lw_tbl := fun w h => (goodIn_r wsL_law_r1 [45, 46, 34, 549, 550, 39, 868, 47, 48, 49, 50, 51, 52, 53, 54, 35, 128, 68, 69, 36, 129, 103, 104, 37] (by decide +kernel) (by decide +kernel) w h).1
set_option maxRecDepth 20000 in
theorem lin_r2 : ∀ w ∈ wsL_law_r2, w ∈ lw_tbl := fun w h => (goodIn_r wsL_law_r2 [130, 118, 119, 38, 131, 67, 132, 133, 117, 134, 135, 136, 56, 57, 58, 59, 71, 72, 73, 74, 76, 78, 80, 82] (by decide +kernel) (by decide +kernel) w h).1
set_option maxRecDepth 20000 in
theorem lin_r3 : ∀ w ∈ wsL_law_r3, w ∈ lw_tbl := fun w h => (goodIn_r wsL_law_r3 [84, 106, 107, 108, 109, 121, 122, 123, 124, 551, 552, 553, 554, 556, 557, 558, 559, 560, 562, 565, 567, 568, 569, 570] (by decide +kernel) (by decide +kernel) w h).1
set_option maxRecDepth 20000 in
theorem lin_r4 : ∀ w ∈ wsL_law_r4, w ∈ lw_tbl := fun w h => (goodIn_r wsL_law_r4 [613, 572, 573, 156, 157, 158, 159, 61, 160, 161, 162, 163, 60, 614, 615, 616, 617, 618, 561, 619, 620, 621, 164, 165] (by decide +kernel) (by decide +kernel) w h).1
set_option maxRecDepth 20000 in
theorem lin_r5 : ∀ w ∈ wsL_law_r5, w ∈ lw_tbl := fun w h => (goodIn_r wsL_law_r5 [166, 167, 622, 623, 624, 625, 168, 169, 170, 171, 172, 173, 174, 175, 176, 178, 0, 179, 180, 181, 182, 183, 184, 185] (by decide +kernel) (by decide +kernel) w h).1
set_option maxRecDepth 20000 in
theorem lin_r6 : ∀ w ∈ wsL_law_r6, w ∈ lw_tbl := fun w h => (goodIn_r wsL_law_r6 [626, 627, 628, 629, 630, 632, 16, 633, 639, 640, 634, 635, 636, 637, 638, 186, 187, 188, 189, 111, 87, 190, 191, 192] (by decide +kernel) (by decide +kernel) w h).1
set_option maxRecDepth 20000 in
theorem lin_r7 : ∀ w ∈ wsL_law_r7, w ∈ lw_tbl := fun w h => (goodIn_r wsL_law_r7 [193, 198, 199, 40, 200, 86, 194, 195, 196, 197, 201, 202, 203, 204, 205, 206, 207, 208, 209, 41, 210, 211, 212, 213] (by decide +kernel) (by decide +kernel) w h).1
set_option maxRecDepth 20000 in
theorem lin_r8 : ∀ w ∈ wsL_law_r8, w ∈ lw_tbl := fun w h => (goodIn_r wsL_law_r8 [641, 642, 643, 644, 555, 563, 645, 646, 648, 17, 649, 214, 215, 216, 217, 75, 77, 79, 81, 83, 218, 219, 220, 221] (by decide +kernel) (by decide +kernel) w h).1
set_option maxRecDepth 20000 in
theorem lin_r9 : ∀ w ∈ wsL_law_r9, w ∈ lw_tbl := fun w h => (goodIn_r wsL_law_r9 [222, 223, 224, 225, 227, 1, 228, 85, 229, 230, 231, 232, 233, 234, 235, 236, 237, 238, 239, 240, 241, 242, 243, 244] (by decide +kernel) (by decide +kernel) w h).1
set_option maxRecDepth 20000 in
theorem lin_r10 : ∀ w ∈ wsL_law_r10, w ∈ lw_tbl := fun w h => (goodIn_r wsL_law_r10 [245, 42, 246, 247, 248, 249, 250, 251, 252, 253, 254, 255, 256, 257, 259, 2, 260, 650, 651, 652, 653, 654, 656, 18] (by decide +kernel) (by decide +kernel) w h).1
set_option maxRecDepth 20000 in
theorem lin_r11 : ∀ w ∈ wsL_law_r11, w ∈ lw_tbl := fun w h => (goodIn_r wsL_law_r11 [657, 658, 660, 19, 661, 662, 663, 664, 665, 666, 667, 668, 669, 670, 671, 672, 673, 674, 675, 676, 261, 262, 263, 264] (by decide +kernel) (by decide +kernel) w h).1
set_option maxRecDepth 20000 in
theorem lin_r12 : ∀ w ∈ wsL_law_r12, w ∈ lw_tbl := fun w h => (goodIn_r wsL_law_r12 [265, 266, 267, 268, 269, 677, 678, 679, 680, 270, 271, 272, 273, 681, 682, 683, 684, 274, 275, 276, 277, 278, 279, 280] (by decide +kernel) (by decide +kernel) w h).1
set_option maxRecDepth 20000 in
theorem lin_r13 : ∀ w ∈ wsL_law_r13, w ∈ lw_tbl := fun w h => (goodIn_r wsL_law_r13 [281, 283, 3, 284, 285, 286, 287, 288, 289, 290, 291, 292, 110, 293, 295, 294, 43, 296, 685, 686, 687, 688, 689, 690] (by decide +kernel) (by decide +kernel) w h).1
set_option maxRecDepth 20000 in
theorem lin_r14 : ∀ w ∈ wsL_law_r14, w ∈ lw_tbl := fun w h => (goodIn_r wsL_law_r14 [692, 20, 693, 564, 297, 298, 299, 300, 301, 302, 303, 304, 305, 306, 694, 695, 696, 697, 307, 308, 309, 310, 698, 699] (by decide +kernel) (by decide +kernel) w h).1
set_option maxRecDepth 20000 in
theorem lin_r15 : ∀ w ∈ wsL_law_r15, w ∈ lw_tbl := fun w h => (goodIn_r wsL_law_r15 [700, 701, 311, 312, 313, 314, 702, 703, 704, 705, 315, 316, 317, 318, 319, 320, 321, 322, 323, 325, 4, 326, 327, 328] (by decide +kernel) (by decide +kernel) w h).1
set_option maxRecDepth 20000 in
theorem lin_r16 : ∀ w ∈ wsL_law_r16, w ∈ lw_tbl := fun w h => (goodIn_r wsL_law_r16 [329, 330, 706, 707, 708, 709, 331, 332, 333, 334, 710, 711, 712, 713, 714, 716, 21, 717, 335, 336, 337, 338, 718, 719] (by decide +kernel) (by decide +kernel) w h).1
set_option maxRecDepth 20000 in
theorem lin_r17 : ∀ w ∈ wsL_law_r17, w ∈ lw_tbl := fun w h => (goodIn_r wsL_law_r17 [720, 721, 339, 340, 341, 342, 722, 723, 724, 725, 343, 344, 345, 346, 347, 348, 349, 350, 351, 352, 353, 354, 355, 356] (by decide +kernel) (by decide +kernel) w h).1
set_option maxRecDepth 20000 in
theorem lin_r18 : ∀ w ∈ wsL_law_r18, w ∈ lw_tbl := fun w h => (goodIn_r wsL_law_r18 [358, 5, 359, 360, 726, 727, 728, 729, 730, 731, 733, 22, 734, 361, 362, 363, 364, 365, 366, 367, 735, 736, 737, 738] (by decide +kernel) (by decide +kernel) w h).1
set_option maxRecDepth 20000 in
theorem lin_r19 : ∀ w ∈ wsL_law_r19, w ∈ lw_tbl := fun w h => (goodIn_r wsL_law_r19 [566, 739, 741, 23, 742, 368, 369, 370, 371, 743, 744, 745, 746, 747, 748, 750, 24, 751, 372, 373, 374, 375, 376, 377] (by decide +kernel) (by decide +kernel) w h).1
set_option maxRecDepth 20000 in
theorem lin_r20 : ∀ w ∈ wsL_law_r20, w ∈ lw_tbl := fun w h => (goodIn_r wsL_law_r20 [378, 382, 383, 384, 379, 380, 381, 752, 753, 754, 755, 756, 757, 758, 385, 386, 387, 388, 389, 391, 6, 392, 393, 394] (by decide +kernel) (by decide +kernel) w h).1
set_option maxRecDepth 20000 in
theorem lin_r21 : ∀ w ∈ wsL_law_r21, w ∈ lw_tbl := fun w h => (goodIn_r wsL_law_r21 [395, 396, 397, 398, 399, 400, 401, 759, 760, 761, 762, 763, 765, 25, 766, 402, 403, 404, 405, 406, 408, 7, 409, 410] (by decide +kernel) (by decide +kernel) w h).1
set_option maxRecDepth 20000 in
theorem lin_r22 : ∀ w ∈ wsL_law_r22, w ∈ lw_tbl := fun w h => (goodIn_r wsL_law_r22 [411, 412, 413, 414, 415, 416, 417, 418, 419, 420, 421, 422, 767, 768, 769, 770, 771, 773, 26, 774, 775, 776, 777, 778] (by decide +kernel) (by decide +kernel) w h).1
set_option maxRecDepth 20000 in
theorem lin_r23 : ∀ w ∈ wsL_law_r23, w ∈ lw_tbl := fun w h => (goodIn_r wsL_law_r23 [779, 780, 423, 424, 425, 426, 781, 782, 783, 784, 427, 428, 429, 430, 431, 432, 433, 434, 435, 436, 785, 786, 787, 788] (by decide +kernel) (by decide +kernel) w h).1
set_option maxRecDepth 20000 in
theorem lin_r24 : ∀ w ∈ wsL_law_r24, w ∈ lw_tbl := fun w h => (goodIn_r wsL_law_r24 [789, 791, 27, 792, 437, 438, 439, 440, 441, 442, 443, 444, 445, 446, 447, 448, 449, 450, 451, 793, 794, 795, 796, 797] (by decide +kernel) (by decide +kernel) w h).1
set_option maxRecDepth 20000 in
theorem lin_r25 : ∀ w ∈ wsL_law_r25, w ∈ lw_tbl := fun w h => (goodIn_r wsL_law_r25 [798, 799, 452, 453, 454, 455, 456, 457, 458, 459, 460, 461, 44, 462, 463, 464, 465, 466, 468, 8, 469, 470, 471, 472] (by decide +kernel) (by decide +kernel) w h).1
set_option maxRecDepth 20000 in
theorem lin_r26 : ∀ w ∈ wsL_law_r26, w ∈ lw_tbl := fun w h => (goodIn_r wsL_law_r26 [473, 474, 475, 476, 477, 478, 800, 801, 802, 803, 804, 805, 806, 807, 809, 28, 810, 811, 812, 813, 814, 816, 29, 817] (by decide +kernel) (by decide +kernel) w h).1
set_option maxRecDepth 20000 in
theorem lin_r27 : ∀ w ∈ wsL_law_r27, w ∈ lw_tbl := fun w h => (goodIn_r wsL_law_r27 [479, 480, 481, 482, 483, 485, 9, 486, 818, 819, 820, 821, 822, 824, 30, 825, 487, 488, 489, 490, 491, 493, 10, 494] (by decide +kernel) (by decide +kernel) w h).1
set_option maxRecDepth 20000 in
theorem lin_r28 : ∀ w ∈ wsL_law_r28, w ∈ lw_tbl := fun w h => (goodIn_r wsL_law_r28 [826, 827, 828, 829, 495, 496, 497, 498, 499, 501, 11, 502, 503, 504, 506, 12, 507, 508, 510, 13, 511, 512, 513, 514] (by decide +kernel) (by decide +kernel) w h).1
set_option maxRecDepth 20000 in
theorem lin_r29 : ∀ w ∈ wsL_law_r29, w ∈ lw_tbl := fun w h => (goodIn_r wsL_law_r29 [830, 831, 832, 833, 834, 835, 837, 31, 838, 515, 516, 517, 518, 839, 840, 841, 842, 571, 519, 520, 521, 522, 523, 525] (by decide +kernel) (by decide +kernel) w h).1
set_option maxRecDepth 20000 in
theorem lin_r30 : ∀ w ∈ wsL_law_r30, w ∈ lw_tbl := fun w h => (goodIn_r wsL_law_r30 [14, 526, 527, 528, 529, 530, 531, 532, 843, 844, 845, 846, 847, 848, 849, 850, 851, 852, 854, 32, 855, 533, 534, 535] (by decide +kernel) (by decide +kernel) w h).1
set_option maxRecDepth 20000 in
theorem lin_r31 : ∀ w ∈ wsL_law_r31, w ∈ lw_tbl := fun w h => (goodIn_r wsL_law_r31 [536, 856, 857, 858, 859, 537, 538, 539, 540, 860, 861, 862, 863, 541, 542, 543, 544, 545, 547, 15, 548, 864, 865, 866] (by decide +kernel) (by decide +kernel) w h).1
set_option maxRecDepth 20000 in
theorem lin_r32 : ∀ w ∈ wsL_law_r32, w ∈ lw_tbl := fun w h => (goodIn_r wsL_law_r32 [867] (by decide +kernel) (by decide +kernel) w h).1
set_option maxRecDepth 20000 in
theorem inX0 : ∀ w ∈ wsX00, w ∈ lw_tbl := fun w h => (goodIn_r wsX00 [112, 114] (by decide +kernel) (by decide +kernel) w h).1
set_option maxRecDepth 20000 in
theorem inX1 : ∀ w ∈ wsX10, w ∈ lw_tbl := fun w h => (goodIn_r wsX10 [88, 90, 92, 94, 96, 98, 100] (by decide +kernel) (by decide +kernel) w h).1
set_option maxRecDepth 20000 in
theorem inX2 : ∀ w ∈ wsX20, w ∈ lw_tbl := fun w h => (goodIn_r wsX20 [62, 64] (by decide +kernel) (by decide +kernel) w h).1
set_option maxRecDepth 20000 in
theorem inX3 : ∀ w ∈ wsX30, w ∈ lw_tbl := fun w h => (goodIn_r wsX30 [125] (by decide +kernel) (by decide +kernel) w h).1
set_option maxRecDepth 20000 in
theorem inX5 : ∀ w ∈ wsX50, w ∈ lw_tbl := fun w h => (goodIn_r wsX50 [137, 139, 141, 143, 145, 147, 149, 151, 153] (by decide +kernel) (by decide +kernel) w h).1
set_option maxRecDepth 20000 in
theorem inX6 : ∀ w ∈ wsX60, w ∈ lw_tbl := fun w h => (goodIn_r wsX60 [574, 576, 578, 580, 582, 584, 586, 588, 590, 592, 594, 596, 598, 600, 602, 604, 606, 608, 610] (by decide +kernel) (by decide +kernel) w h).1
theorem al_app {p : Cond → Prop} {a b : List Cond} (ha : ∀ w ∈ a, p w) (hb : ∀ w ∈ b, p w) : ∀ w ∈ a ++ b, p w := fun w h => (List.mem_append.mp h).elim (ha w) (hb w)
theorem wsL_law_in : ∀ w ∈ wsL_law, w ∈ lw_tbl := (al_app (al_app (al_app (al_app (al_app (al_app (al_app (al_app lin_r1 (al_app lin_r2 (al_app lin_r3 (al_app lin_r4 (al_app lin_r5 (al_app lin_r6 (al_app lin_r7 (al_app lin_r8 (al_app lin_r9 (al_app lin_r10 (al_app lin_r11 (al_app lin_r12 (al_app lin_r13 (al_app lin_r14 (al_app lin_r15 (al_app lin_r16 (al_app lin_r17 (al_app lin_r18 (al_app lin_r19 (al_app lin_r20 (al_app lin_r21 (al_app lin_r22 (al_app lin_r23 (al_app lin_r24 (al_app lin_r25 (al_app lin_r26 (al_app lin_r27 (al_app lin_r28 (al_app lin_r29 (al_app lin_r30 (al_app lin_r31 lin_r32))))))))))))))))))))))))))))))) inX5) inX6) inX2) inX1) inX0) inX3) (fun _ h => absurd h List.not_mem_nil))
