theorem mem_r {big ws : List Cond} (ps : List Nat) (hp : ws = ps.filterMap (fun i => big[i]?)) : ∀ w ∈ ws, w ∈ big := by
  intro w hw
  rw [hp] at hw
  obtain ⟨i, -, hi⟩ := List.mem_filterMap.mp hw
  exact List.mem_of_getElem? hi
set_option maxRecDepth 20000 in
theorem wl_1 : ∀ w ∈ wsL_law_r1, w ∈ lw_tbl := mem_r [69, 70, 58, 706, 707, 66, 71, 72, 73, 74, 75, 76, 77, 78, 59, 222, 99, 100, 60, 223, 224, 225, 147, 226] (by decide +kernel)
set_option maxRecDepth 20000 in
theorem wl_2 : ∀ w ∈ wsL_law_r2, w ∈ lw_tbl := mem_r [128, 129, 61, 227, 148, 149, 62, 228, 168, 169, 63, 229, 183, 184, 64, 230, 211, 212, 65, 231, 80, 81, 82, 98] (by decide +kernel)
set_option maxRecDepth 20000 in
theorem wl_3 : ∀ w ∈ wsL_law_r3, w ∈ lw_tbl := mem_r [83, 102, 103, 104, 105, 130, 131, 132, 133, 134, 136, 151, 152, 153, 154, 171, 172, 173, 174, 176, 177, 186, 187, 188] (by decide +kernel)
set_option maxRecDepth 20000 in
theorem wl_4 : ∀ w ∈ wsL_law_r4, w ∈ lw_tbl := mem_r [191, 192, 195, 196, 189, 197, 214, 215, 216, 708, 709, 710, 711, 712, 715, 716, 719, 720, 726, 729, 730, 731, 733, 253] (by decide +kernel)
set_option maxRecDepth 20000 in
theorem wl_5 : ∀ w ∈ wsL_law_r5, w ∈ lw_tbl := mem_r [254, 255, 256, 257, 258, 259, 260, 261, 262, 263, 84, 264, 265, 266, 267, 268, 779, 780, 781, 782, 717, 783, 784, 785] (by decide +kernel)
set_option maxRecDepth 20000 in
theorem wl_6 : ∀ w ∈ wsL_law_r6, w ∈ lw_tbl := mem_r [269, 270, 271, 272, 273, 274, 275, 276, 786, 787, 788, 789, 277, 278, 279, 280, 281, 282, 283, 284, 86, 88, 285, 286] (by decide +kernel)
set_option maxRecDepth 20000 in
theorem wl_7 : ∀ w ∈ wsL_law_r7, w ∈ lw_tbl := mem_r [287, 288, 107, 110, 114, 289, 291, 0, 292, 293, 295, 1, 296, 297, 299, 2, 300, 301, 302, 303, 304, 305, 306, 307] (by decide +kernel)
set_option maxRecDepth 20000 in
theorem wl_8 : ∀ w ∈ wsL_law_r8, w ∈ lw_tbl := mem_r [308, 310, 3, 311, 317, 318, 67, 319, 312, 314, 4, 315, 320, 321, 322, 323, 324, 325, 326, 327, 328, 329, 330, 331] (by decide +kernel)
set_option maxRecDepth 20000 in
theorem wl_9 : ∀ w ∈ wsL_law_r9, w ∈ lw_tbl := mem_r [332, 333, 335, 336, 337, 338, 339, 340, 341, 342, 343, 344, 345, 346, 347, 348, 349, 350, 351, 352, 138, 353, 354, 355] (by decide +kernel)
set_option maxRecDepth 20000 in
theorem wl_10 : ∀ w ∈ wsL_law_r10, w ∈ lw_tbl := mem_r [356, 193, 790, 791, 792, 793, 722, 725, 713, 727, 728, 714, 718, 794, 796, 25, 797, 723, 798, 800, 26, 801, 802, 804] (by decide +kernel)
set_option maxRecDepth 20000 in
theorem wl_11 : ∀ w ∈ wsL_law_r11, w ∈ lw_tbl := mem_r [27, 805, 806, 808, 28, 809, 810, 812, 29, 813, 814, 816, 30, 817, 724, 818, 820, 31, 821, 822, 824, 32, 825, 826] (by decide +kernel)
set_option maxRecDepth 20000 in
theorem wl_12 : ∀ w ∈ wsL_law_r12, w ∈ lw_tbl := mem_r [827, 828, 357, 358, 359, 360, 361, 362, 363, 364, 365, 366, 367, 368, 369, 370, 372, 5, 373, 374, 375, 376, 377, 378] (by decide +kernel)
set_option maxRecDepth 20000 in
theorem wl_13 : ∀ w ∈ wsL_law_r13, w ∈ lw_tbl := mem_r [379, 380, 381, 382, 155, 157, 158, 383, 385, 386, 387, 388, 389, 391, 6, 392, 393, 394, 395, 396, 397, 399, 7, 400] (by decide +kernel)
set_option maxRecDepth 20000 in
theorem wl_14 : ∀ w ∈ wsL_law_r14, w ∈ lw_tbl := mem_r [829, 830, 831, 832, 833, 835, 33, 836, 837, 839, 34, 840, 841, 843, 35, 844, 845, 847, 36, 848, 849, 851, 37, 852] (by decide +kernel)
set_option maxRecDepth 20000 in
theorem wl_15 : ∀ w ∈ wsL_law_r15, w ∈ lw_tbl := mem_r [853, 855, 38, 856, 857, 859, 39, 860, 401, 402, 403, 404, 405, 406, 861, 862, 863, 864, 865, 867, 40, 868, 407, 408] (by decide +kernel)
set_option maxRecDepth 20000 in
theorem wl_16 : ∀ w ∈ wsL_law_r16, w ∈ lw_tbl := mem_r [409, 410, 411, 412, 869, 870, 871, 872, 873, 413, 414, 415, 416, 417, 419, 8, 420, 421, 422, 423, 424, 425, 426, 427] (by decide +kernel)
set_option maxRecDepth 20000 in
theorem wl_17 : ∀ w ∈ wsL_law_r17, w ∈ lw_tbl := mem_r [428, 429, 431, 9, 432, 433, 434, 435, 436, 437, 438, 439, 440, 441, 442, 443, 444, 445, 446, 447, 448, 449, 450, 451] (by decide +kernel)
set_option maxRecDepth 20000 in
theorem wl_18 : ∀ w ∈ wsL_law_r18, w ∈ lw_tbl := mem_r [452, 453, 454, 455, 456, 461, 457, 458, 459, 460, 462, 463, 464, 465, 466, 468, 10, 469, 470, 472, 11, 473, 475, 476] (by decide +kernel)
set_option maxRecDepth 20000 in
theorem wl_19 : ∀ w ∈ wsL_law_r19, w ∈ lw_tbl := mem_r [477, 474, 874, 875, 876, 877, 878, 880, 41, 881, 882, 884, 42, 885, 886, 887, 889, 43, 890, 891, 893, 44, 894, 895] (by decide +kernel)
set_option maxRecDepth 20000 in
theorem wl_20 : ∀ w ∈ wsL_law_r20, w ∈ lw_tbl := mem_r [897, 45, 898, 899, 900, 902, 46, 903, 904, 906, 47, 907, 478, 479, 480, 481, 482, 483, 484, 485, 137, 487, 486, 488] (by decide +kernel)
set_option maxRecDepth 20000 in
theorem wl_21 : ∀ w ∈ wsL_law_r21, w ∈ lw_tbl := mem_r [489, 490, 491, 908, 909, 910, 911, 912, 914, 48, 915, 916, 918, 49, 919, 492, 493, 494, 495, 496, 497, 498, 499, 500] (by decide +kernel)
set_option maxRecDepth 20000 in
theorem wl_22 : ∀ w ∈ wsL_law_r22, w ∈ lw_tbl := mem_r [501, 502, 503, 504, 920, 921, 922, 923, 505, 506, 507, 508, 509, 510, 511, 512, 513, 515, 12, 516, 924, 925, 926, 927] (by decide +kernel)
set_option maxRecDepth 20000 in
theorem wl_23 : ∀ w ∈ wsL_law_r23, w ∈ lw_tbl := mem_r [928, 930, 50, 931, 517, 518, 519, 520, 521, 522, 523, 524, 932, 933, 934, 935, 525, 526, 527, 528, 529, 530, 531, 532] (by decide +kernel)
set_option maxRecDepth 20000 in
theorem wl_24 : ∀ w ∈ wsL_law_r24, w ∈ lw_tbl := mem_r [533, 535, 13, 536, 537, 538, 539, 540, 541, 542, 68, 543, 544, 545, 546, 547, 549, 14, 550, 551, 553, 15, 554, 555] (by decide +kernel)
set_option maxRecDepth 20000 in
theorem wl_25 : ∀ w ∈ wsL_law_r25, w ∈ lw_tbl := mem_r [936, 937, 938, 939, 940, 941, 942, 556, 557, 558, 559, 943, 944, 945, 946, 560, 561, 562, 563, 564, 565, 566, 567, 947] (by decide +kernel)
set_option maxRecDepth 20000 in
theorem wl_26 : ∀ w ∈ wsL_law_r26, w ∈ lw_tbl := mem_r [948, 949, 950, 568, 569, 570, 571, 572, 573, 574, 575, 577, 578, 579, 580, 581, 582, 583, 584, 585, 586, 587, 588, 589] (by decide +kernel)
set_option maxRecDepth 20000 in
theorem wl_27 : ∀ w ∈ wsL_law_r27, w ∈ lw_tbl := mem_r [951, 952, 953, 954, 590, 591, 592, 593, 594, 595, 596, 597, 598, 599, 600, 601, 602, 603, 955, 956, 957, 958, 604, 605] (by decide +kernel)
set_option maxRecDepth 20000 in
theorem wl_28 : ∀ w ∈ wsL_law_r28, w ∈ lw_tbl := mem_r [606, 607, 959, 960, 961, 962, 608, 609, 610, 611, 612, 613, 614, 615, 616, 617, 619, 16, 620, 621, 622, 623, 624, 625] (by decide +kernel)
set_option maxRecDepth 20000 in
theorem wl_29 : ∀ w ∈ wsL_law_r29, w ∈ lw_tbl := mem_r [626, 627, 963, 964, 965, 966, 732, 967, 969, 51, 970, 971, 973, 52, 974, 975, 977, 53, 978, 628, 629, 630, 631, 632] (by decide +kernel)
set_option maxRecDepth 20000 in
theorem wl_30 : ∀ w ∈ wsL_law_r30, w ∈ lw_tbl := mem_r [633, 634, 635, 636, 637, 638, 640, 17, 641, 647, 642, 644, 18, 645, 979, 980, 981, 982, 648, 649, 650, 651, 652, 653] (by decide +kernel)
set_option maxRecDepth 20000 in
theorem wl_31 : ∀ w ∈ wsL_law_r31, w ∈ lw_tbl := mem_r [654, 655, 689, 656, 658, 19, 659, 217, 660, 661, 663, 20, 664, 665, 666, 667, 669, 21, 670, 671, 672, 673, 675, 22] (by decide +kernel)
set_option maxRecDepth 20000 in
theorem wl_32 : ∀ w ∈ wsL_law_r32, w ∈ lw_tbl := mem_r [676, 677, 678, 680, 23, 681, 682, 683, 685, 24, 686, 687, 688, 983, 984, 985, 986, 721, 1002, 1003, 1004, 987, 989, 54] (by decide +kernel)
set_option maxRecDepth 20000 in
theorem wl_33 : ∀ w ∈ wsL_law_r33, w ∈ lw_tbl := mem_r [990, 991, 992, 994, 55, 995, 996, 997, 999, 56, 1000, 1001, 690, 691, 692, 693, 1005, 1006, 1007, 1008, 694, 695, 696, 697] (by decide +kernel)
set_option maxRecDepth 20000 in
theorem wl_34 : ∀ w ∈ wsL_law_r34, w ∈ lw_tbl := mem_r [1009, 1010, 1011, 1012, 698, 699, 700, 701, 1013, 1014, 1015, 1016, 702, 703, 704, 705, 1017, 1018, 1019, 1020] (by decide +kernel)
set_option maxRecDepth 20000 in
theorem wc_7 : ∀ w ∈ wsX70, w ∈ lw_tbl := mem_r [232, 234, 236, 238, 240, 242, 244, 246, 248, 250] (by decide +kernel)
set_option maxRecDepth 20000 in
theorem wc_8 : ∀ w ∈ wsX80, w ∈ lw_tbl := mem_r [734, 736, 738, 740, 742, 744, 746, 748, 750, 752, 754, 756, 758, 760, 762, 764, 766, 768, 770, 772, 774, 776] (by decide +kernel)
set_option maxRecDepth 20000 in
theorem wc_6 : ∀ w ∈ wsX60, w ∈ lw_tbl := mem_r [89, 91, 93, 95] (by decide +kernel)
set_option maxRecDepth 20000 in
theorem wc_5 : ∀ w ∈ wsX50, w ∈ lw_tbl := mem_r [118, 120, 122, 124] (by decide +kernel)
set_option maxRecDepth 20000 in
theorem wc_1 : ∀ w ∈ wsX10, w ∈ lw_tbl := mem_r [140, 142, 144] (by decide +kernel)
set_option maxRecDepth 20000 in
theorem wc_2 : ∀ w ∈ wsX20, w ∈ lw_tbl := mem_r [159, 161, 163, 165] (by decide +kernel)
set_option maxRecDepth 20000 in
theorem wc_0 : ∀ w ∈ wsX00, w ∈ lw_tbl := mem_r [178, 180] (by decide +kernel)
set_option maxRecDepth 20000 in
theorem wc_4 : ∀ w ∈ wsX40, w ∈ lw_tbl := mem_r [198, 200, 202, 204, 206, 208] (by decide +kernel)
set_option maxRecDepth 20000 in
theorem wc_3 : ∀ w ∈ wsX30, w ∈ lw_tbl := mem_r [219] (by decide +kernel)
theorem wsL_law_in : ∀ w ∈ wsL_law, w ∈ lw_tbl := List.forall_mem_append.mpr ⟨List.forall_mem_append.mpr ⟨List.forall_mem_append.mpr ⟨List.forall_mem_append.mpr ⟨List.forall_mem_append.mpr ⟨List.forall_mem_append.mpr ⟨List.forall_mem_append.mpr ⟨List.forall_mem_append.mpr ⟨List.forall_mem_append.mpr ⟨List.forall_mem_append.mpr ⟨List.forall_mem_append.mpr ⟨wl_1, List.forall_mem_append.mpr ⟨wl_2, List.forall_mem_append.mpr ⟨wl_3, List.forall_mem_append.mpr ⟨wl_4, List.forall_mem_append.mpr ⟨wl_5, List.forall_mem_append.mpr ⟨wl_6, List.forall_mem_append.mpr ⟨wl_7, List.forall_mem_append.mpr ⟨wl_8, List.forall_mem_append.mpr ⟨wl_9, List.forall_mem_append.mpr ⟨wl_10, List.forall_mem_append.mpr ⟨wl_11, List.forall_mem_append.mpr ⟨wl_12, List.forall_mem_append.mpr ⟨wl_13, List.forall_mem_append.mpr ⟨wl_14, List.forall_mem_append.mpr ⟨wl_15, List.forall_mem_append.mpr ⟨wl_16, List.forall_mem_append.mpr ⟨wl_17, List.forall_mem_append.mpr ⟨wl_18, List.forall_mem_append.mpr ⟨wl_19, List.forall_mem_append.mpr ⟨wl_20, List.forall_mem_append.mpr ⟨wl_21, List.forall_mem_append.mpr ⟨wl_22, List.forall_mem_append.mpr ⟨wl_23, List.forall_mem_append.mpr ⟨wl_24, List.forall_mem_append.mpr ⟨wl_25, List.forall_mem_append.mpr ⟨wl_26, List.forall_mem_append.mpr ⟨wl_27, List.forall_mem_append.mpr ⟨wl_28, List.forall_mem_append.mpr ⟨wl_29, List.forall_mem_append.mpr ⟨wl_30, List.forall_mem_append.mpr ⟨wl_31, List.forall_mem_append.mpr ⟨wl_32, List.forall_mem_append.mpr ⟨wl_33, wl_34⟩⟩⟩⟩⟩⟩⟩⟩⟩⟩⟩⟩⟩⟩⟩⟩⟩⟩⟩⟩⟩⟩⟩⟩⟩⟩⟩⟩⟩⟩⟩⟩⟩, wc_7⟩, wc_8⟩, wc_6⟩, wc_5⟩, wc_1⟩, wc_2⟩, wc_0⟩, wc_4⟩, wc_3⟩, fun _ h => absurd h List.not_mem_nil⟩
theorem NW_law {s : State} {args : Array Value} (hts : ∀ w ∈ lw_tbl, w.before args s = true) : NW s := ⟨⟨va_Nw.of rfl (hts _ (List.mem_of_getElem? (i := 79) (by decide +kernel))), va_Nw.of rfl (hts _ (List.mem_of_getElem? (i := 85) (by decide +kernel))), va_Nw.of rfl (hts _ (List.mem_of_getElem? (i := 87) (by decide +kernel))), va_Nw.of rfl (hts _ (List.mem_of_getElem? (i := 101) (by decide +kernel))), va_Nw.of rfl (hts _ (List.mem_of_getElem? (i := 106) (by decide +kernel))), va_Nw.of rfl (hts _ (List.mem_of_getElem? (i := 108) (by decide +kernel))), va_Nw.of rfl (hts _ (List.mem_of_getElem? (i := 109) (by decide +kernel))), va_Nw.of rfl (hts _ (List.mem_of_getElem? (i := 111) (by decide +kernel))), va_Nw.of rfl (hts _ (List.mem_of_getElem? (i := 112) (by decide +kernel))), va_Nw.of rfl (hts _ (List.mem_of_getElem? (i := 113) (by decide +kernel))), va_Nw.of rfl (hts _ (List.mem_of_getElem? (i := 115) (by decide +kernel))), va_Nw.of rfl (hts _ (List.mem_of_getElem? (i := 116) (by decide +kernel))), va_Nw.of rfl (hts _ (List.mem_of_getElem? (i := 117) (by decide +kernel))), va_Nw.of rfl (hts _ (List.mem_of_getElem? (i := 135) (by decide +kernel))), va_Nw.of rfl (hts _ (List.mem_of_getElem? (i := 139) (by decide +kernel))), va_Nw.of rfl (hts _ (List.mem_of_getElem? (i := 150) (by decide +kernel))), va_Nw.of rfl (hts _ (List.mem_of_getElem? (i := 156) (by decide +kernel))), va_Nw.of rfl (hts _ (List.mem_of_getElem? (i := 170) (by decide +kernel))), va_Nw.of rfl (hts _ (List.mem_of_getElem? (i := 175) (by decide +kernel))), va_Nw.of rfl (hts _ (List.mem_of_getElem? (i := 185) (by decide +kernel))), va_Nw.of rfl (hts _ (List.mem_of_getElem? (i := 190) (by decide +kernel))), va_Nw.of rfl (hts _ (List.mem_of_getElem? (i := 194) (by decide +kernel))), va_Nw.of rfl (hts _ (List.mem_of_getElem? (i := 213) (by decide +kernel))), va_Nw.of rfl (hts _ (List.mem_of_getElem? (i := 218) (by decide +kernel))), va_Nw.of rfl (hts _ (List.mem_of_getElem? (i := 316) (by decide +kernel))), va_Nw.of rfl (hts _ (List.mem_of_getElem? (i := 334) (by decide +kernel))), va_Nw.of rfl (hts _ (List.mem_of_getElem? (i := 384) (by decide +kernel))), va_Nw.of rfl (hts _ (List.mem_of_getElem? (i := 576) (by decide +kernel))), va_Nw.of rfl (hts _ (List.mem_of_getElem? (i := 646) (by decide +kernel)))⟩, va_AO.of (hts _ (List.mem_of_getElem? (i := 127) (by decide +kernel)))⟩
