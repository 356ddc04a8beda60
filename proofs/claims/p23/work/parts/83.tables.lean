/-! THE TABLES hold each word of the law's list, by its place. Laid by wip/p23/mktbl.py -/
theorem tbl_of {ws : List Cond} (ps : List Nat) (h : ps.map (fun i => lw_tbl[i]?) = ws.map some) : ∀ w ∈ ws, w ∈ lw_tbl := by
  intro w hw
  have h1 : some w ∈ ws.map some := List.mem_map.mpr ⟨w, hw, rfl⟩
  rw [← h] at h1
  obtain ⟨i, _, hi⟩ := List.mem_map.mp h1
  exact List.mem_of_getElem? hi
set_option maxRecDepth 100000 in
theorem tb_wsL_law0_r1 : ∀ w ∈ wsL_law0_r1, w ∈ lw_tbl := tbl_of [66, 67, 46, 102, 68, 69, 70, 71, 72, 73, 74, 75, 47, 326, 103, 104, 48, 327, 138, 139, 49, 328, 174, 175] (by decide +kernel)
set_option maxRecDepth 100000 in
theorem tb_wsL_law0_r2 : ∀ w ∈ wsL_law0_r2, w ∈ lw_tbl := tbl_of [50, 329, 330, 331, 332, 333, 77, 78, 79, 80, 84, 85, 105, 106, 107, 108, 110, 113, 116, 117, 118, 119, 120, 109] (by decide +kernel)
set_option maxRecDepth 100000 in
theorem tb_wsL_law0_r3 : ∀ w ∈ wsL_law0_r3, w ∈ lw_tbl := tbl_of [140, 141, 142, 143, 145, 147, 149, 151, 153, 144, 176, 177, 178, 179, 180, 306, 299, 301, 302, 182, 183, 51, 304, 199] (by decide +kernel)
set_option maxRecDepth 100000 in
theorem tb_wsL_law0_r4 : ∀ w ∈ wsL_law0_r4, w ∈ lw_tbl := tbl_of [52, 307, 308, 267, 268, 54, 303, 184, 185, 186, 187, 188, 189, 200, 201, 202, 203, 204, 217, 265, 221, 223, 227, 266] (by decide +kernel)
set_option maxRecDepth 100000 in
theorem tb_wsL_law0_r5 : ∀ w ∈ wsL_law0_r5, w ∈ lw_tbl := tbl_of [231, 233, 235, 238, 241, 206, 208, 0, 209, 210, 211, 53, 212, 213, 269, 270, 271, 272, 273, 275, 276, 278, 279, 280] (by decide +kernel)
set_option maxRecDepth 100000 in
theorem tb_wsL_law0_r6 : ∀ w ∈ wsL_law0_r6, w ∈ lw_tbl := tbl_of [281, 274, 913, 914, 45, 915, 916, 909, 910, 911, 912, 360, 361, 362, 363, 364, 58, 89, 432, 434, 2, 435, 436, 437] (by decide +kernel)
set_option maxRecDepth 100000 in
theorem tb_wsL_law0_r7 : ∀ w ∈ wsL_law0_r7, w ∈ lw_tbl := tbl_of [438, 439, 90, 440, 442, 3, 443, 86, 444, 445, 59, 446, 447, 448, 449, 450, 451, 453, 4, 454, 455, 456, 60, 457] (by decide +kernel)
set_option maxRecDepth 100000 in
theorem tb_wsL_law0_r8 : ∀ w ∈ wsL_law0_r8, w ∈ lw_tbl := tbl_of [458, 459, 460, 461, 462, 463, 464, 465, 466, 467, 468, 469, 470, 471, 473, 5, 474, 475, 477, 6, 478, 83, 479, 480] (by decide +kernel)
set_option maxRecDepth 100000 in
theorem tb_wsL_law0_r9 : ∀ w ∈ wsL_law0_r9, w ∈ lw_tbl := tbl_of [481, 482, 483, 484, 61, 485, 486, 488, 7, 489, 490, 491, 492, 493, 494, 495, 496, 498, 8, 499, 500, 501, 502, 503] (by decide +kernel)
set_option maxRecDepth 100000 in
theorem tb_wsL_law0_r10 : ∀ w ∈ wsL_law0_r10, w ∈ lw_tbl := tbl_of [505, 9, 506, 507, 508, 509, 510, 92, 511, 513, 10, 514, 87, 515, 516, 517, 518, 520, 11, 521, 522, 524, 12, 525] (by decide +kernel)
set_option maxRecDepth 100000 in
theorem tb_wsL_law0_r11 : ∀ w ∈ wsL_law0_r11, w ∈ lw_tbl := tbl_of [157, 526, 528, 13, 529, 530, 532, 14, 533, 923, 924, 925, 926, 844, 845, 846, 150, 88, 152, 146, 729, 731, 38, 732] (by decide +kernel)
set_option maxRecDepth 100000 in
theorem tb_wsL_law0_r12 : ∀ w ∈ wsL_law0_r12, w ∈ lw_tbl := tbl_of [733, 62, 538, 539, 540, 541, 63, 847, 771, 772, 773, 774, 848, 575, 576, 849, 850, 851, 852, 853, 854, 64, 855, 856] (by decide +kernel)
set_option maxRecDepth 100000 in
theorem tb_wsL_law0_r13 : ∀ w ∈ wsL_law0_r13, w ∈ lw_tbl := tbl_of [857, 858, 557, 558, 559, 560, 561, 563, 15, 564, 216, 565, 566, 568, 16, 569, 570, 571, 572, 573, 574, 577, 579, 17] (by decide +kernel)
set_option maxRecDepth 100000 in
theorem tb_wsL_law0_r14 : ∀ w ∈ wsL_law0_r14, w ∈ lw_tbl := tbl_of [580, 219, 581, 582, 583, 584, 585, 586, 587, 588, 589, 222, 590, 591, 593, 18, 594, 112, 225, 927, 928, 929, 930, 82] (by decide +kernel)
set_option maxRecDepth 100000 in
theorem tb_wsL_law0_r15 : ∀ w ∈ wsL_law0_r15, w ∈ lw_tbl := tbl_of [812, 931, 932, 933, 934, 936, 937, 938, 939, 940, 941, 942, 943, 947, 948, 949, 950, 951, 952, 953, 954, 955, 956, 957] (by decide +kernel)
set_option maxRecDepth 100000 in
theorem tb_wsL_law0_r16 : ∀ w ∈ wsL_law0_r16, w ∈ lw_tbl := tbl_of [959, 960, 961, 794, 795, 796, 797, 798, 799, 800, 801, 802, 632, 633, 634, 635, 637, 636, 65, 91, 803, 804, 805, 806] (by decide +kernel)
set_option maxRecDepth 100000 in
theorem tb_wsL_law0_r17 : ∀ w ∈ wsL_law0_r17, w ∈ lw_tbl := tbl_of [156, 154, 783, 807, 596, 597, 598, 190, 599, 601, 19, 602, 193, 603, 604, 605, 606, 607, 609, 20, 610, 191, 611, 612] (by decide +kernel)
set_option maxRecDepth 100000 in
theorem tb_wsL_law0_r18 : ∀ w ∈ wsL_law0_r18, w ∈ lw_tbl := tbl_of [613, 614, 615, 617, 21, 618, 619, 621, 22, 622, 623, 624, 625, 626, 627, 628, 629, 630, 214, 638, 631, 639, 640, 641] (by decide +kernel)
set_option maxRecDepth 100000 in
theorem tb_wsL_law0_r19 : ∀ w ∈ wsL_law0_r19, w ∈ lw_tbl := tbl_of [642, 644, 23, 645, 646, 647, 648, 649, 650, 651, 652, 653, 215, 277, 228, 654, 655, 657, 24, 658, 218, 81, 232, 659] (by decide +kernel)
set_option maxRecDepth 100000 in
theorem tb_wsL_law0_r20 : ∀ w ∈ wsL_law0_r20, w ∈ lw_tbl := tbl_of [660, 661, 662, 663, 664, 666, 25, 667, 114, 668, 670, 26, 671, 673, 674, 675, 677, 27, 678, 679, 681, 28, 682, 683] (by decide +kernel)
set_option maxRecDepth 100000 in
theorem tb_wsL_law0_r21 : ∀ w ∈ wsL_law0_r21, w ∈ lw_tbl := tbl_of [685, 29, 686, 687, 689, 30, 690, 691, 693, 31, 694, 234, 236, 695, 697, 32, 698, 699, 701, 33, 702, 703, 704, 705] (by decide +kernel)
set_option maxRecDepth 100000 in
theorem tb_wsL_law0_r22 : ∀ w ∈ wsL_law0_r22, w ∈ lw_tbl := tbl_of [706, 708, 34, 709, 710, 712, 35, 713, 240, 242, 714, 716, 36, 717, 226, 718, 719, 816, 817, 818, 819, 820, 821, 822] (by decide +kernel)
set_option maxRecDepth 100000 in
theorem tb_wsL_law0_r23 : ∀ w ∈ wsL_law0_r23, w ∈ lw_tbl := tbl_of [823, 148, 824, 826, 41, 827, 762, 763, 764, 765, 158, 305, 192, 334, 335, 336, 766, 767, 768, 769, 770, 775, 776, 777] (by decide +kernel)
set_option maxRecDepth 100000 in
theorem tb_wsL_law0_r24 : ∀ w ∈ wsL_law0_r24, w ∈ lw_tbl := tbl_of [778, 779, 780, 781, 782, 784, 785, 786, 787, 788, 789, 790, 791, 229, 792, 754, 755, 756, 793, 534, 535, 536, 537, 155] (by decide +kernel)
set_option maxRecDepth 100000 in
theorem tb_wsL_law0_r25 : ∀ w ∈ wsL_law0_r25, w ∈ lw_tbl := tbl_of [595, 720, 722, 37, 723, 724, 828, 829, 830, 831, 917, 918, 919, 921, 920, 888, 889, 890, 220, 230, 224, 237, 239, 753] (by decide +kernel)
set_option maxRecDepth 100000 in
theorem tb_wsL_law0_r26 : ∀ w ∈ wsL_law0_r26, w ∈ lw_tbl := tbl_of [884, 885, 886, 891, 892, 893, 894, 869, 870, 871, 725, 726, 727, 728, 749, 751, 39, 752, 757, 243, 758, 760, 40, 761] (by decide +kernel)
set_option maxRecDepth 100000 in
theorem tb_wsL_law0_r27 : ∀ w ∈ wsL_law0_r27, w ∈ lw_tbl := tbl_of [922, 897, 898, 899, 900, 902, 44, 903, 904, 832, 833, 834, 835, 836, 837, 838, 839, 841, 42, 842, 843, 859, 860, 861] (by decide +kernel)
set_option maxRecDepth 100000 in
theorem tb_wsL_law0_r28 : ∀ w ∈ wsL_law0_r28, w ∈ lw_tbl := tbl_of [862, 863, 864, 865, 866, 867, 868, 872, 874, 43, 875, 876, 877, 878, 879, 115, 880, 881, 882, 883, 111, 887, 895, 896] (by decide +kernel)
set_option maxRecDepth 100000 in
theorem tb_wsL_law0_r29 : ∀ w ∈ wsL_law0_r29, w ∈ lw_tbl := tbl_of [906, 907, 908, 808, 809, 810, 811, 300, 813, 814, 815] (by decide +kernel)
set_option maxRecDepth 100000 in
theorem tb_X10 : ∀ w ∈ wsX100, w ∈ lw_tbl := tbl_of [337, 339, 341, 343, 345, 347, 349, 351, 353, 355, 357] (by decide +kernel)
set_option maxRecDepth 100000 in
theorem tb_X8 : ∀ w ∈ wsX80, w ∈ lw_tbl := tbl_of [93, 95, 97, 99] (by decide +kernel)
set_option maxRecDepth 100000 in
theorem tb_X4 : ∀ w ∈ wsX40, w ∈ lw_tbl := tbl_of [121, 123, 125, 127, 129, 131, 133, 135] (by decide +kernel)
set_option maxRecDepth 100000 in
theorem tb_X6 : ∀ w ∈ wsX60, w ∈ lw_tbl := tbl_of [159, 161, 163, 165, 167, 169, 171] (by decide +kernel)
set_option maxRecDepth 100000 in
theorem tb_X9 : ∀ w ∈ wsX90, w ∈ lw_tbl := tbl_of [309, 311, 313, 315, 317, 319, 321, 323] (by decide +kernel)
set_option maxRecDepth 100000 in
theorem tb_X7 : ∀ w ∈ wsX70, w ∈ lw_tbl := tbl_of [194, 196] (by decide +kernel)
set_option maxRecDepth 100000 in
theorem tb_X5 : ∀ w ∈ wsX50, w ∈ lw_tbl := tbl_of [244, 246, 248, 250, 252, 254, 256, 258, 260, 262] (by decide +kernel)
set_option maxRecDepth 100000 in
theorem tb_X3 : ∀ w ∈ wsX30, w ∈ lw_tbl := tbl_of [282, 284, 286, 288, 290, 292, 294, 296] (by decide +kernel)
theorem tb_app {a b : List Cond} (ha : ∀ w ∈ a, w ∈ lw_tbl) (hb : ∀ w ∈ b, w ∈ lw_tbl) : ∀ w ∈ a ++ b, w ∈ lw_tbl := fun w h => (List.mem_append.mp h).elim (ha w) (hb w)
theorem tb_NIL : ∀ w ∈ ([] : List Cond), w ∈ lw_tbl := fun _ h => absurd h List.not_mem_nil
theorem wL_tbl : ∀ w ∈ wL, w ∈ lw_tbl := (tb_app (tb_app (tb_app (tb_app (tb_app (tb_app (tb_app (tb_app (tb_app (tb_app tb_wsL_law0_r1 (tb_app tb_wsL_law0_r2 (tb_app tb_wsL_law0_r3 (tb_app tb_wsL_law0_r4 (tb_app tb_wsL_law0_r5 (tb_app tb_wsL_law0_r6 (tb_app tb_wsL_law0_r7 (tb_app tb_wsL_law0_r8 (tb_app tb_wsL_law0_r9 (tb_app tb_wsL_law0_r10 (tb_app tb_wsL_law0_r11 (tb_app tb_wsL_law0_r12 (tb_app tb_wsL_law0_r13 (tb_app tb_wsL_law0_r14 (tb_app tb_wsL_law0_r15 (tb_app tb_wsL_law0_r16 (tb_app tb_wsL_law0_r17 (tb_app tb_wsL_law0_r18 (tb_app tb_wsL_law0_r19 (tb_app tb_wsL_law0_r20 (tb_app tb_wsL_law0_r21 (tb_app tb_wsL_law0_r22 (tb_app tb_wsL_law0_r23 (tb_app tb_wsL_law0_r24 (tb_app tb_wsL_law0_r25 (tb_app tb_wsL_law0_r26 (tb_app tb_wsL_law0_r27 (tb_app tb_wsL_law0_r28 tb_wsL_law0_r29)))))))))))))))))))))))))))) tb_X10) tb_X8) tb_X4) tb_X6) tb_X9) tb_X7) tb_X5) tb_X3) tb_NIL)
